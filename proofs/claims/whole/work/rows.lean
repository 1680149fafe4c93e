section
-- ===== PART A: goes FIRST, ahead of the names: the tables' words, and 'selects' of the private methods out of them =====
/-- a private method of a class that the tables say can be made, by its rows of tables_1 -/
def lw_okq (q : MethodName × Nat) : Prop := (q.1.cls ≠ "java/lang/invoke/MethodHandle" ∧ q.1.cls ≠ "java/lang/invoke/VarHandle") ∧ Cond.instantiable q.1.cls q.2 ∈ tables_1 ∧ Cond.privateMethod q.1 ∈ tables_1 ∧ Cond.instanceMethod q.1 ∈ tables_1
theorem lw_p0 : lw_okq (⟨"java/lang/Throwable", "fillInStackTrace", "(I)Ljava/lang/Throwable;"⟩, 6) := ⟨⟨by decide +kernel, by decide +kernel⟩, List.mem_of_getElem? (i := 426) (by decide +kernel), List.mem_of_getElem? (i := 424) (by decide +kernel), List.mem_of_getElem? (i := 425) (by decide +kernel)⟩
theorem lw_p1 : lw_okq (⟨"NameSpaces", "takePaths", "(I)LNameSpaces$Proc;"⟩, 13) := ⟨⟨by decide +kernel, by decide +kernel⟩, List.mem_of_getElem? (i := 23) (by decide +kernel), List.mem_of_getElem? (i := 466) (by decide +kernel), List.mem_of_getElem? (i := 467) (by decide +kernel)⟩
theorem lw_p2 : lw_okq (⟨"NameSpaces", "processOf", "(I)LNameSpaces$Proc;"⟩, 13) := ⟨⟨by decide +kernel, by decide +kernel⟩, List.mem_of_getElem? (i := 23) (by decide +kernel), List.mem_of_getElem? (i := 470) (by decide +kernel), List.mem_of_getElem? (i := 471) (by decide +kernel)⟩
theorem lw_p3 : lw_okq (⟨"NameSpaces", "walkOrRefuse", "(LNameSpaces$NameSpace;LNameSpaces$Path;I)V"⟩, 13) := ⟨⟨by decide +kernel, by decide +kernel⟩, List.mem_of_getElem? (i := 23) (by decide +kernel), List.mem_of_getElem? (i := 514) (by decide +kernel), List.mem_of_getElem? (i := 515) (by decide +kernel)⟩
theorem lw_p4 : lw_okq (⟨"NameSpaces", "walkNames", "(LNameSpaces$NameSpace;LNameSpaces$Path;I)C"⟩, 13) := ⟨⟨by decide +kernel, by decide +kernel⟩, List.mem_of_getElem? (i := 23) (by decide +kernel), List.mem_of_getElem? (i := 518) (by decide +kernel), List.mem_of_getElem? (i := 519) (by decide +kernel)⟩
theorem lw_p5 : lw_okq (⟨"NameSpaces", "standing", "(LNameSpaces$NameSpace;)LNameSpaces$Handles;"⟩, 13) := ⟨⟨by decide +kernel, by decide +kernel⟩, List.mem_of_getElem? (i := 23) (by decide +kernel), List.mem_of_getElem? (i := 522) (by decide +kernel), List.mem_of_getElem? (i := 523) (by decide +kernel)⟩
theorem lw_p6 : lw_okq (⟨"NameSpaces", "walkFirst", "(LNameSpaces$Handles;C)C"⟩, 13) := ⟨⟨by decide +kernel, by decide +kernel⟩, List.mem_of_getElem? (i := 23) (by decide +kernel), List.mem_of_getElem? (i := 542) (by decide +kernel), List.mem_of_getElem? (i := 543) (by decide +kernel)⟩
theorem lw_p7 : lw_okq (⟨"NameSpaces", "to", "(I)LNameSpaces$Server;"⟩, 13) := ⟨⟨by decide +kernel, by decide +kernel⟩, List.mem_of_getElem? (i := 23) (by decide +kernel), List.mem_of_getElem? (i := 550) (by decide +kernel), List.mem_of_getElem? (i := 551) (by decide +kernel)⟩
theorem lw_p8 : lw_okq (⟨"NameSpaces", "letGo", "(II)V"⟩, 13) := ⟨⟨by decide +kernel, by decide +kernel⟩, List.mem_of_getElem? (i := 23) (by decide +kernel), List.mem_of_getElem? (i := 583) (by decide +kernel), List.mem_of_getElem? (i := 584) (by decide +kernel)⟩
theorem lw_p9 : lw_okq (⟨"NameSpaces", "takeHandles", "(LNameSpaces$NameSpace;LNameSpaces$OpenFile;)V"⟩, 13) := ⟨⟨by decide +kernel, by decide +kernel⟩, List.mem_of_getElem? (i := 23) (by decide +kernel), List.mem_of_getElem? (i := 633) (by decide +kernel), List.mem_of_getElem? (i := 634) (by decide +kernel)⟩
theorem lw_p10 : lw_okq (⟨"NameSpaces", "ownHandle", "()I"⟩, 13) := ⟨⟨by decide +kernel, by decide +kernel⟩, List.mem_of_getElem? (i := 23) (by decide +kernel), List.mem_of_getElem? (i := 637) (by decide +kernel), List.mem_of_getElem? (i := 638) (by decide +kernel)⟩
theorem lw_p11 : lw_okq (⟨"NameSpaces", "copyHandles", "(LNameSpaces$Handles;LNameSpaces$Handles;)V"⟩, 13) := ⟨⟨by decide +kernel, by decide +kernel⟩, List.mem_of_getElem? (i := 23) (by decide +kernel), List.mem_of_getElem? (i := 646) (by decide +kernel), List.mem_of_getElem? (i := 647) (by decide +kernel)⟩
theorem lw_p12 : lw_okq (⟨"NameSpaces", "openHandles", "(LNameSpaces$Handles;I)C"⟩, 13) := ⟨⟨by decide +kernel, by decide +kernel⟩, List.mem_of_getElem? (i := 23) (by decide +kernel), List.mem_of_getElem? (i := 654) (by decide +kernel), List.mem_of_getElem? (i := 655) (by decide +kernel)⟩
theorem lw_p13 : lw_okq (⟨"NameSpaces", "makeFile", "(LNameSpaces$NameSpace;LNameSpaces$OpenFile;Z)V"⟩, 13) := ⟨⟨by decide +kernel, by decide +kernel⟩, List.mem_of_getElem? (i := 23) (by decide +kernel), List.mem_of_getElem? (i := 684) (by decide +kernel), List.mem_of_getElem? (i := 685) (by decide +kernel)⟩
theorem lw_p14 : lw_okq (⟨"NameSpaces", "openedFile", "(II)LNameSpaces$OpenFile;"⟩, 13) := ⟨⟨by decide +kernel, by decide +kernel⟩, List.mem_of_getElem? (i := 23) (by decide +kernel), List.mem_of_getElem? (i := 710) (by decide +kernel), List.mem_of_getElem? (i := 711) (by decide +kernel)⟩
theorem lw_p15 : lw_okq (⟨"NameSpaces", "closeFile", "(LNameSpaces$OpenFile;)V"⟩, 13) := ⟨⟨by decide +kernel, by decide +kernel⟩, List.mem_of_getElem? (i := 23) (by decide +kernel), List.mem_of_getElem? (i := 764) (by decide +kernel), List.mem_of_getElem? (i := 765) (by decide +kernel)⟩
def lw_privs_1 : List (MethodName × Nat) := [(⟨"java/lang/Throwable", "fillInStackTrace", "(I)Ljava/lang/Throwable;"⟩, 6), (⟨"NameSpaces", "takePaths", "(I)LNameSpaces$Proc;"⟩, 13), (⟨"NameSpaces", "processOf", "(I)LNameSpaces$Proc;"⟩, 13), (⟨"NameSpaces", "walkOrRefuse", "(LNameSpaces$NameSpace;LNameSpaces$Path;I)V"⟩, 13), (⟨"NameSpaces", "walkNames", "(LNameSpaces$NameSpace;LNameSpaces$Path;I)C"⟩, 13), (⟨"NameSpaces", "standing", "(LNameSpaces$NameSpace;)LNameSpaces$Handles;"⟩, 13), (⟨"NameSpaces", "walkFirst", "(LNameSpaces$Handles;C)C"⟩, 13), (⟨"NameSpaces", "to", "(I)LNameSpaces$Server;"⟩, 13), (⟨"NameSpaces", "letGo", "(II)V"⟩, 13), (⟨"NameSpaces", "takeHandles", "(LNameSpaces$NameSpace;LNameSpaces$OpenFile;)V"⟩, 13), (⟨"NameSpaces", "ownHandle", "()I"⟩, 13), (⟨"NameSpaces", "copyHandles", "(LNameSpaces$Handles;LNameSpaces$Handles;)V"⟩, 13), (⟨"NameSpaces", "openHandles", "(LNameSpaces$Handles;I)C"⟩, 13), (⟨"NameSpaces", "makeFile", "(LNameSpaces$NameSpace;LNameSpaces$OpenFile;Z)V"⟩, 13), (⟨"NameSpaces", "openedFile", "(II)LNameSpaces$OpenFile;"⟩, 13), (⟨"NameSpaces", "closeFile", "(LNameSpaces$OpenFile;)V"⟩, 13)]
theorem lw_r1 : ∀ q ∈ lw_privs_1, lw_okq q := List.forall_mem_cons.mpr ⟨lw_p0, List.forall_mem_cons.mpr ⟨lw_p1, List.forall_mem_cons.mpr ⟨lw_p2, List.forall_mem_cons.mpr ⟨lw_p3, List.forall_mem_cons.mpr ⟨lw_p4, List.forall_mem_cons.mpr ⟨lw_p5, List.forall_mem_cons.mpr ⟨lw_p6, List.forall_mem_cons.mpr ⟨lw_p7, List.forall_mem_cons.mpr ⟨lw_p8, List.forall_mem_cons.mpr ⟨lw_p9, List.forall_mem_cons.mpr ⟨lw_p10, List.forall_mem_cons.mpr ⟨lw_p11, List.forall_mem_cons.mpr ⟨lw_p12, List.forall_mem_cons.mpr ⟨lw_p13, List.forall_mem_cons.mpr ⟨lw_p14, List.forall_mem_cons.mpr ⟨lw_p15, fun _ h => absurd h List.not_mem_nil⟩⟩⟩⟩⟩⟩⟩⟩⟩⟩⟩⟩⟩⟩⟩⟩
theorem lw_p16 : lw_okq (⟨"NameSpaces", "clunkAll", "(LNameSpaces$Handles;)V"⟩, 13) := ⟨⟨by decide +kernel, by decide +kernel⟩, List.mem_of_getElem? (i := 23) (by decide +kernel), List.mem_of_getElem? (i := 768) (by decide +kernel), List.mem_of_getElem? (i := 769) (by decide +kernel)⟩
theorem lw_p17 : lw_okq (⟨"NameSpaces", "join", "(LNameSpaces$NameSpace;III)I"⟩, 13) := ⟨⟨by decide +kernel, by decide +kernel⟩, List.mem_of_getElem? (i := 23) (by decide +kernel), List.mem_of_getElem? (i := 811) (by decide +kernel), List.mem_of_getElem? (i := 812) (by decide +kernel)⟩
theorem lw_p18 : lw_okq (⟨"NameSpaces", "newMembers", "(LNameSpaces$NameSpace;Z)LNameSpaces$Handles;"⟩, 13) := ⟨⟨by decide +kernel, by decide +kernel⟩, List.mem_of_getElem? (i := 23) (by decide +kernel), List.mem_of_getElem? (i := 820) (by decide +kernel), List.mem_of_getElem? (i := 821) (by decide +kernel)⟩
theorem lw_p19 : lw_okq (⟨"NameSpaces", "oldMembers", "(LNameSpaces$Place;Z)LNameSpaces$Handles;"⟩, 13) := ⟨⟨by decide +kernel, by decide +kernel⟩, List.mem_of_getElem? (i := 23) (by decide +kernel), List.mem_of_getElem? (i := 831) (by decide +kernel), List.mem_of_getElem? (i := 832) (by decide +kernel)⟩
theorem lw_p20 : lw_okq (⟨"NameSpaces", "leastAbsent", "()I"⟩, 13) := ⟨⟨by decide +kernel, by decide +kernel⟩, List.mem_of_getElem? (i := 23) (by decide +kernel), List.mem_of_getElem? (i := 863) (by decide +kernel), List.mem_of_getElem? (i := 864) (by decide +kernel)⟩
theorem lw_p21 : lw_okq (⟨"NameSpaces", "unusedSpace", "()LNameSpaces$NameSpace;"⟩, 13) := ⟨⟨by decide +kernel, by decide +kernel⟩, List.mem_of_getElem? (i := 23) (by decide +kernel), List.mem_of_getElem? (i := 867) (by decide +kernel), List.mem_of_getElem? (i := 868) (by decide +kernel)⟩
theorem lw_p22 : lw_okq (⟨"NameSpaces", "copySpace", "(LNameSpaces$NameSpace;LNameSpaces$NameSpace;)V"⟩, 13) := ⟨⟨by decide +kernel, by decide +kernel⟩, List.mem_of_getElem? (i := 23) (by decide +kernel), List.mem_of_getElem? (i := 872) (by decide +kernel), List.mem_of_getElem? (i := 873) (by decide +kernel)⟩
theorem lw_p23 : lw_okq (⟨"NameSpaces", "emptySpace", "(LNameSpaces$NameSpace;)V"⟩, 13) := ⟨⟨by decide +kernel, by decide +kernel⟩, List.mem_of_getElem? (i := 23) (by decide +kernel), List.mem_of_getElem? (i := 892) (by decide +kernel), List.mem_of_getElem? (i := 893) (by decide +kernel)⟩
theorem lw_p24 : lw_okq (⟨"NameSpaces", "processes", "()I"⟩, 13) := ⟨⟨by decide +kernel, by decide +kernel⟩, List.mem_of_getElem? (i := 23) (by decide +kernel), List.mem_of_getElem? (i := 896) (by decide +kernel), List.mem_of_getElem? (i := 897) (by decide +kernel)⟩
theorem lw_p25 : lw_okq (⟨"NameSpacesModel", "attach", "(II)V"⟩, 42) := ⟨⟨by decide +kernel, by decide +kernel⟩, List.mem_of_getElem? (i := 900) (by decide +kernel), List.mem_of_getElem? (i := 906) (by decide +kernel), List.mem_of_getElem? (i := 907) (by decide +kernel)⟩
theorem lw_p26 : lw_okq (⟨"NameSpacesModel", "ask", "(III)V"⟩, 42) := ⟨⟨by decide +kernel, by decide +kernel⟩, List.mem_of_getElem? (i := 900) (by decide +kernel), List.mem_of_getElem? (i := 910) (by decide +kernel), List.mem_of_getElem? (i := 911) (by decide +kernel)⟩
theorem lw_p27 : lw_okq (⟨"NameSpacesModel", "number", "(II)V"⟩, 42) := ⟨⟨by decide +kernel, by decide +kernel⟩, List.mem_of_getElem? (i := 900) (by decide +kernel), List.mem_of_getElem? (i := 914) (by decide +kernel), List.mem_of_getElem? (i := 915) (by decide +kernel)⟩
theorem lw_p28 : lw_okq (⟨"NameSpacesModel", "back", "(II)V"⟩, 42) := ⟨⟨by decide +kernel, by decide +kernel⟩, List.mem_of_getElem? (i := 900) (by decide +kernel), List.mem_of_getElem? (i := 918) (by decide +kernel), List.mem_of_getElem? (i := 919) (by decide +kernel)⟩
theorem lw_p29 : lw_okq (⟨"NameSpacesModel", "tell", "(I)V"⟩, 42) := ⟨⟨by decide +kernel, by decide +kernel⟩, List.mem_of_getElem? (i := 900) (by decide +kernel), List.mem_of_getElem? (i := 922) (by decide +kernel), List.mem_of_getElem? (i := 923) (by decide +kernel)⟩
theorem lw_p30 : lw_okq (⟨"NameSpacesModel", "sent", "()V"⟩, 42) := ⟨⟨by decide +kernel, by decide +kernel⟩, List.mem_of_getElem? (i := 900) (by decide +kernel), List.mem_of_getElem? (i := 926) (by decide +kernel), List.mem_of_getElem? (i := 927) (by decide +kernel)⟩
theorem lw_p31 : lw_okq (⟨"NameSpacesModel", "isProcess", "(I)Z"⟩, 42) := ⟨⟨by decide +kernel, by decide +kernel⟩, List.mem_of_getElem? (i := 900) (by decide +kernel), List.mem_of_getElem? (i := 1073) (by decide +kernel), List.mem_of_getElem? (i := 1074) (by decide +kernel)⟩
def lw_privs_2 : List (MethodName × Nat) := [(⟨"NameSpaces", "clunkAll", "(LNameSpaces$Handles;)V"⟩, 13), (⟨"NameSpaces", "join", "(LNameSpaces$NameSpace;III)I"⟩, 13), (⟨"NameSpaces", "newMembers", "(LNameSpaces$NameSpace;Z)LNameSpaces$Handles;"⟩, 13), (⟨"NameSpaces", "oldMembers", "(LNameSpaces$Place;Z)LNameSpaces$Handles;"⟩, 13), (⟨"NameSpaces", "leastAbsent", "()I"⟩, 13), (⟨"NameSpaces", "unusedSpace", "()LNameSpaces$NameSpace;"⟩, 13), (⟨"NameSpaces", "copySpace", "(LNameSpaces$NameSpace;LNameSpaces$NameSpace;)V"⟩, 13), (⟨"NameSpaces", "emptySpace", "(LNameSpaces$NameSpace;)V"⟩, 13), (⟨"NameSpaces", "processes", "()I"⟩, 13), (⟨"NameSpacesModel", "attach", "(II)V"⟩, 42), (⟨"NameSpacesModel", "ask", "(III)V"⟩, 42), (⟨"NameSpacesModel", "number", "(II)V"⟩, 42), (⟨"NameSpacesModel", "back", "(II)V"⟩, 42), (⟨"NameSpacesModel", "tell", "(I)V"⟩, 42), (⟨"NameSpacesModel", "sent", "()V"⟩, 42), (⟨"NameSpacesModel", "isProcess", "(I)Z"⟩, 42)]
theorem lw_r2 : ∀ q ∈ lw_privs_2, lw_okq q := List.forall_mem_cons.mpr ⟨lw_p16, List.forall_mem_cons.mpr ⟨lw_p17, List.forall_mem_cons.mpr ⟨lw_p18, List.forall_mem_cons.mpr ⟨lw_p19, List.forall_mem_cons.mpr ⟨lw_p20, List.forall_mem_cons.mpr ⟨lw_p21, List.forall_mem_cons.mpr ⟨lw_p22, List.forall_mem_cons.mpr ⟨lw_p23, List.forall_mem_cons.mpr ⟨lw_p24, List.forall_mem_cons.mpr ⟨lw_p25, List.forall_mem_cons.mpr ⟨lw_p26, List.forall_mem_cons.mpr ⟨lw_p27, List.forall_mem_cons.mpr ⟨lw_p28, List.forall_mem_cons.mpr ⟨lw_p29, List.forall_mem_cons.mpr ⟨lw_p30, List.forall_mem_cons.mpr ⟨lw_p31, fun _ h => absurd h List.not_mem_nil⟩⟩⟩⟩⟩⟩⟩⟩⟩⟩⟩⟩⟩⟩⟩⟩
theorem lw_p32 : lw_okq (⟨"NameSpacesModel", "parsed", "(Z)Z"⟩, 42) := ⟨⟨by decide +kernel, by decide +kernel⟩, List.mem_of_getElem? (i := 900) (by decide +kernel), List.mem_of_getElem? (i := 1077) (by decide +kernel), List.mem_of_getElem? (i := 1078) (by decide +kernel)⟩
theorem lw_p33 : lw_okq (⟨"NameSpacesModel", "charAt", "(ZI)I"⟩, 42) := ⟨⟨by decide +kernel, by decide +kernel⟩, List.mem_of_getElem? (i := 900) (by decide +kernel), List.mem_of_getElem? (i := 1081) (by decide +kernel), List.mem_of_getElem? (i := 1082) (by decide +kernel)⟩
theorem lw_p34 : lw_okq (⟨"NameSpacesModel", "forget", "()V"⟩, 42) := ⟨⟨by decide +kernel, by decide +kernel⟩, List.mem_of_getElem? (i := 900) (by decide +kernel), List.mem_of_getElem? (i := 1088) (by decide +kernel), List.mem_of_getElem? (i := 1089) (by decide +kernel)⟩
theorem lw_p35 : lw_okq (⟨"NameSpacesModel", "freeFile", "(I)I"⟩, 42) := ⟨⟨by decide +kernel, by decide +kernel⟩, List.mem_of_getElem? (i := 900) (by decide +kernel), List.mem_of_getElem? (i := 1092) (by decide +kernel), List.mem_of_getElem? (i := 1093) (by decide +kernel)⟩
theorem lw_p36 : lw_okq (⟨"NameSpacesModel", "opening", "(III)I"⟩, 42) := ⟨⟨by decide +kernel, by decide +kernel⟩, List.mem_of_getElem? (i := 900) (by decide +kernel), List.mem_of_getElem? (i := 1096) (by decide +kernel), List.mem_of_getElem? (i := 1097) (by decide +kernel)⟩
theorem lw_p37 : lw_okq (⟨"NameSpacesModel", "walk", "(II)I"⟩, 42) := ⟨⟨by decide +kernel, by decide +kernel⟩, List.mem_of_getElem? (i := 900) (by decide +kernel), List.mem_of_getElem? (i := 1100) (by decide +kernel), List.mem_of_getElem? (i := 1101) (by decide +kernel)⟩
theorem lw_p38 : lw_okq (⟨"NameSpacesModel", "placeOf", "(III)I"⟩, 42) := ⟨⟨by decide +kernel, by decide +kernel⟩, List.mem_of_getElem? (i := 900) (by decide +kernel), List.mem_of_getElem? (i := 1104) (by decide +kernel), List.mem_of_getElem? (i := 1105) (by decide +kernel)⟩
theorem lw_p39 : lw_okq (⟨"NameSpacesModel", "walkOne", "(III)V"⟩, 42) := ⟨⟨by decide +kernel, by decide +kernel⟩, List.mem_of_getElem? (i := 900) (by decide +kernel), List.mem_of_getElem? (i := 1108) (by decide +kernel), List.mem_of_getElem? (i := 1109) (by decide +kernel)⟩
theorem lw_p40 : lw_okq (⟨"NameSpacesModel", "fresh", "(I)I"⟩, 42) := ⟨⟨by decide +kernel, by decide +kernel⟩, List.mem_of_getElem? (i := 900) (by decide +kernel), List.mem_of_getElem? (i := 1112) (by decide +kernel), List.mem_of_getElem? (i := 1113) (by decide +kernel)⟩
theorem lw_p41 : lw_okq (⟨"NameSpacesModel", "fileOf", "(II)I"⟩, 42) := ⟨⟨by decide +kernel, by decide +kernel⟩, List.mem_of_getElem? (i := 900) (by decide +kernel), List.mem_of_getElem? (i := 1116) (by decide +kernel), List.mem_of_getElem? (i := 1117) (by decide +kernel)⟩
theorem lw_p42 : lw_okq (⟨"NameSpacesModel", "wrong", "(I)V"⟩, 42) := ⟨⟨by decide +kernel, by decide +kernel⟩, List.mem_of_getElem? (i := 900) (by decide +kernel), List.mem_of_getElem? (i := 1120) (by decide +kernel), List.mem_of_getElem? (i := 1121) (by decide +kernel)⟩
theorem lw_p43 : lw_okq (⟨"NameSpacesModel", "inside", "(III)I"⟩, 42) := ⟨⟨by decide +kernel, by decide +kernel⟩, List.mem_of_getElem? (i := 900) (by decide +kernel), List.mem_of_getElem? (i := 1124) (by decide +kernel), List.mem_of_getElem? (i := 1125) (by decide +kernel)⟩
theorem lw_p44 : lw_okq (⟨"NameSpacesModel", "clunk", "(II)V"⟩, 42) := ⟨⟨by decide +kernel, by decide +kernel⟩, List.mem_of_getElem? (i := 900) (by decide +kernel), List.mem_of_getElem? (i := 1128) (by decide +kernel), List.mem_of_getElem? (i := 1129) (by decide +kernel)⟩
theorem lw_p45 : lw_okq (⟨"NameSpacesModel", "own", "()V"⟩, 42) := ⟨⟨by decide +kernel, by decide +kernel⟩, List.mem_of_getElem? (i := 900) (by decide +kernel), List.mem_of_getElem? (i := 1132) (by decide +kernel), List.mem_of_getElem? (i := 1133) (by decide +kernel)⟩
theorem lw_p46 : lw_okq (⟨"NameSpacesModel", "addOpen", "(III)V"⟩, 42) := ⟨⟨by decide +kernel, by decide +kernel⟩, List.mem_of_getElem? (i := 900) (by decide +kernel), List.mem_of_getElem? (i := 1136) (by decide +kernel), List.mem_of_getElem? (i := 1137) (by decide +kernel)⟩
theorem lw_p47 : lw_okq (⟨"NameSpacesModel", "openOne", "(III)V"⟩, 42) := ⟨⟨by decide +kernel, by decide +kernel⟩, List.mem_of_getElem? (i := 900) (by decide +kernel), List.mem_of_getElem? (i := 1140) (by decide +kernel), List.mem_of_getElem? (i := 1141) (by decide +kernel)⟩
def lw_privs_3 : List (MethodName × Nat) := [(⟨"NameSpacesModel", "parsed", "(Z)Z"⟩, 42), (⟨"NameSpacesModel", "charAt", "(ZI)I"⟩, 42), (⟨"NameSpacesModel", "forget", "()V"⟩, 42), (⟨"NameSpacesModel", "freeFile", "(I)I"⟩, 42), (⟨"NameSpacesModel", "opening", "(III)I"⟩, 42), (⟨"NameSpacesModel", "walk", "(II)I"⟩, 42), (⟨"NameSpacesModel", "placeOf", "(III)I"⟩, 42), (⟨"NameSpacesModel", "walkOne", "(III)V"⟩, 42), (⟨"NameSpacesModel", "fresh", "(I)I"⟩, 42), (⟨"NameSpacesModel", "fileOf", "(II)I"⟩, 42), (⟨"NameSpacesModel", "wrong", "(I)V"⟩, 42), (⟨"NameSpacesModel", "inside", "(III)I"⟩, 42), (⟨"NameSpacesModel", "clunk", "(II)V"⟩, 42), (⟨"NameSpacesModel", "own", "()V"⟩, 42), (⟨"NameSpacesModel", "addOpen", "(III)V"⟩, 42), (⟨"NameSpacesModel", "openOne", "(III)V"⟩, 42)]
theorem lw_r3 : ∀ q ∈ lw_privs_3, lw_okq q := List.forall_mem_cons.mpr ⟨lw_p32, List.forall_mem_cons.mpr ⟨lw_p33, List.forall_mem_cons.mpr ⟨lw_p34, List.forall_mem_cons.mpr ⟨lw_p35, List.forall_mem_cons.mpr ⟨lw_p36, List.forall_mem_cons.mpr ⟨lw_p37, List.forall_mem_cons.mpr ⟨lw_p38, List.forall_mem_cons.mpr ⟨lw_p39, List.forall_mem_cons.mpr ⟨lw_p40, List.forall_mem_cons.mpr ⟨lw_p41, List.forall_mem_cons.mpr ⟨lw_p42, List.forall_mem_cons.mpr ⟨lw_p43, List.forall_mem_cons.mpr ⟨lw_p44, List.forall_mem_cons.mpr ⟨lw_p45, List.forall_mem_cons.mpr ⟨lw_p46, List.forall_mem_cons.mpr ⟨lw_p47, fun _ h => absurd h List.not_mem_nil⟩⟩⟩⟩⟩⟩⟩⟩⟩⟩⟩⟩⟩⟩⟩⟩
theorem lw_p48 : lw_okq (⟨"NameSpacesModel", "code", "(IIII)I"⟩, 42) := ⟨⟨by decide +kernel, by decide +kernel⟩, List.mem_of_getElem? (i := 900) (by decide +kernel), List.mem_of_getElem? (i := 1144) (by decide +kernel), List.mem_of_getElem? (i := 1145) (by decide +kernel)⟩
theorem lw_p49 : lw_okq (⟨"NameSpacesModel", "creating", "(IIZ)I"⟩, 42) := ⟨⟨by decide +kernel, by decide +kernel⟩, List.mem_of_getElem? (i := 900) (by decide +kernel), List.mem_of_getElem? (i := 1152) (by decide +kernel), List.mem_of_getElem? (i := 1153) (by decide +kernel)⟩
theorem lw_p50 : lw_okq (⟨"NameSpacesModel", "createOne", "(IIIZ)V"⟩, 42) := ⟨⟨by decide +kernel, by decide +kernel⟩, List.mem_of_getElem? (i := 900) (by decide +kernel), List.mem_of_getElem? (i := 1156) (by decide +kernel), List.mem_of_getElem? (i := 1157) (by decide +kernel)⟩
theorem lw_p51 : lw_okq (⟨"NameSpacesModel", "files", "(I)I"⟩, 42) := ⟨⟨by decide +kernel, by decide +kernel⟩, List.mem_of_getElem? (i := 900) (by decide +kernel), List.mem_of_getElem? (i := 1160) (by decide +kernel), List.mem_of_getElem? (i := 1161) (by decide +kernel)⟩
theorem lw_p52 : lw_okq (⟨"NameSpacesModel", "isOpen", "(II)Z"⟩, 42) := ⟨⟨by decide +kernel, by decide +kernel⟩, List.mem_of_getElem? (i := 900) (by decide +kernel), List.mem_of_getElem? (i := 1168) (by decide +kernel), List.mem_of_getElem? (i := 1169) (by decide +kernel)⟩
theorem lw_p53 : lw_okq (⟨"NameSpacesModel", "readOne", "(III)V"⟩, 42) := ⟨⟨by decide +kernel, by decide +kernel⟩, List.mem_of_getElem? (i := 900) (by decide +kernel), List.mem_of_getElem? (i := 1172) (by decide +kernel), List.mem_of_getElem? (i := 1173) (by decide +kernel)⟩
theorem lw_p54 : lw_okq (⟨"NameSpacesModel", "listed", "(III)I"⟩, 42) := ⟨⟨by decide +kernel, by decide +kernel⟩, List.mem_of_getElem? (i := 900) (by decide +kernel), List.mem_of_getElem? (i := 1176) (by decide +kernel), List.mem_of_getElem? (i := 1177) (by decide +kernel)⟩
theorem lw_p55 : lw_okq (⟨"NameSpacesModel", "writeOne", "(IIII)V"⟩, 42) := ⟨⟨by decide +kernel, by decide +kernel⟩, List.mem_of_getElem? (i := 900) (by decide +kernel), List.mem_of_getElem? (i := 1184) (by decide +kernel), List.mem_of_getElem? (i := 1185) (by decide +kernel)⟩
theorem lw_p56 : lw_okq (⟨"NameSpacesModel", "closing", "(I)V"⟩, 42) := ⟨⟨by decide +kernel, by decide +kernel⟩, List.mem_of_getElem? (i := 900) (by decide +kernel), List.mem_of_getElem? (i := 1192) (by decide +kernel), List.mem_of_getElem? (i := 1193) (by decide +kernel)⟩
theorem lw_p57 : lw_okq (⟨"NameSpacesModel", "opened", "(I)I"⟩, 42) := ⟨⟨by decide +kernel, by decide +kernel⟩, List.mem_of_getElem? (i := 900) (by decide +kernel), List.mem_of_getElem? (i := 1196) (by decide +kernel), List.mem_of_getElem? (i := 1197) (by decide +kernel)⟩
theorem lw_p58 : lw_okq (⟨"NameSpacesModel", "removeOne", "(II)V"⟩, 42) := ⟨⟨by decide +kernel, by decide +kernel⟩, List.mem_of_getElem? (i := 900) (by decide +kernel), List.mem_of_getElem? (i := 1204) (by decide +kernel), List.mem_of_getElem? (i := 1205) (by decide +kernel)⟩
theorem lw_p59 : lw_okq (⟨"NameSpacesModel", "statOne", "(II)V"⟩, 42) := ⟨⟨by decide +kernel, by decide +kernel⟩, List.mem_of_getElem? (i := 900) (by decide +kernel), List.mem_of_getElem? (i := 1212) (by decide +kernel), List.mem_of_getElem? (i := 1213) (by decide +kernel)⟩
theorem lw_p60 : lw_okq (⟨"NameSpacesModel", "isDirectory", "()Z"⟩, 42) := ⟨⟨by decide +kernel, by decide +kernel⟩, List.mem_of_getElem? (i := 900) (by decide +kernel), List.mem_of_getElem? (i := 1216) (by decide +kernel), List.mem_of_getElem? (i := 1217) (by decide +kernel)⟩
theorem lw_p61 : lw_okq (⟨"NameSpacesModel", "bound", "(IIII)I"⟩, 42) := ⟨⟨by decide +kernel, by decide +kernel⟩, List.mem_of_getElem? (i := 900) (by decide +kernel), List.mem_of_getElem? (i := 1227) (by decide +kernel), List.mem_of_getElem? (i := 1228) (by decide +kernel)⟩
theorem lw_p62 : lw_okq (⟨"NameSpacesModel", "clunkMembers", "(I)V"⟩, 42) := ⟨⟨by decide +kernel, by decide +kernel⟩, List.mem_of_getElem? (i := 900) (by decide +kernel), List.mem_of_getElem? (i := 1231) (by decide +kernel), List.mem_of_getElem? (i := 1232) (by decide +kernel)⟩
theorem lw_p63 : lw_okq (⟨"NameSpacesModel", "putMember", "(IIIIZ)V"⟩, 42) := ⟨⟨by decide +kernel, by decide +kernel⟩, List.mem_of_getElem? (i := 900) (by decide +kernel), List.mem_of_getElem? (i := 1235) (by decide +kernel), List.mem_of_getElem? (i := 1236) (by decide +kernel)⟩
def lw_privs_4 : List (MethodName × Nat) := [(⟨"NameSpacesModel", "code", "(IIII)I"⟩, 42), (⟨"NameSpacesModel", "creating", "(IIZ)I"⟩, 42), (⟨"NameSpacesModel", "createOne", "(IIIZ)V"⟩, 42), (⟨"NameSpacesModel", "files", "(I)I"⟩, 42), (⟨"NameSpacesModel", "isOpen", "(II)Z"⟩, 42), (⟨"NameSpacesModel", "readOne", "(III)V"⟩, 42), (⟨"NameSpacesModel", "listed", "(III)I"⟩, 42), (⟨"NameSpacesModel", "writeOne", "(IIII)V"⟩, 42), (⟨"NameSpacesModel", "closing", "(I)V"⟩, 42), (⟨"NameSpacesModel", "opened", "(I)I"⟩, 42), (⟨"NameSpacesModel", "removeOne", "(II)V"⟩, 42), (⟨"NameSpacesModel", "statOne", "(II)V"⟩, 42), (⟨"NameSpacesModel", "isDirectory", "()Z"⟩, 42), (⟨"NameSpacesModel", "bound", "(IIII)I"⟩, 42), (⟨"NameSpacesModel", "clunkMembers", "(I)V"⟩, 42), (⟨"NameSpacesModel", "putMember", "(IIIIZ)V"⟩, 42)]
theorem lw_r4 : ∀ q ∈ lw_privs_4, lw_okq q := List.forall_mem_cons.mpr ⟨lw_p48, List.forall_mem_cons.mpr ⟨lw_p49, List.forall_mem_cons.mpr ⟨lw_p50, List.forall_mem_cons.mpr ⟨lw_p51, List.forall_mem_cons.mpr ⟨lw_p52, List.forall_mem_cons.mpr ⟨lw_p53, List.forall_mem_cons.mpr ⟨lw_p54, List.forall_mem_cons.mpr ⟨lw_p55, List.forall_mem_cons.mpr ⟨lw_p56, List.forall_mem_cons.mpr ⟨lw_p57, List.forall_mem_cons.mpr ⟨lw_p58, List.forall_mem_cons.mpr ⟨lw_p59, List.forall_mem_cons.mpr ⟨lw_p60, List.forall_mem_cons.mpr ⟨lw_p61, List.forall_mem_cons.mpr ⟨lw_p62, List.forall_mem_cons.mpr ⟨lw_p63, fun _ h => absurd h List.not_mem_nil⟩⟩⟩⟩⟩⟩⟩⟩⟩⟩⟩⟩⟩⟩⟩⟩
theorem lw_p64 : lw_okq (⟨"NameSpacesModel", "dropPlace", "(II)V"⟩, 42) := ⟨⟨by decide +kernel, by decide +kernel⟩, List.mem_of_getElem? (i := 900) (by decide +kernel), List.mem_of_getElem? (i := 1247) (by decide +kernel), List.mem_of_getElem? (i := 1248) (by decide +kernel)⟩
theorem lw_p65 : lw_okq (⟨"NameSpacesModel", "processes", "()I"⟩, 42) := ⟨⟨by decide +kernel, by decide +kernel⟩, List.mem_of_getElem? (i := 900) (by decide +kernel), List.mem_of_getElem? (i := 1255) (by decide +kernel), List.mem_of_getElem? (i := 1256) (by decide +kernel)⟩
theorem lw_p66 : lw_okq (⟨"NameSpacesModel", "users", "(I)I"⟩, 42) := ⟨⟨by decide +kernel, by decide +kernel⟩, List.mem_of_getElem? (i := 900) (by decide +kernel), List.mem_of_getElem? (i := 1259) (by decide +kernel), List.mem_of_getElem? (i := 1260) (by decide +kernel)⟩
def lw_privs_5 : List (MethodName × Nat) := [(⟨"NameSpacesModel", "dropPlace", "(II)V"⟩, 42), (⟨"NameSpacesModel", "processes", "()I"⟩, 42), (⟨"NameSpacesModel", "users", "(I)I"⟩, 42)]
theorem lw_r5 : ∀ q ∈ lw_privs_5, lw_okq q := List.forall_mem_cons.mpr ⟨lw_p64, List.forall_mem_cons.mpr ⟨lw_p65, List.forall_mem_cons.mpr ⟨lw_p66, fun _ h => absurd h List.not_mem_nil⟩⟩⟩
def lw_privs : List (MethodName × Nat) := lw_privs_1 ++ (lw_privs_2 ++ (lw_privs_3 ++ (lw_privs_4 ++ (lw_privs_5))))
def lw_tbl : List Cond := k2_sels lw_privs ++ tables_1
theorem lw_privs_ok : ∀ q ∈ lw_privs, lw_okq q := by
  show ∀ q ∈ lw_privs_1 ++ (lw_privs_2 ++ (lw_privs_3 ++ (lw_privs_4 ++ (lw_privs_5)))), lw_okq q
  exact List.forall_mem_append.mpr ⟨lw_r1, List.forall_mem_append.mpr ⟨lw_r2, List.forall_mem_append.mpr ⟨lw_r3, List.forall_mem_append.mpr ⟨lw_r4, lw_r5⟩⟩⟩⟩
end
section
/-! ===== BEGIN words of one list among another's, by their places ===== -/
theorem goodIn_r {big : List Cond} (ws : List Cond) (ps : List Nat) (hp : ws = ps.filterMap (fun i => big[i]?)) (h : ws.all goodWord = true) : GoodIn big ws := by
  intro w hw
  have h1 := List.all_eq_true.mp h w hw
  rw [hp] at hw
  obtain ⟨i, -, hi⟩ := List.mem_filterMap.mp hw
  have hm : w ∈ big := by first | exact List.mem_of_getElem? hi | exact List.getElem?_mem hi
  exact ⟨hm, good_of_word h1⟩
theorem goodIn_app {big a b : List Cond} (ha : GoodIn big a) (hb : GoodIn big b) : GoodIn big (a ++ b) := fun w h => (List.mem_append.mp h).elim (ha w) (hb w)
theorem goodIn_ca {big a b : List Cond} {c : Cond} (ha : GoodIn big (c :: a)) (hb : GoodIn big b) : GoodIn big (c :: (a ++ b)) := fun w h => (List.mem_cons.mp h).elim (fun e => ha w (List.mem_cons.mpr (Or.inl e))) (fun h => (List.mem_append.mp h).elim (fun h => ha w (List.mem_cons.mpr (Or.inr h))) (hb w))
theorem goodIn_sub {big ws : List Cond} (hm : ∀ w ∈ ws, w ∈ big) (h : ws.all goodWord = true) : GoodIn big ws := fun w hw => ⟨hm w hw, good_of_word (List.all_eq_true.mp h w hw)⟩
/-! ===== END ===== -/

/-! ===== BEGIN exceptions that leave a method, and their catching by the caller (launches without stack traces) ===== -/
section VXA
/-! The laws vx_back, vx_callV, vx_callS, vx_callSW, vx_throw0, vx_throwS follow proofs of the library, with one case more: JvmDerived/Free/Laws.lean (Back.of_free), Shelf42/LK1.lean (callV, callS), Shelf/KitTraced.lean (throwNew0V, throwNewS). -/
/-- where a method has thrown q: the class by its name, the cell, what was written, the world -/
def vx_T (XC : String → State → State → Prop) (st : State) (q : Addr) (t : State) (mc ms : Nat) (free : Addr → Prop) : Prop :=
  ∃ (E : String) (ce : Cell) (L : List Loc), XC E st t ∧ t.heap[q]? = some ce ∧ ce.vm = .none ∧ st.vm.findClass E = some ce.cls ∧ st.WarmedH t.vm ∧ st.sameButNew ({ t with vm := st.vm } : State) L mc ms ∧ ∀ z ∈ L, free z.base
def vx_Q (Qc : Array Value → State → Outcome → State → Prop) (XC : String → State → State → Prop) (mc ms : Nat) (free : Addr → Prop) : Array Value → State → Outcome → State → Prop := fun a st o t =>
  (Qc a st o t ∧ ∃ L, FrameEnd st o t L mc ms ∧ ∀ q ∈ L, free q.base) ∨ ∃ q, o = .threw q ∧ vx_T XC st q t mc ms free
/-- a callee that returns or throws -/
def vx_Met (l : Launch) (y : MethodName) (ws : List Cond) (rm : Room) (Pc : Array Value → State → Prop) (Qc : Array Value → State → Outcome → State → Prop) (XC : String → State → State → Prop) (mc ms : Nat) (free : Addr → Prop) : Prop :=
  MetFree l y (headSpec ws rm) Pc (fun _ _ _ _ _ => True) (vx_Q Qc XC mc ms free)
def vx_Post (XC : String → State → State → Prop) (mc ms : Nat) (free : Addr → Prop) : Pt → Array Value → Addr → Pt → Prop := fun A a q B =>
  ∃ (g : JFrame) (mk : MethodId) (t : State) (L : List Loc) (E : String) (ce : Cell), B.U.heap = t.heap ∧ B.U.vm = t.vm ∧ XC E (A.U.calling g mk a) t ∧ t.heap[q]? = some ce ∧ ce.vm = .none ∧ A.U.vm.findClass E = some ce.cls ∧ B.locs = A.locs ++ L ∧ (∀ z ∈ L, free z.base) ∧ B.cells = A.cells + mc ∧ B.slots = A.slots + ms
def vx_Back (l : Launch) (R : Room) (p : Program) (e : Env) (below : List Frame) (s : State) (sargs : Array Value) (y : MethodName) (len W9 : Nat)
    (Pre : Pt → Array Value → Prop) (Post : Pt → Array Value → Option Value → Pt → Prop) (PostX : Pt → Array Value → Addr → Pt → Prop) : Prop :=
  ∀ (m : MethodId) (meth : Method) (c : Code) (A : Pt) (g : JFrame) (ig : Instr) (mk : MethodId) (a : Array Value),
    Stand p l e R s m sargs below meth c A.U A.locs A.cells A.slots → g.method = m → g.locals.size = c.maxLocals → decode c.code g.pc = .ok (ig, len) →
    2 * g.monitorRoom + (g.stack.map fun v => v.category).sum ≤ W9 → A.U.methodNamed? y = some mk → Pre A a →
    (∃ (v : Option Value) (B : Pt), Stand p l e R s m sargs below meth c B.U B.locs B.cells B.slots ∧ Post A a v B ∧
      Steps p.tables e below (doInvoke e (A.U.setTop g) [] mk a).1 (B.U.setTop { g with pc := g.pc + len, stack := v.toList ++ g.stack })) ∨
    (∃ (q : Addr) (B : Pt), Stand p l e R s m sargs below meth c B.U B.locs B.cells B.slots ∧ PostX A a q B ∧
      Steps p.tables e below (doInvoke e (A.U.setTop g) [] mk a).1 ((B.U.setTop g).pushFrame (.throwing q)))
section Payer
variable {l : Launch} {R : Room} {p : Program} {e : Env} {below : List Frame} {s : State} {sargs : Array Value} {y : MethodName} {len W9 : Nat}
theorem vx_back {ws : List Cond} {rm : Room} {Pc : Array Value → State → Prop} {Qc : Array Value → State → Outcome → State → Prop} {XC : String → State → State → Prop} {mc ms : Nat} {free : Addr → Prop} {bytes : ByteArray} {maxL : Nat} {ret : Option FieldType}
    (hM : vx_Met l y ws rm Pc Qc XC mc ms free) (hblind : FrameBlind Pc) (hrc : rm.cells = mc) (hrs : rm.slots = ms)
    (hframes : rm.frames + 1 ≤ R.frames) (hlocals : W9 + (maxL + 11) + rm.locals ≤ R.locals)
    (hws : ∀ w ∈ ws, ∀ a' U, s.WarmedH U.vm → w.before a' U = true) (hcode : Cond.code y bytes maxL ret ∈ ws) (hinit : ∀ a' U, s.WarmedH U.vm → (Cond.initialized y.cls).before a' U = true) :
    vx_Back l R p e below s sargs y len W9 (PreOf R mc ms Pc) (PostOf Qc mc ms free) (vx_Post XC mc ms free) := by
  intro m meth c A g ig mk a X hg hsize hdg hW hn hp
  have h1 : (headSpec ws rm).pre.before a A.U = true := atoms_intro fun w hw => hws w hw _ _ X.warmed
  have h2 : (Cond.code y bytes maxL ret).before a A.U = true := hws _ hcode _ _ X.warmed
  have h3 : (Cond.initialized y.cls).before a A.U = true := hinit _ _ X.warmed
  have h4 : A.cells + (headSpec ws rm).room.cells ≤ R.cells := by rw [show (headSpec ws rm).room.cells = mc from hrc]; exact hp.1
  have h5 : A.slots + (headSpec ws rm).room.slots ≤ R.slots := by rw [show (headSpec ws rm).room.slots = ms from hrs]; exact hp.2.1
  have hPc : Pc a (A.U.calling g mk a) := hblind _ _ _ _ hp.2.2
  obtain ⟨U, Ls, c0, s0⟩ := A
  dsimp only [Pt.U, Pt.locs, Pt.cells, Pt.slots] at h1 h2 h3 h4 h5 X hn hPc ⊢
  obtain ⟨methY, cY, hmY, hcY, -, hlY, -, -, -, -⟩ := Cond.code_spec hn h2
  obtain ⟨kY, hkY, -⟩ := className_of_methodNamed hn
  have hinitY : kY.init = .initialized := Cond.initialized_spec (findClass_of_methodNamed hn) hkY h3
  have h : At U g.method c below := by rw [hg]; exact X.here
  have hlocals9 : W9 + (maxL + 11) + (headSpec ws rm).room.locals ≤ R.locals := hlocals
  have happ : (headSpec ws rm).appliesLoose y e.platform (U.calling g mk a) = true :=
    Spec.appliesLoose_calling (g := g) h hdg hn hkY hinitY
      (X.room_calling (g := g) (R' := (headSpec ws rm).room) hsize hmY hcY hframes (by rw [hlY]; omega) h4 h5) h1
  obtain ⟨mid, hmid⟩ := h.above
  have hfr : (U.setTop g).frames = (.java g :: mid) ++ below := by rw [State.frames_setTop' g h.top, hmid]; rfl
  obtain ⟨o, s₂, hsteps, -, hend, hq⟩ := Steps.callFree hM p X.admits X.cas X.clock (acts := []) hfr happ hPc trivial
  have hq' : vx_Q Qc XC mc ms free a (U.calling g mk a) o s₂ := hq
  rw [State.frames_setTop' g h.top] at hend
  obtain ⟨g₀, hg0⟩ := Option.isSome_iff_exists.mp h.top
  obtain ⟨r, hr⟩ := State.topJava?_eq_some.mp hg0
  have hr' : (({ U with heap := s₂.heap, slotsUsed := s₂.slotsUsed } : State).setVm s₂.vm).frames = .java g₀ :: r := hr
  rcases hq' with ⟨hqc, L, hfe, hL⟩ | ⟨q, rfl, E, ce, L, hx, hce, hcv, hcl, hW₂, hsm, hL⟩
  · obtain ⟨⟨v, rfl⟩, hW₂, e2, q2, q3, q4, q5, q6⟩ := id hfe
    have e3 : s₂ = ({ (U.calling g mk a).setFrames s₂.frames with heap := s₂.heap, slotsUsed := s₂.slotsUsed } : State).setVm s₂.vm := by
      have : s₂ = ({ s₂ with vm := (U.calling g mk a).vm } : State).setVm s₂.vm := rfl
      rw [e2] at this
      exact this
    obtain ⟨c₂, i₂, len₂, hc₂, hd₂, hf₂⟩ := hend
    have hW' : U.WarmedH s₂.vm := hW₂
    have hcc : c₂ = c := by
      have h1 : s₂.code? g.method = U.code? g.method := by
        rw [State.code?_eq, State.code?_eq, hW'.alike.method?]
      exact Option.some.inj (hc₂.symm.trans (h1.trans h.code))
    subst hcc
    have hlen : len₂ = len := by rw [hdg] at hd₂; cases hd₂; rfl
    subst hlen
    have hs₂ : s₂ = (({ U with heap := s₂.heap, slotsUsed := s₂.slotsUsed } : State).setVm s₂.vm).setTop { g with pc := g.pc + len₂, stack := v.toList ++ g.stack } := by
      refine e3.trans ?_
      rw [hf₂, State.calling_eq h.top, State.setFrames_setFrames, State.setTop_of_frames _ hr', hr]
      rfl
    have hsame : U.sameButNew ({ U with heap := s₂.heap, slotsUsed := s₂.slotsUsed } : State) L mc ms := by
      refine ⟨?_, q2, q3, q4, q5, q6⟩
      obtain ⟨t, ht, -⟩ := State.frames_cons hr
      show ({ U with heap := s₂.heap, slotsUsed := s₂.slotsUsed } : State) = { U.setFrames U.frames with heap := s₂.heap, slotsUsed := s₂.slotsUsed }
      rw [State.setFrames_self ht]
    subst hg
    refine Or.inl ⟨v, ⟨(({ U with heap := s₂.heap, slotsUsed := s₂.slotsUsed } : State).setVm s₂.vm), Ls ++ L, c0 + mc, s0 + ms⟩,
      ⟨X.admits, X.cas, X.clock, X.frames, X.room, X.hears, X.method, X.code, (X.here.setHeapUsed s₂.heap s₂.slotsUsed).setVm hW'.alike, X.tail, State.WarmedH.trans X.warmed hW', X.limits, X.bytes, X.same.trans (hsame.setVm s.vm)⟩,
      ⟨g, mk, s₂, L, rfl, rfl, hqc, rfl, hL, rfl, rfl⟩, ?_⟩
    show Steps p.tables e below _ ((({ U with heap := s₂.heap, slotsUsed := s₂.slotsUsed } : State).setVm s₂.vm).setTop { g with pc := g.pc + len₂, stack := v.toList ++ g.stack })
    rw [← hs₂]
    exact hsteps
  · obtain ⟨e2, q2, q3, q4, q5, q6⟩ := id hsm
    have e3 : s₂ = ({ (U.calling g mk a).setFrames s₂.frames with heap := s₂.heap, slotsUsed := s₂.slotsUsed } : State).setVm s₂.vm := by
      have : s₂ = ({ s₂ with vm := (U.calling g mk a).vm } : State).setVm s₂.vm := rfl
      rw [e2] at this
      exact this
    have hf₂ : s₂.frames = .throwing q :: .java g :: U.frames.tail := hend
    have hW' : U.WarmedH s₂.vm := hW₂
    have hs₂ : s₂ = ((({ U with heap := s₂.heap, slotsUsed := s₂.slotsUsed } : State).setVm s₂.vm).setTop g).pushFrame (.throwing q) := by
      refine e3.trans ?_
      rw [hf₂, State.calling_eq h.top, State.setFrames_setFrames, State.pushFrame, State.frames_setTop _ hr', State.setTop_of_frames _ hr', State.setFrames_setFrames, hr]
      rfl
    have hsame : U.sameButNew ({ U with heap := s₂.heap, slotsUsed := s₂.slotsUsed } : State) L mc ms := by
      refine ⟨?_, q2, q3, q4, q5, q6⟩
      obtain ⟨t, ht, -⟩ := State.frames_cons hr
      show ({ U with heap := s₂.heap, slotsUsed := s₂.slotsUsed } : State) = { U.setFrames U.frames with heap := s₂.heap, slotsUsed := s₂.slotsUsed }
      rw [State.setFrames_self ht]
    subst hg
    refine Or.inr ⟨q, ⟨(({ U with heap := s₂.heap, slotsUsed := s₂.slotsUsed } : State).setVm s₂.vm), Ls ++ L, c0 + mc, s0 + ms⟩,
      ⟨X.admits, X.cas, X.clock, X.frames, X.room, X.hears, X.method, X.code, (X.here.setHeapUsed s₂.heap s₂.slotsUsed).setVm hW'.alike, X.tail, State.WarmedH.trans X.warmed hW', X.limits, X.bytes, X.same.trans (hsame.setVm s.vm)⟩,
      ⟨g, mk, s₂, L, E, ce, rfl, rfl, hx, hce, hcv, hcl, rfl, hL, rfl, rfl⟩, ?_⟩
    show Steps p.tables e below _ (((({ U with heap := s₂.heap, slotsUsed := s₂.slotsUsed } : State).setVm s₂.vm).setTop g).pushFrame (.throwing q))
    rw [← hs₂]
    exact hsteps
end Payer
section Calls
variable {p : Program} {l : Launch} {e : Env} {R : Room} {s : State} {m : MethodId} {args : Array Value} {below : List Frame} {meth : Method} {c : Code} {T : State} {locs : List Loc} {cells slots : Nat}
theorem vx_callV (X : Stand p l e R s m args below meth c T locs cells slots) (hexec : p.tables.exec = Jvm.exec) {own C : String} {index : Nat} {y : MethodName} {bytes : ByteArray} {maxL : Nat} {ret : Option FieldType}
    (hown : s.vm.findClass own = some m.cls) (hlink : (Cond.methodLink own index y).before args s = true) (hinst : (Cond.instanceMethod y).before args s = true) (hsel : (Cond.selects C y y).before args s = true)
    (hcode : (Cond.code y bytes maxL ret).before args s = true) (hy : y.cls ≠ "java/lang/invoke/MethodHandle" ∧ y.cls ≠ "java/lang/invoke/VarHandle")
    {W9 : Nat} {Pre : Pt → Array Value → Prop} {Post : Pt → Array Value → Option Value → Pt → Prop} {PostX : Pt → Array Value → Addr → Pt → Prop} (hK : vx_Back l R p e below s args y 3 W9 Pre Post PostX)
    {b : Addr} {cellB : Cell} (hcell : T.heap[b]? = some cellB) (hobj : cellB.vm.isStatics = false) (hcls : s.vm.findClass C = some cellB.cls)
    {g : JFrame} (hg : g.method = m) (hsize : g.locals.size = c.maxLocals) {argsL rest : List Value} (hlen : ∀ sig, parseMethodDescriptor y.desc = some sig → argsL.length = sig.parameters.length)
    (hstack : g.stack = argsL.reverse ++ .ref b :: rest) (hW : 2 * g.monitorRoom + (rest.map fun v => v.category).sum ≤ W9) (hdg : decode c.code g.pc = .ok (.invokevirtual index, 3))
    (hpre : ∀ vm₁, s.WarmedH vm₁ → Pre ⟨T.setVm vm₁, locs, cells, slots⟩ (Value.ref b :: argsL).toArray) :
    (∃ (v : Option Value) (vm₁ : Vm) (B : Pt), s.WarmedH vm₁ ∧ Stand p l e R s m args below meth c B.U B.locs B.cells B.slots ∧ Post ⟨T.setVm vm₁, locs, cells, slots⟩ (Value.ref b :: argsL).toArray v B ∧
      ∀ target, Steps p.tables e below (B.U.setTop { g with pc := g.pc + 3, stack := v.toList ++ rest }) target → Steps p.tables e below (T.setTop g) target) ∨
    (∃ (q : Addr) (vm₁ : Vm) (B : Pt), s.WarmedH vm₁ ∧ Stand p l e R s m args below meth c B.U B.locs B.cells B.slots ∧ PostX ⟨T.setVm vm₁, locs, cells, slots⟩ (Value.ref b :: argsL).toArray q B ∧
      Steps p.tables e below (T.setTop g) ((B.U.setTop { g with stack := rest }).pushFrame (.throwing q))) := by
  obtain ⟨mk, methM, hnamed, hmethM, hstM, habM⟩ := Cond.instanceMethod_spec hinst
  obtain ⟨methM', cM, hmethM', -, -, -, -, -, -, hsigM⟩ := Cond.code_spec hnamed hcode
  cases hmethM.symm.trans hmethM'
  obtain ⟨c2, r2, m2, q1, q2, q3, q4, kP, hkP, hkPi⟩ := Cond.selects_spec hsel
  cases hcls.symm.trans q1
  cases (State.methodFound?_of_named hnamed hy).symm.trans q2
  cases hnamed.symm.trans q3
  have hselP : selectMethod e.platform s.vm cellB.cls mk = .method mk := by rw [Launch.admits_selectMethod X.admits]; exact q4
  obtain ⟨vm₁, X₁, hstep₁⟩ := X.invokevirtual hexec hown hlink hnamed hmethM hstM hkP hkPi hy (a := b) (cell := cellB) hcell
    (fun z h => by rw [h] at hobj; cases hobj) hselP hmethM habM hkP hkPi (g := g) hg (argsL := argsL) (rest := rest) (hlen _ hsigM) hstack hdg
  rcases hK m meth c ⟨T.setVm vm₁, locs, cells, slots⟩ { g with stack := rest } (.invokevirtual index) mk (Value.ref b :: argsL).toArray X₁ hg hsize hdg hW (X₁.named hnamed) (hpre vm₁ X₁.warmed) with ⟨v, B, X', hpost, hsteps⟩ | ⟨q, B, X', hpost, hsteps⟩
  · exact Or.inl ⟨v, vm₁, B, X₁.warmed, X', hpost, fun target h => hstep₁ _ fun acts => by rw [doInvoke_state]; exact hsteps.trans h⟩
  · exact Or.inr ⟨q, vm₁, B, X₁.warmed, X', hpost, hstep₁ _ fun acts => by rw [doInvoke_state]; exact hsteps⟩
theorem vx_callS (X : Stand p l e R s m args below meth c T locs cells slots) (hexec : p.tables.exec = Jvm.exec) {own : String} {index : Nat} {y : MethodName} {bytes : ByteArray} {maxL : Nat} {ret : Option FieldType}
    (hown : s.vm.findClass own = some m.cls) (hlink : (Cond.methodLink own index y).before args s = true) (hstat : (Cond.static y).before args s = true) (hinit : (Cond.initialized y.cls).before args s = true)
    (hcode : (Cond.code y bytes maxL ret).before args s = true) (hy : y.cls ≠ "java/lang/invoke/MethodHandle" ∧ y.cls ≠ "java/lang/invoke/VarHandle")
    {W9 : Nat} {Pre : Pt → Array Value → Prop} {Post : Pt → Array Value → Option Value → Pt → Prop} {PostX : Pt → Array Value → Addr → Pt → Prop} (hK : vx_Back l R p e below s args y 3 W9 Pre Post PostX)
    {g : JFrame} (hg : g.method = m) (hsize : g.locals.size = c.maxLocals) {argsL rest : List Value} (hlen : ∀ sig, parseMethodDescriptor y.desc = some sig → argsL.length = sig.parameters.length)
    (hstack : g.stack = argsL.reverse ++ rest) (hW : 2 * g.monitorRoom + (rest.map fun v => v.category).sum ≤ W9) (hdg : decode c.code g.pc = .ok (.invokestatic index, 3))
    (hpre : ∀ vm₁, s.WarmedH vm₁ → Pre ⟨T.setVm vm₁, locs, cells, slots⟩ argsL.toArray) :
    (∃ (v : Option Value) (vm₁ : Vm) (B : Pt), s.WarmedH vm₁ ∧ Stand p l e R s m args below meth c B.U B.locs B.cells B.slots ∧ Post ⟨T.setVm vm₁, locs, cells, slots⟩ argsL.toArray v B ∧
      ∀ target, Steps p.tables e below (B.U.setTop { g with pc := g.pc + 3, stack := v.toList ++ rest }) target → Steps p.tables e below (T.setTop g) target) ∨
    (∃ (q : Addr) (vm₁ : Vm) (B : Pt), s.WarmedH vm₁ ∧ Stand p l e R s m args below meth c B.U B.locs B.cells B.slots ∧ PostX ⟨T.setVm vm₁, locs, cells, slots⟩ argsL.toArray q B ∧
      Steps p.tables e below (T.setTop g) ((B.U.setTop { g with stack := rest }).pushFrame (.throwing q))) := by
  obtain ⟨mk, hnamed⟩ := Cond.code_named hcode
  obtain ⟨methM, cM, hmethM, -, -, -, -, -, -, hsigM⟩ := Cond.code_spec hnamed hcode
  have hstatic : methM.isStatic = true := Cond.static_spec hnamed hmethM hstat
  obtain ⟨kP, hkP, -⟩ := className_of_methodNamed hnamed
  have hinitP : kP.init = .initialized := Cond.initialized_spec (findClass_of_methodNamed hnamed) hkP hinit
  obtain ⟨vm₁, X₁, hstep₁⟩ := X.invokestatic hexec hown hlink hnamed hmethM hstatic hkP hinitP hy (g := g) hg (argsL := argsL) (rest := rest) (hlen _ hsigM) hstack hdg
  rcases hK m meth c ⟨T.setVm vm₁, locs, cells, slots⟩ { g with stack := rest } (.invokestatic index) mk argsL.toArray X₁ hg hsize hdg hW (X₁.named hnamed) (hpre vm₁ X₁.warmed) with ⟨v, B, X', hpost, hsteps⟩ | ⟨q, B, X', hpost, hsteps⟩
  · exact Or.inl ⟨v, vm₁, B, X₁.warmed, X', hpost, fun target h => hstep₁ _ fun acts => by rw [doInvoke_state]; exact hsteps.trans h⟩
  · exact Or.inr ⟨q, vm₁, B, X₁.warmed, X', hpost, hstep₁ _ fun acts => by rw [doInvoke_state]; exact hsteps⟩
end Calls
theorem vx_cls {s : State} {T : State} {vm₁ : Vm} {E : String} {k : ClassId} (hW : s.WarmedH vm₁) (h : (T.setVm vm₁).vm.findClass E = some k) : s.vm.findClass E = some k := by
  have h1 : vm₁.findClass E = some k := h
  rw [hW.alike.findClass] at h1
  exact h1
/-- the method's frame g, with q thrown over it -/
def vx_W (p : Program) (l : Launch) (e : Env) (R : Room) (s : State) (m : MethodId) (args : Array Value) (below : List Frame) (meth : Method) (c : Code) (H : Heap) (locs : List Loc) (cells slots : Nat) (Q : State → Prop) (g : JFrame) (q : Addr) : Prop :=
  ∀ T : State, T.heap = H → Stand p l e R s m args below meth c T locs cells slots → ∃ t, Steps p.tables e below ((T.setTop g).pushFrame (.throwing q)) t ∧ Q t
def vx_Run (p : Program) (l : Launch) (e : Env) (R : Room) (s : State) (m : MethodId) (args : Array Value) (below : List Frame) (meth : Method) (c : Code) (H : Heap) (locs : List Loc) (cells slots mc ms : Nat) (g : JFrame) (rest : List Value) (Qa : State → Outcome → State → Prop) (XC : String → State → State → Prop) (free : Addr → Prop) : Prop :=
  ∀ T : State, T.heap = H → Stand p l e R s m args below meth c T locs cells slots →
    (∃ (v : Option Value) (st₀ t T' : State) (L : List Loc), st₀.heap = H ∧ Stand p l e R s m args below meth c T' (locs ++ L) (cells + mc) (slots + ms) ∧ (∀ q ∈ L, free q.base) ∧ T'.heap = t.heap ∧ T'.vm = t.vm ∧ Qa st₀ (.returned v) t ∧
      Goes p e below T g T' { g with pc := g.pc + 3, stack := v.toList ++ rest }) ∨
    (∃ (q : Addr) (st₀ t T' : State) (L : List Loc) (E : String) (ce : Cell), st₀.heap = H ∧ Stand p l e R s m args below meth c T' (locs ++ L) (cells + mc) (slots + ms) ∧ (∀ z ∈ L, free z.base) ∧ T'.heap = t.heap ∧ T'.vm = t.vm ∧ XC E st₀ t ∧ t.heap[q]? = some ce ∧ ce.vm = .none ∧ s.vm.findClass E = some ce.cls ∧
      Steps p.tables e below (T.setTop g) ((T'.setTop { g with stack := rest }).pushFrame (.throwing q)))
def vx_X {S : Type} (px : S → Prop) (B : String → S → State → Prop) (A : Nat → Prop) : String → State → State → Prop := fun E st t => ∃ u : S, px u ∧ B E u t ∧ va_F A st t
section Runs
variable {p : Program} {l : Launch} {e : Env} {R : Room} {s : State} {m : MethodId} {args : Array Value} {below : List Frame} {meth : Method} {c : Code} {H : Heap} {locs : List Loc} {cells slots : Nat}
variable {y : MethodName} {bytes cc : ByteArray} {maxL nL mc ms n index : Nat} {ret : Option FieldType} {ws : List Cond} {rm : Room} {Pc : Array Value → State → Prop} {Qc : Array Value → State → Outcome → State → Prop} {XC : String → State → State → Prop} {free : Addr → Prop} {Ts : List Cond} {own C : String} {b : Addr} {As rest : List Value} {g : JFrame}
theorem vx_callBack (cb : CallB R s args own index y bytes maxL ret ws rm mc ms n) (hM : vx_Met l y ws rm Pc Qc XC mc ms free) (hbl : FrameBlind Pc) : vx_Back l R p e below s args y 3 8 (PreOf R mc ms Pc) (PostOf Qc mc ms free) (vx_Post XC mc ms free) := by
  obtain ⟨hrc, hrs, hfr, hlo, hws, hcw, -, hini, -⟩ := cb
  exact vx_back (bytes := bytes) (maxL := maxL) (ret := ret) hM hbl hrc hrs hfr hlo hws hcw (fun a' U hW => word_at hW (Or.inl (by first | rfl | simp [Cond.onTables, Cond.keeps, Cond.steady])) hini)
theorem vx_runV (S : CallFix p m c cc nL s args Ts own) (hM : vx_Met l y ws rm Pc Qc XC mc ms free) (cw : CallW R s args own C index y bytes maxL ret ws rm mc ms n) (hp : PreV s H C b Pc As)
    (hg : g.method = m) (hn : As.length = n) (hsize : g.locals.size = nL) (hstack : g.stack = As.reverse ++ .ref b :: rest) (hW : 2 * g.monitorRoom + (rest.map fun v => v.category).sum ≤ 8) (hdg : decode cc g.pc = .ok (.invokevirtual index, 3)) (hf : cells + mc ≤ R.cells ∧ slots + ms ≤ R.slots) :
    vx_Run p l e R s m args below meth c H locs cells slots mc ms g rest (Qc (Value.ref b :: As).toArray) XC free := by
  have hK : vx_Back l R p e below s args y 3 8 (PreOf R mc ms Pc) (PostOf Qc mc ms free) (vx_Post XC mc ms free) := vx_callBack cw.1 hM hp.1
  obtain ⟨⟨-, -, -, -, -, -, hcode, -, hy, hlen, hl⟩, hin, hse⟩ := cw
  obtain ⟨hx, hb, hml, ho, -⟩ := S
  obtain ⟨-, ⟨cellB, hcB, hoB, hclB⟩, hPc⟩ := hp
  intro T hT X
  rcases vx_callV X hx (C := C) (bytes := bytes) (maxL := maxL) (ret := ret) ho hl hin hse hcode hy hK (by rw [hT]; exact hcB) hoB hclB hg (hsize.trans hml.symm) (argsL := As) (rest := rest) (fun sig h => hn.trans (hlen sig h)) hstack hW (by rw [hb]; exact hdg)
    (fun vm₁ hW₁ => ⟨hf.1, hf.2, hPc (T.setVm vm₁) hT hW₁⟩) with ⟨v, vm₁, ⟨U', l2, c2, s2⟩, hW₁, X', ⟨g', mk, t, L, e1, e2, hq, h1, hL, h2, h3⟩, st⟩ | ⟨q, vm₁, ⟨U', l2, c2, s2⟩, hW₁, X', ⟨g', mk, t, L, E, ce, e1, e2, hq, hce, hcv, hcl, h1, hL, h2, h3⟩, st⟩
  · dsimp only [Pt.U, Pt.locs, Pt.cells, Pt.slots] at X' e1 e2 h1 h2 h3 st
    subst h1; subst h2; subst h3
    exact Or.inl ⟨v, (T.setVm vm₁).calling g' mk (Value.ref b :: As).toArray, t, U', L, hT, X', hL, e1, e2, hq, st⟩
  · dsimp only [Pt.U, Pt.locs, Pt.cells, Pt.slots] at X' e1 e2 h1 h2 h3 st hcl
    subst h1; subst h2; subst h3
    exact Or.inr ⟨q, (T.setVm vm₁).calling g' mk (Value.ref b :: As).toArray, t, U', L, E, ce, hT, X', hL, e1, e2, hq, hce, hcv, vx_cls hW₁ hcl, st⟩
theorem vx_runS (S : CallFix p m c cc nL s args Ts own) (hM : vx_Met l y ws rm Pc Qc XC mc ms free) (cw : CallB R s args own index y bytes maxL ret ws rm mc ms n ∧ (Cond.static y).before args s = true) (hp : PreS s H Pc As)
    (hg : g.method = m) (hn : As.length = n) (hsize : g.locals.size = nL) (hstack : g.stack = As.reverse ++ rest) (hW : 2 * g.monitorRoom + (rest.map fun v => v.category).sum ≤ 8) (hdg : decode cc g.pc = .ok (.invokestatic index, 3)) (hf : cells + mc ≤ R.cells ∧ slots + ms ≤ R.slots) :
    vx_Run p l e R s m args below meth c H locs cells slots mc ms g rest (Qc As.toArray) XC free := by
  have hK : vx_Back l R p e below s args y 3 8 (PreOf R mc ms Pc) (PostOf Qc mc ms free) (vx_Post XC mc ms free) := vx_callBack cw.1 hM hp.1
  obtain ⟨⟨-, -, -, -, -, -, hcode, hini, hy, hlen, hl⟩, hstt⟩ := cw
  obtain ⟨hx, hb, hml, ho, -⟩ := S
  intro T hT X
  rcases vx_callS X hx (bytes := bytes) (maxL := maxL) (ret := ret) ho hl hstt hini hcode hy hK hg (hsize.trans hml.symm) (argsL := As) (rest := rest) (fun sig h => hn.trans (hlen sig h)) hstack hW (by rw [hb]; exact hdg)
    (fun vm₁ hW₁ => ⟨hf.1, hf.2, hp.2 (T.setVm vm₁) hT hW₁⟩) with ⟨v, vm₁, ⟨U', l2, c2, s2⟩, hW₁, X', ⟨g', mk, t, L, e1, e2, hq, h1, hL, h2, h3⟩, st⟩ | ⟨q, vm₁, ⟨U', l2, c2, s2⟩, hW₁, X', ⟨g', mk, t, L, E, ce, e1, e2, hq, hce, hcv, hcl, h1, hL, h2, h3⟩, st⟩
  · dsimp only [Pt.U, Pt.locs, Pt.cells, Pt.slots] at X' e1 e2 h1 h2 h3 st
    subst h1; subst h2; subst h3
    exact Or.inl ⟨v, (T.setVm vm₁).calling g' mk As.toArray, t, U', L, hT, X', hL, e1, e2, hq, st⟩
  · dsimp only [Pt.U, Pt.locs, Pt.cells, Pt.slots] at X' e1 e2 h1 h2 h3 st hcl
    subst h1; subst h2; subst h3
    exact Or.inr ⟨q, (T.setVm vm₁).calling g' mk As.toArray, t, U', L, E, ce, hT, X', hL, e1, e2, hq, hce, hcv, vx_cls hW₁ hcl, st⟩
end Runs
section Rows
variable {p : Program} {l : Launch} {e : Env} {R : Room} {s : State} {m : MethodId} {args : Array Value} {below : List Frame} {meth : Method} {c : Code} {H : Heap} {locs : List Loc} {cells slots : Nat} {Q : State → Prop}
variable {mc ms : Nat} {free : Addr → Prop} {A0 A1 : Nat → Prop} {H0 : Heap} {a : Array Value} {pc : Nat} {ls : Array Slot} {st0 rest : List Value}
theorem vx_keep {st₀ t T' : State} {L : List Loc} (h0 : st₀.heap = H) (e1 : T'.heap = t.heap) (hS : va_S A0 H0 H locs) (hA : ∀ q, q < H.size → A1 q → A0 q) (hf : ∀ q, free q → A0 q) (hL : ∀ q ∈ L, free q.base) (hF : va_F A1 st₀ t) :
    H.size ≤ T'.heap.size ∧ (∀ q : Nat, q < H.size → ¬ A1 q → T'.heap[q]? = H[q]?) ∧ va_S A0 H0 T'.heap (locs ++ L) := by
  obtain ⟨hz, hk⟩ := hF
  rw [h0] at hz hk
  exact ⟨by rw [e1]; exact hz, fun q h1 h2 => by rw [e1]; exact hk q h1 h2,
    ⟨Nat.le_trans hS.1 (by rw [e1]; exact hz), fun q h1 h2 => by rw [e1, hk q (Nat.lt_of_lt_of_le h1 hS.1) (fun z => h2 (hA q (Nat.lt_of_lt_of_le h1 hS.1) z))]; exact hS.2.1 q h1 h2, fun q hq => by
      rcases List.mem_append.mp hq with h | h
      · exact hS.2.2 q h
      · exact hf _ (hL q h)⟩⟩
theorem vx_calli {S SX : Type} {post : Int32 → S → Prop} {px : SX → Prop} {B : S → State → Prop} {BX : String → SX → State → Prop} {AX : Nat → Prop} (hr : vx_Run p l e R s m args below meth c H locs cells slots mc ms (F0 m pc ls st0) rest (va_Qi post B A1 a) (vx_X px BX AX) free) (hS : va_S A0 H0 H locs) (hA : ∀ q, q < H.size → A1 q → A0 q) (hf : ∀ q, free q → A0 q) (hAX : ∀ q, q < H.size → AX q → A0 q)
    (kx : ∀ (E : String) (ce : Cell) (q9 : Addr) (u : SX) (t : State) (H1 : Heap) (locs1 : List Loc), t.heap = H1 → s.vm.Alike t.vm → px u → BX E u t → H.size ≤ H1.size → (∀ q : Nat, q < H.size → ¬ AX q → H1[q]? = H[q]?) → va_S A0 H0 H1 locs1 → H1[q9]? = some ce → ce.vm = .none → s.vm.findClass E = some ce.cls → vx_W p l e R s m args below meth c H1 locs1 (cells + mc) (slots + ms) Q (F0 m pc ls rest) q9)
    (kk : ∀ (r : Int32) (u : S) (t : State) (H1 : Heap) (locs1 : List Loc), t.heap = H1 → s.vm.Alike t.vm → post r u → B u t → H.size ≤ H1.size → (∀ q : Nat, q < H.size → ¬ A1 q → H1[q]? = H[q]?) → va_S A0 H0 H1 locs1 → W p l e R s m args below meth c H1 locs1 (cells + mc) (slots + ms) Q (F0 m (pc + 3) ls (.int r :: rest))) : W p l e R s m args below meth c H locs cells slots Q (F0 m pc ls st0) := by
  intro T hT X
  rcases hr T hT X with ⟨v, st₀, t, T', L, h0, X', hL, e1, e2, ⟨⟨r, u, hv, hp, hb⟩, hF⟩, st⟩ | ⟨q, st₀, t, T', L, E, ce, h0, X', hL, e1, e2, ⟨u, hp, hb, hF⟩, hce, hcv, hcl, st⟩
  · cases hv
    obtain ⟨k1, k2, k3⟩ := vx_keep h0 e1 hS hA hf hL hF
    obtain ⟨t2, a1, b1⟩ := kk r u t T'.heap (locs ++ L) e1.symm (by rw [← e2]; exact X'.warmed.alike) hp hb k1 k2 k3 T' rfl X'
    exact ⟨t2, st t2 a1, b1⟩
  · obtain ⟨k1, k2, k3⟩ := vx_keep h0 e1 hS hAX hf hL hF
    obtain ⟨t2, a1, b1⟩ := kx E ce q u t T'.heap (locs ++ L) e1.symm (by rw [← e2]; exact X'.warmed.alike) hp hb k1 k2 k3 (by rw [e1]; exact hce) hcv hcl T' rfl X'
    exact ⟨t2, st.trans a1, b1⟩
theorem vx_calll {S SX : Type} {post : Int64 → S → Prop} {px : SX → Prop} {B : S → State → Prop} {BX : String → SX → State → Prop} {AX : Nat → Prop} (hr : vx_Run p l e R s m args below meth c H locs cells slots mc ms (F0 m pc ls st0) rest (va_Ql post B A1 a) (vx_X px BX AX) free) (hS : va_S A0 H0 H locs) (hA : ∀ q, q < H.size → A1 q → A0 q) (hf : ∀ q, free q → A0 q) (hAX : ∀ q, q < H.size → AX q → A0 q)
    (kx : ∀ (E : String) (ce : Cell) (q9 : Addr) (u : SX) (t : State) (H1 : Heap) (locs1 : List Loc), t.heap = H1 → s.vm.Alike t.vm → px u → BX E u t → H.size ≤ H1.size → (∀ q : Nat, q < H.size → ¬ AX q → H1[q]? = H[q]?) → va_S A0 H0 H1 locs1 → H1[q9]? = some ce → ce.vm = .none → s.vm.findClass E = some ce.cls → vx_W p l e R s m args below meth c H1 locs1 (cells + mc) (slots + ms) Q (F0 m pc ls rest) q9)
    (kk : ∀ (r : Int64) (u : S) (t : State) (H1 : Heap) (locs1 : List Loc), t.heap = H1 → s.vm.Alike t.vm → post r u → B u t → H.size ≤ H1.size → (∀ q : Nat, q < H.size → ¬ A1 q → H1[q]? = H[q]?) → va_S A0 H0 H1 locs1 → W p l e R s m args below meth c H1 locs1 (cells + mc) (slots + ms) Q (F0 m (pc + 3) ls (.long r :: rest))) : W p l e R s m args below meth c H locs cells slots Q (F0 m pc ls st0) := by
  intro T hT X
  rcases hr T hT X with ⟨v, st₀, t, T', L, h0, X', hL, e1, e2, ⟨⟨r, u, hv, hp, hb⟩, hF⟩, st⟩ | ⟨q, st₀, t, T', L, E, ce, h0, X', hL, e1, e2, ⟨u, hp, hb, hF⟩, hce, hcv, hcl, st⟩
  · cases hv
    obtain ⟨k1, k2, k3⟩ := vx_keep h0 e1 hS hA hf hL hF
    obtain ⟨t2, a1, b1⟩ := kk r u t T'.heap (locs ++ L) e1.symm (by rw [← e2]; exact X'.warmed.alike) hp hb k1 k2 k3 T' rfl X'
    exact ⟨t2, st t2 a1, b1⟩
  · obtain ⟨k1, k2, k3⟩ := vx_keep h0 e1 hS hAX hf hL hF
    obtain ⟨t2, a1, b1⟩ := kx E ce q u t T'.heap (locs ++ L) e1.symm (by rw [← e2]; exact X'.warmed.alike) hp hb k1 k2 k3 (by rw [e1]; exact hce) hcv hcl T' rfl X'
    exact ⟨t2, st.trans a1, b1⟩
theorem vx_callf {S SX : Type} {post : UInt32 → S → Prop} {px : SX → Prop} {B : S → State → Prop} {BX : String → SX → State → Prop} {AX : Nat → Prop} (hr : vx_Run p l e R s m args below meth c H locs cells slots mc ms (F0 m pc ls st0) rest (va_Qf post B A1 a) (vx_X px BX AX) free) (hS : va_S A0 H0 H locs) (hA : ∀ q, q < H.size → A1 q → A0 q) (hf : ∀ q, free q → A0 q) (hAX : ∀ q, q < H.size → AX q → A0 q)
    (kx : ∀ (E : String) (ce : Cell) (q9 : Addr) (u : SX) (t : State) (H1 : Heap) (locs1 : List Loc), t.heap = H1 → s.vm.Alike t.vm → px u → BX E u t → H.size ≤ H1.size → (∀ q : Nat, q < H.size → ¬ AX q → H1[q]? = H[q]?) → va_S A0 H0 H1 locs1 → H1[q9]? = some ce → ce.vm = .none → s.vm.findClass E = some ce.cls → vx_W p l e R s m args below meth c H1 locs1 (cells + mc) (slots + ms) Q (F0 m pc ls rest) q9)
    (kk : ∀ (r : UInt32) (u : S) (t : State) (H1 : Heap) (locs1 : List Loc), t.heap = H1 → s.vm.Alike t.vm → post r u → B u t → H.size ≤ H1.size → (∀ q : Nat, q < H.size → ¬ A1 q → H1[q]? = H[q]?) → va_S A0 H0 H1 locs1 → W p l e R s m args below meth c H1 locs1 (cells + mc) (slots + ms) Q (F0 m (pc + 3) ls (.float r :: rest))) : W p l e R s m args below meth c H locs cells slots Q (F0 m pc ls st0) := by
  intro T hT X
  rcases hr T hT X with ⟨v, st₀, t, T', L, h0, X', hL, e1, e2, ⟨⟨r, u, hv, hp, hb⟩, hF⟩, st⟩ | ⟨q, st₀, t, T', L, E, ce, h0, X', hL, e1, e2, ⟨u, hp, hb, hF⟩, hce, hcv, hcl, st⟩
  · cases hv
    obtain ⟨k1, k2, k3⟩ := vx_keep h0 e1 hS hA hf hL hF
    obtain ⟨t2, a1, b1⟩ := kk r u t T'.heap (locs ++ L) e1.symm (by rw [← e2]; exact X'.warmed.alike) hp hb k1 k2 k3 T' rfl X'
    exact ⟨t2, st t2 a1, b1⟩
  · obtain ⟨k1, k2, k3⟩ := vx_keep h0 e1 hS hAX hf hL hF
    obtain ⟨t2, a1, b1⟩ := kx E ce q u t T'.heap (locs ++ L) e1.symm (by rw [← e2]; exact X'.warmed.alike) hp hb k1 k2 k3 (by rw [e1]; exact hce) hcv hcl T' rfl X'
    exact ⟨t2, st.trans a1, b1⟩
theorem vx_calld {S SX : Type} {post : UInt64 → S → Prop} {px : SX → Prop} {B : S → State → Prop} {BX : String → SX → State → Prop} {AX : Nat → Prop} (hr : vx_Run p l e R s m args below meth c H locs cells slots mc ms (F0 m pc ls st0) rest (va_Qd post B A1 a) (vx_X px BX AX) free) (hS : va_S A0 H0 H locs) (hA : ∀ q, q < H.size → A1 q → A0 q) (hf : ∀ q, free q → A0 q) (hAX : ∀ q, q < H.size → AX q → A0 q)
    (kx : ∀ (E : String) (ce : Cell) (q9 : Addr) (u : SX) (t : State) (H1 : Heap) (locs1 : List Loc), t.heap = H1 → s.vm.Alike t.vm → px u → BX E u t → H.size ≤ H1.size → (∀ q : Nat, q < H.size → ¬ AX q → H1[q]? = H[q]?) → va_S A0 H0 H1 locs1 → H1[q9]? = some ce → ce.vm = .none → s.vm.findClass E = some ce.cls → vx_W p l e R s m args below meth c H1 locs1 (cells + mc) (slots + ms) Q (F0 m pc ls rest) q9)
    (kk : ∀ (r : UInt64) (u : S) (t : State) (H1 : Heap) (locs1 : List Loc), t.heap = H1 → s.vm.Alike t.vm → post r u → B u t → H.size ≤ H1.size → (∀ q : Nat, q < H.size → ¬ A1 q → H1[q]? = H[q]?) → va_S A0 H0 H1 locs1 → W p l e R s m args below meth c H1 locs1 (cells + mc) (slots + ms) Q (F0 m (pc + 3) ls (.double r :: rest))) : W p l e R s m args below meth c H locs cells slots Q (F0 m pc ls st0) := by
  intro T hT X
  rcases hr T hT X with ⟨v, st₀, t, T', L, h0, X', hL, e1, e2, ⟨⟨r, u, hv, hp, hb⟩, hF⟩, st⟩ | ⟨q, st₀, t, T', L, E, ce, h0, X', hL, e1, e2, ⟨u, hp, hb, hF⟩, hce, hcv, hcl, st⟩
  · cases hv
    obtain ⟨k1, k2, k3⟩ := vx_keep h0 e1 hS hA hf hL hF
    obtain ⟨t2, a1, b1⟩ := kk r u t T'.heap (locs ++ L) e1.symm (by rw [← e2]; exact X'.warmed.alike) hp hb k1 k2 k3 T' rfl X'
    exact ⟨t2, st t2 a1, b1⟩
  · obtain ⟨k1, k2, k3⟩ := vx_keep h0 e1 hS hAX hf hL hF
    obtain ⟨t2, a1, b1⟩ := kx E ce q u t T'.heap (locs ++ L) e1.symm (by rw [← e2]; exact X'.warmed.alike) hp hb k1 k2 k3 (by rw [e1]; exact hce) hcv hcl T' rfl X'
    exact ⟨t2, st.trans a1, b1⟩
theorem vx_callv {S SX : Type} {post : S → Prop} {px : SX → Prop} {B : S → State → Prop} {BX : String → SX → State → Prop} {AX : Nat → Prop} (hr : vx_Run p l e R s m args below meth c H locs cells slots mc ms (F0 m pc ls st0) rest (va_Qv post B A1 a) (vx_X px BX AX) free) (hS : va_S A0 H0 H locs) (hA : ∀ q, q < H.size → A1 q → A0 q) (hf : ∀ q, free q → A0 q) (hAX : ∀ q, q < H.size → AX q → A0 q)
    (kx : ∀ (E : String) (ce : Cell) (q9 : Addr) (u : SX) (t : State) (H1 : Heap) (locs1 : List Loc), t.heap = H1 → s.vm.Alike t.vm → px u → BX E u t → H.size ≤ H1.size → (∀ q : Nat, q < H.size → ¬ AX q → H1[q]? = H[q]?) → va_S A0 H0 H1 locs1 → H1[q9]? = some ce → ce.vm = .none → s.vm.findClass E = some ce.cls → vx_W p l e R s m args below meth c H1 locs1 (cells + mc) (slots + ms) Q (F0 m pc ls rest) q9)
    (kk : ∀ (u : S) (t : State) (H1 : Heap) (locs1 : List Loc), t.heap = H1 → s.vm.Alike t.vm → post u → B u t → H.size ≤ H1.size → (∀ q : Nat, q < H.size → ¬ A1 q → H1[q]? = H[q]?) → va_S A0 H0 H1 locs1 → W p l e R s m args below meth c H1 locs1 (cells + mc) (slots + ms) Q (F0 m (pc + 3) ls (rest))) : W p l e R s m args below meth c H locs cells slots Q (F0 m pc ls st0) := by
  intro T hT X
  rcases hr T hT X with ⟨v, st₀, t, T', L, h0, X', hL, e1, e2, ⟨⟨u, hv, hp, hb⟩, hF⟩, st⟩ | ⟨q, st₀, t, T', L, E, ce, h0, X', hL, e1, e2, ⟨u, hp, hb, hF⟩, hce, hcv, hcl, st⟩
  · cases hv
    obtain ⟨k1, k2, k3⟩ := vx_keep h0 e1 hS hA hf hL hF
    obtain ⟨t2, a1, b1⟩ := kk u t T'.heap (locs ++ L) e1.symm (by rw [← e2]; exact X'.warmed.alike) hp hb k1 k2 k3 T' rfl X'
    exact ⟨t2, st t2 a1, b1⟩
  · obtain ⟨k1, k2, k3⟩ := vx_keep h0 e1 hS hAX hf hL hF
    obtain ⟨t2, a1, b1⟩ := kx E ce q u t T'.heap (locs ++ L) e1.symm (by rw [← e2]; exact X'.warmed.alike) hp hb k1 k2 k3 (by rw [e1]; exact hce) hcv hcl T' rfl X'
    exact ⟨t2, st.trans a1, b1⟩
end Rows
section Ends
variable {p : Program} {l : Launch} {e : Env} {R : Room} {s : State} {m : MethodId} {args : Array Value} {below : List Frame} {meth : Method} {c : Code} {H : Heap} {locs : List Loc} {cells slots : Nat} {Q : State → Prop}
variable {mc ms : Nat} {free : Addr → Prop} {A0 A1 : Nat → Prop} {H0 : Heap} {a : Array Value} {ls : Array Slot} {st0 rest : List Value}
variable {Qc : Array Value → State → Outcome → State → Prop} {XC : String → State → State → Prop}
/-- what a body that may throw owes at its end -/
def vx_MQ (below : List Frame) (Qc : Array Value → State → Outcome → State → Prop) (XC : String → State → State → Prop) (a : Array Value) (s : State) (mc ms : Nat) (free : Addr → Prop) : State → Prop := fun t =>
  ∃ o, t.status = .running ∧ Ended t below o ∧ vx_Q Qc XC mc ms free a s o t
theorem vx_ret {g : JFrame} {mc ms : Nat} (k : W p l e R s m args below meth c H locs cells slots (MQ below Qc args s mc ms free) g) : W p l e R s m args below meth c H locs cells slots (vx_MQ below Qc XC args s mc ms free) g := by
  intro T hT X
  obtain ⟨t, a1, o, b1, b2, b3, b4⟩ := k T hT X
  exact ⟨t, a1, o, b1, b2, Or.inl ⟨b3, b4⟩⟩
/-- not caught here: it goes on to the caller -/
theorem vx_widen {g : JFrame} {q : Addr} {k n : Nat} (h1 : cells ≤ k) (h2 : slots ≤ n) (kk : vx_W p l e R s m args below meth c H locs k n Q g q) : vx_W p l e R s m args below meth c H locs cells slots Q g q := fun T hT X => kk T hT (stand_widen X h1 h2)
theorem vx_out {pc : Nat} {E : String} {ce : Cell} {q : Addr} {mc ms : Nat} (hout : ∀ x ∈ c.exceptionTable.toList, covers x pc = false) (hlocks : meth.locks = false) (hcell : H[q]? = some ce) (hv : ce.vm = .none) (hcl : s.vm.findClass E = some ce.cls)
    (hx : ∀ t : State, t.heap = H → s.vm.Alike t.vm → XC E s t) (hf : ∀ z ∈ locs, free z.base) (hc : cells ≤ mc) (hs : slots ≤ ms) :
    vx_W p l e R s m args below meth c H locs cells slots (vx_MQ below Qc XC args s mc ms free) (F0 m pc ls rest) q := by
  intro T hT X
  obtain ⟨st1, hrun, hend, hW, hsm⟩ := X.leaveThrown q (g := F0 m pc ls rest) rfl rfl rfl hout hlocks
  have hcell9 : (T.setFrames (.throwing q :: below)).heap[q]? = some ce := by
    show T.heap[q]? = some ce
    rw [hT]; exact hcell
  exact ⟨_, st1, .threw q, hrun, hend, Or.inr ⟨q, rfl, E, ce, locs, hx _ hT hW.alike, hcell9, hv, hcl, hW, hsm.mono hc hs, hf⟩⟩
theorem vx_frame {U : State} {k n : Nat} (h : s.sameButNew ({ U with vm := s.vm } : State) locs k n) : s.heap.size ≤ U.heap.size ∧ ∀ q : Nat, q < s.heap.size → (∀ z ∈ locs, z.base ≠ q) → U.heap[q]? = s.heap[q]? := by
  obtain ⟨-, h2, -, -, -, h6⟩ := h
  refine ⟨h2, fun q hq hz => ?_⟩
  obtain ⟨c9, e1, e2, e3, e4⟩ := h6 q _ (Array.getElem?_eq_getElem hq)
  have hs : c9.slots = (s.heap[q]).slots := Array.ext_getElem? fun i => e4 i fun hm => hz _ hm rfl
  have h9 : c9 = s.heap[q] := by
    rw [hs] at e2
    exact e2
  have e5 : U.heap[q]? = some c9 := e1
  rw [e5, h9, Array.getElem?_eq_getElem hq]
/-- the words of a throw but the four that speak of the heap -/
def vx_no (w : Cond) : Bool := decide (w ≠ .isRef (.static Bundle.tN "UNASSIGNED_STACK" Bundle.steD)) && decide (w ≠ .isRef (.static Bundle.tN "SUPPRESSED_SENTINEL" Bundle.listD)) && decide (w ≠ .laysStatic Bundle.tN "UNASSIGNED_STACK" Bundle.steD) && decide (w ≠ .laysStatic Bundle.tN "SUPPRESSED_SENTINEL" Bundle.listD)
def vx_at0 (own : String) (ic : Nat) (X : String) (names : List String) : List Cond := (Bundle.ownAtoms0 own ic X names).filter vx_no
def vx_atS (own : String) (ic : Nat) (X : String) (names : List String) : List Cond := (Bundle.ownAtoms own ic X names).filter vx_no
/-- a word that the tables alone decide, or a good one -/
def vx_ot (w : Cond) : Bool := w.onTables || goodWord w
theorem vx_ot_at {args a' : Array Value} {s U : State} {w : Cond} (hW : s.WarmedH U.vm) (hvm : s.vm = U.vm) (hg : vx_ot w = true) (h : w.before args s = true) : w.before a' U = true := by
  simp only [vx_ot, Bool.or_eq_true] at hg
  rcases hg with hg | hg
  · exact va_tabs hg hvm h
  · exact word_at hW (good_of_word hg) h
/-- a list's words: the good ones out of the method's own list, the others by premises of their own -/
theorem vx_hat {args : Array Value} {s : State} {L B : List Cond} (h1 : ∀ w ∈ L.filter goodWord, w.before args s = true) (h2 : ∀ w ∈ L.filter (fun w => !goodWord w), w ∈ B) (h3 : ∀ w ∈ B, w.before args s = true) : ∀ w ∈ L, w.before args s = true := by
  intro w hw
  by_cases g : goodWord w = true
  · exact h1 w (List.mem_filter.mpr ⟨hw, g⟩)
  · refine h3 w (h2 w (List.mem_filter.mpr ⟨hw, ?_⟩))
    show (!goodWord w) = true
    cases hgw : goodWord w
    · rfl
    · exact absurd hgw g
theorem vx_c {args : Array Value} {s : State} {w : Cond} {B : List Cond} (h : w.before args s = true) (t : ∀ w ∈ B, w.before args s = true) : ∀ w' ∈ w :: B, w'.before args s = true := fun w' h' => (List.mem_cons.mp h').elim (fun e => by rw [e]; exact h) (t w')
theorem vx_n {args : Array Value} {s : State} : ∀ w ∈ ([] : List Cond), w.before args s = true := fun _ h => nomatch h
theorem vx_own {args : Array Value} {s : State} {L : List Cond} (h1 : ∀ w ∈ L.filter vx_no, w.before args s = true)
    (hU : (Cond.isRef (.static Bundle.tN "UNASSIGNED_STACK" Bundle.steD)).before args s = true) (hN : (Cond.isRef (.static Bundle.tN "SUPPRESSED_SENTINEL" Bundle.listD)).before args s = true)
    (lU : (Cond.laysStatic Bundle.tN "UNASSIGNED_STACK" Bundle.steD).before args s = true) (lN : (Cond.laysStatic Bundle.tN "SUPPRESSED_SENTINEL" Bundle.listD).before args s = true) : ∀ w ∈ L, w.before args s = true := by
  intro w hw
  by_cases e1 : w = .isRef (.static Bundle.tN "UNASSIGNED_STACK" Bundle.steD)
  · rw [e1]; exact hU
  · by_cases e2 : w = .isRef (.static Bundle.tN "SUPPRESSED_SENTINEL" Bundle.listD)
    · rw [e2]; exact hN
    · by_cases e3 : w = .laysStatic Bundle.tN "UNASSIGNED_STACK" Bundle.steD
      · rw [e3]; exact lU
      · by_cases e4 : w = .laysStatic Bundle.tN "SUPPRESSED_SENTINEL" Bundle.listD
        · rw [e4]; exact lN
        · exact h1 w (List.mem_filter.mpr ⟨hw, by unfold vx_no; rw [decide_eq_true e1, decide_eq_true e2, decide_eq_true e3, decide_eq_true e4]; rfl⟩)
/-- where a static field lies, its class's statics cell in H -/
def vx_L (C n d : String) (A : Nat → Prop) (U : State) (H : Heap) : Prop := ∃ (c : ClassId) (k : Class) (i : Nat) (f : Field) (a : Nat) (cell : Cell), U.vm.findClass C = some c ∧ U.fieldFound? C n d = some (c, k, i, f) ∧ f.isStatic = true ∧ k.statics = some a ∧ H[a]? = some cell ∧ cell.vm.isStatics = true ∧ cell.cls = c ∧ f.slot < cell.slots.size ∧ k.staticTypes[f.slot]? = some f.type ∧ ¬ A a
theorem vx_L.moved {C n d : String} {A : Nat → Prop} {u U : State} {H : Heap} (hvm : u.vm.Alike U.vm) (h : vx_L C n d A u H) : vx_L C n d A U H := by
  obtain ⟨c, k, i, f, a, cell, h1, h2, h3, h4, h5, h6, h7, h8, h9, h10⟩ := h
  obtain ⟨k', hi', he⟩ := State.fieldFound?_setVm hvm h2
  exact ⟨c, k', i, f, a, cell, by rw [hvm.findClass]; exact h1, hi', h3, by rw [he]; exact h4, h5, h6, h7, h8, by rw [he]; exact h9, h10⟩
theorem vx_L.kept {C n d : String} {A : Nat → Prop} {U : State} {H H1 : Heap} (h : vx_L C n d A U H) (hq : ∀ a : Nat, a < H.size → ¬ A a → H1[a]? = H[a]?) : vx_L C n d A U H1 := by
  obtain ⟨c, k, i, f, a, cell, h1, h2, h3, h4, h5, h6, h7, h8, h9, h10⟩ := h
  exact ⟨c, k, i, f, a, cell, h1, h2, h3, h4, by rw [hq a (Array.getElem?_eq_some_iff.mp h5).1 h10]; exact h5, h6, h7, h8, h9, h10⟩
theorem vx_L.narrow {C n d : String} {A B : Nat → Prop} {U : State} {H : Heap} (h : vx_L C n d A U H) (hAB : ∀ q, B q → A q) : vx_L C n d B U H := by
  obtain ⟨c, k, i, f, a, cell, h1, h2, h3, h4, h5, h6, h7, h8, h9, h10⟩ := h
  exact ⟨c, k, i, f, a, cell, h1, h2, h3, h4, h5, h6, h7, h8, h9, fun z => h10 (hAB _ z)⟩
theorem vx_L.word {C n d : String} {A : Nat → Prop} {s : State} {args : Array Value} (h : vx_L C n d A s s.heap) : (Cond.laysStatic C n d).before args s = true := by
  obtain ⟨c, k, i, f, a, cell, h1, h2, h3, h4, h5, h6, h7, h8, h9, -⟩ := h
  show (Cond.laysStatic C n d).holds args s none s [] = true
  exact Cond.laysStatic_of h1 h2 h3 h4 h5 h6 h7 h8 h9
/-- .. and what it holds: null or some reference -/
def vx_Zq (C n d : String) (A : Nat → Prop) (U : State) (H : Heap) : Prop := va_Zq C n d A U H ∧ vx_L C n d A U H
theorem vx_Zq.moved {C n d : String} {A : Nat → Prop} {u U : State} {H : Heap} (hvm : u.vm.Alike U.vm) (h : vx_Zq C n d A u H) : vx_Zq C n d A U H := ⟨va_Zq.moved hvm h.1, vx_L.moved hvm h.2⟩
theorem vx_Zq.kept {C n d : String} {A : Nat → Prop} {U : State} {H H1 : Heap} (h : vx_Zq C n d A U H) (hq : ∀ a : Nat, a < H.size → ¬ A a → H1[a]? = H[a]?) : vx_Zq C n d A U H1 := ⟨va_Zq.kept h.1 hq, vx_L.kept h.2 hq⟩
theorem vx_Zq.narrow {C n d : String} {A B : Nat → Prop} {U : State} {H : Heap} (h : vx_Zq C n d A U H) (hAB : ∀ q, B q → A q) : vx_Zq C n d B U H := ⟨va_Zq.narrow h.1 hAB, vx_L.narrow h.2 hAB⟩
theorem vx_Zqof {args : Array Value} {s : State} {C n d : String} {A : Nat → Prop} (hl : (Cond.laysStatic C n d).before args s = true) (hini : (Cond.initialized C).before args s = true) (h : (Cond.isRef (.static C n d)).before args s = true) (hA : ∀ a : Nat, a < s.heap.size → ¬ A a) : vx_Zq C n d A s s.heap := by
  refine ⟨va_Zqof hl hini h hA, ?_⟩
  obtain ⟨c, k, i, f, a, cell, h1, h2, h3, h4, h5, h6, h7, h8, h9⟩ := Cond.laysStatic_spec hl
  exact ⟨c, k, i, f, a, cell, h1, h2, h3, h4, h5, h6, h7, h8, h9, hA a (Array.getElem?_eq_some_iff.mp h5).1⟩
theorem vx_isRef {C n d : String} {v : Value} {A : Nat → Prop} {s : State} {args : Array Value} (h : va_Z C n d v A s s.heap) (hv : v.isRef = true) : (Cond.isRef (.static C n d)).before args s = true := by
  obtain ⟨cf, kf, fi, f, a, cell, h1, h2, h3, h4, h5, h6, h7, -⟩ := h
  have he : (Term.static C n d).eval args s none [] s = some v := by
    simp [Term.eval, State.fieldNamed?, h1, h2, h4, h5, h6, h7]
  simp only [Cond.before, Cond.holds, Cond.value, he]
  cases v <;> simp_all [Value.isRef]
theorem vx_isRefq {C n d : String} {A : Nat → Prop} {s : State} {args : Array Value} (h : va_Zq C n d A s s.heap) : (Cond.isRef (.static C n d)).before args s = true := by
  rcases h with h | ⟨t, h⟩
  · exact vx_isRef h rfl
  · exact vx_isRef h rfl
/-- the same frame, seen from here: as if the method were called anew in this heap -/
theorem vx_rebase {T : State} (X : Stand p l e R s m args below meth c T locs cells slots) {R' : Room} (hf : R'.frames ≤ R.frames) (hl : R'.locals ≤ R.locals) (hc : cells + R'.cells ≤ R.cells) (hs : slots + R'.slots ≤ R.slots) :
    Stand p l e R' ((T.setVm s.vm).setFrames (.invoking m args :: below)) m args below meth c T [] 0 0 := by
  have htop : (T.setVm s.vm).topJava?.isSome := X.here.top
  have hF : ((T.setVm s.vm).setFrames (.invoking m args :: below)).frames = .invoking m args :: below := State.frames_setFrames _ (State.cur_lt_of_top htop)
  obtain ⟨g₀, hg0⟩ := Option.isSome_iff_exists.mp htop
  obtain ⟨r, hr⟩ := State.topJava?_eq_some.mp hg0
  have hl9 : e.platform.stackLimits (T.setVm s.vm).me = e.platform.stackLimits s.me := X.limits
  have hb9 : (T.setVm s.vm).me.stackBytes = s.me.stackBytes := X.bytes
  refine ⟨X.admits, X.cas, X.clock, hF, ?_, X.hears, X.method, X.code, X.here, X.tail, X.warmed, ?_, ?_, ?_⟩
  · have h := X.room
    have hU : ((T.setVm s.vm).setFrames (.invoking m args :: below)).localsInUse = s.localsInUse := by
      rw [State.localsInUse_invoking hF (meth := meth) (c := c) X.method X.code, State.localsInUse_invoking X.frames X.method X.code]
    simp only [State.hasRoom, Bool.and_eq_true, decide_eq_true_eq] at h ⊢
    obtain ⟨⟨⟨⟨h1, h2, h3, h4, h5, h6⟩, h7⟩, h8⟩, h9⟩ := h
    rw [X.frames, List.length_cons] at h2 h3
    have q1 := X.heapSize
    have q2 := X.used
    simp only [hF, hU, List.length_cons, State.stackLimits_setFrames, State.stackBytes_setFrames, hl9, hb9]
    refine ⟨⟨⟨⟨by omega, by omega, by omega, by omega, by omega, h6⟩, ?_⟩, ?_⟩, X.book⟩
    · show T.heap.size + R'.cells ≤ e.platform.maxCells
      omega
    · show T.slotsUsed + R'.slots ≤ e.platform.maxSlots
      omega
  · rw [State.stackLimits_setFrames]; rfl
  · rw [State.stackBytes_setFrames]; rfl
  · refine ⟨?_, Nat.le_refl _, Nat.le_refl _, ?_, ?_, fun a c9 h9 => ⟨c9, h9, rfl, rfl, fun _ _ => rfl⟩⟩
    · obtain ⟨t, ht, -⟩ := State.frames_cons hr
      show T.setVm s.vm = { ((T.setVm s.vm).setFrames (.invoking m args :: below)).setFrames (T.setVm s.vm).frames with heap := T.heap, slotsUsed := T.slotsUsed }
      rw [State.setFrames_setFrames, State.setFrames_self ht]
      rfl
    · show T.slotsUsed = T.slotsUsed + ((T.heap.toList.drop T.heap.size).map (·.slots.size)).sum
      rw [List.drop_eq_nil_of_le (Nat.le_of_eq Array.length_toList)]
      rfl
    · show ((T.heap.toList.drop T.heap.size).map (·.slots.size)).sum ≤ 0
      rw [List.drop_eq_nil_of_le (Nat.le_of_eq Array.length_toList)]
      exact Nat.le_refl _
/-- 'throw new E()': new; dup; invokespecial; athrow -/
theorem vx_throw0 {cc : ByteArray} {pc : Nat} (hexec : p.tables.exec = Jvm.exec) (hb : c.code = cc) (hl : l.stackTraces = false) {own cls : String} {names : List String} {ik ic mc ms : Nat} {A : Nat → Prop}
    (hown : s.vm.findClass own = some m.cls) (hcls : Bundle.fit cls = true) (hnames : ∀ n ∈ names, Bundle.fit n = true)
    (hk : (Cond.classLink own ik cls).before args s = true) (hini : (Cond.initialized cls).before args s = true) (hat : ∀ w ∈ vx_at0 own ic cls names, w.before args s = true)
    (hgood : ∀ w ∈ Cond.classLink own ik cls :: Cond.initialized cls :: vx_at0 own ic cls names, vx_ot w = true)
    (hU : vx_Zq Bundle.tN "UNASSIGNED_STACK" Bundle.steD A s s.heap) (hN : vx_Zq Bundle.tN "SUPPRESSED_SENTINEL" Bundle.listD A s s.heap) (hS : va_S A s.heap H locs) (hsize : ls.size = c.maxLocals)
    (d0 : decode cc pc = .ok (.new ik, 3)) (d3 : decode cc (pc + 3) = .ok (.dup, 1)) (d4 : decode cc (pc + 4) = .ok (.invokespecial ic, 3)) (d7 : decode cc (pc + 7) = .ok (.athrow, 1))
    (hout : ∀ x ∈ c.exceptionTable.toList, covers x (pc + 7) = false)
    (hRframes : names.length + 3 < R.frames) (hRlocals : (rest.map fun v => v.category).sum + (13 * (names.length + 1) + 42) ≤ R.locals) (hRcells : cells + 1 ≤ R.cells) (hRslots : slots + 6 ≤ R.slots) (hlocks : meth.locks = false)
    (hx : ∀ t : State, s.vm.Alike t.vm → H.size ≤ t.heap.size → (∀ q : Nat, q < H.size → t.heap[q]? = H[q]?) → XC cls s t)
    (hf : ∀ z ∈ locs, free z.base) (hc : cells + 1 ≤ mc) (hs : slots + 6 ≤ ms) :
    W p l e R s m args below meth c H locs cells slots (vx_MQ below Qc XC args s mc ms free) (F0 m pc ls rest) := by
  intro T hT X
  have htr : e.platform.stackTraces = false := (show e.platform.stackTraces = l.stackTraces by rw [X.admits.platform]).trans hl
  have Y := vx_rebase X (R' := { frames := R.frames, locals := R.locals, cells := 1, slots := 6 }) (Nat.le_refl _) (Nat.le_refl _) hRcells hRslots
  obtain ⟨s', hA⟩ : ∃ z, z = (T.setVm s.vm).setFrames (.invoking m args :: below) := ⟨_, rfl⟩
  rw [← hA] at Y
  have hvm : s'.vm = s.vm := by rw [hA]; rfl
  have hhp : s'.heap = H := by rw [hA]; exact hT
  have hW0 : s.WarmedH s'.vm := by rw [hvm]; exact State.WarmedH.refl s
  have hat' : ∀ w ∈ vx_at0 own ic cls names, w.before args s' = true := fun w hw => vx_ot_at hW0 hvm.symm (hgood w (List.mem_cons_of_mem _ (List.mem_cons_of_mem _ hw))) (hat w hw)
  have hk' : (Cond.classLink own ik cls).before args s' = true := vx_ot_at hW0 hvm.symm (hgood _ List.mem_cons_self) hk
  have hini' : (Cond.initialized cls).before args s' = true := vx_ot_at hW0 hvm.symm (hgood _ (List.mem_cons_of_mem _ List.mem_cons_self)) hini
  have hU' : vx_Zq Bundle.tN "UNASSIGNED_STACK" Bundle.steD A s' s'.heap := by rw [hhp]; exact vx_Zq.moved hW0.alike (hU.kept hS.2.1)
  have hN' : vx_Zq Bundle.tN "SUPPRESSED_SENTINEL" Bundle.listD A s' s'.heap := by rw [hhp]; exact vx_Zq.moved hW0.alike (hN.kept hS.2.1)
  have h : ∀ w ∈ Bundle.ownAtoms0 own ic cls names, w.before args s' = true := vx_own hat' (vx_isRefq hU'.1) (vx_isRefq hN'.1) hU'.2.word hN'.2.word
  have hown' : s'.vm.findClass own = some m.cls := by rw [hvm]; exact hown
  have hins : (Cond.instantiable cls 6).before args s' = true := h _ (by simp [Bundle.ownAtoms0])
  obtain ⟨vm₁, cX, kX, hfX, hkX, -, -, X₁, st1⟩ := Y.newCold hexec (own := own) (C := cls) (index := ik) (n := 6) hown' hk' hins hini'
    (g := F0 m pc ls rest) rfl (by rw [hb]; exact d0) (Nat.le_refl _) (Nat.le_refl _)
  generalize hT1 : (T.setVm vm₁).pushCell { cls := cX, slots := kX.instanceTypes.map defaultValue, vm := .none } = T1 at X₁ st1
  have hcat : (Value.ref T.heap.size).category = 1 := rfl
  have hcellA : T1.heap[T.heap.size]? = some (freshCell cX kX) := by rw [← hT1]; exact State.heap_pushCell_size _ _
  have d3' : decode c.code (pc + 3) = .ok (.dup, 1) := by rw [hb]; exact d3
  obtain ⟨U, hsteps, hrun, hend, hW, hsame, ce, hce, hO⟩ := X₁.ctorThrow0 hexec htr (own := own) (cls := cls) (names := names) (ic := ic) hown' hcls hnames h (fun x hx => nomatch hx) hfX hkX hcellA (by rw [hhp, hT]; exact Nat.le_refl _)
    (g := { method := m, pc := pc + 4, locals := ls, stack := .ref T.heap.size :: .ref T.heap.size :: rest, locked := none }) rfl hsize rfl rfl (rest := rest) rfl
    (by rw [hb]; exact d4) (by rw [hb]; exact d7) hout hRframes (by simp only [List.map_cons, List.sum_cons, hcat]; omega) hlocks
  obtain ⟨f1, f2⟩ := vx_frame hsame
  rw [hhp] at f1 f2
  have hWs : s.WarmedH U.vm := State.WarmedH.trans hW0 hW
  have hcl : s.vm.findClass cls = some ce.cls := by
    have h9 := hO.cls
    rw [hvm] at h9
    exact h9
  have hall : s.sameButNew ({ U with vm := s.vm } : State) locs mc ms := by
    subst hA
    obtain ⟨e1, e2⟩ := hsame
    rw [State.setFrames_setFrames] at e1
    have h2 : (T.setVm s.vm).sameButNew ({ U with vm := s.vm } : State) [] (0 + 1) (0 + 6) := ⟨e1, e2⟩
    have h3 := X.same.trans h2
    rw [List.append_nil] at h3
    exact h3.mono hc hs
  refine ⟨U, ?_, .threw T.heap.size, hrun, hend, Or.inr ⟨T.heap.size, rfl, cls, ce, locs, hx U hWs.alike f1 (fun q hq => f2 q hq (fun z hz => nomatch hz)), hce, hO.vm, hcl, hWs, hall, hf⟩⟩
  refine st1 _ ?_
  show Steps p.tables e below (T1.setTop { method := m, pc := pc + 3, locals := ls, stack := .ref T.heap.size :: rest, locked := none }) _
  jvm_step X₁.here [X₁.here.top, hexec, d3', Value.category]
  exact hsteps
/-- 'throw new E("text")': new; dup; ldc; invokespecial; athrow -/
theorem vx_throwS {cc : ByteArray} {pc : Nat} (hexec : p.tables.exec = Jvm.exec) (hb : c.code = cc) (hl : l.stackTraces = false) {own cls text : String} {names : List String} {ik is ic mc ms sa : Nat} {A : Nat → Prop}
    (hown : s.vm.findClass own = some m.cls) (hcls : Bundle.fit cls = true) (hnames : ∀ n ∈ names, Bundle.fit n = true)
    (hk : (Cond.classLink own ik cls).before args s = true) (hini : (Cond.initialized cls).before args s = true) (hstr : vk_R own is text sa s) (hat : ∀ w ∈ vx_atS own ic cls names, w.before args s = true)
    (hgood : ∀ w ∈ Cond.classLink own ik cls :: Cond.initialized cls :: vx_atS own ic cls names, vx_ot w = true)
    (hU : vx_Zq Bundle.tN "UNASSIGNED_STACK" Bundle.steD A s s.heap) (hN : vx_Zq Bundle.tN "SUPPRESSED_SENTINEL" Bundle.listD A s s.heap) (hS : va_S A s.heap H locs) (hsize : ls.size = c.maxLocals)
    (d0 : decode cc pc = .ok (.new ik, 3)) (d3 : decode cc (pc + 3) = .ok (.dup, 1)) (d4 : decode cc (pc + 4) = .ok (.ldc is, 2)) (d6 : decode cc (pc + 6) = .ok (.invokespecial ic, 3)) (d9 : decode cc (pc + 9) = .ok (.athrow, 1))
    (hout : ∀ x ∈ c.exceptionTable.toList, covers x (pc + 9) = false)
    (hRframes : names.length + 3 < R.frames) (hRlocals : (rest.map fun v => v.category).sum + (13 * (names.length + 1) + 43) ≤ R.locals) (hRcells : cells + 1 ≤ R.cells) (hRslots : slots + 6 ≤ R.slots) (hlocks : meth.locks = false)
    (hx : ∀ t : State, s.vm.Alike t.vm → H.size ≤ t.heap.size → (∀ q : Nat, q < H.size → t.heap[q]? = H[q]?) → XC cls s t)
    (hf : ∀ z ∈ locs, free z.base) (hc : cells + 1 ≤ mc) (hs : slots + 6 ≤ ms) :
    W p l e R s m args below meth c H locs cells slots (vx_MQ below Qc XC args s mc ms free) (F0 m pc ls rest) := by
  intro T hT X
  have htr : e.platform.stackTraces = false := (show e.platform.stackTraces = l.stackTraces by rw [X.admits.platform]).trans hl
  have Y := vx_rebase X (R' := { frames := R.frames, locals := R.locals, cells := 1, slots := 6 }) (Nat.le_refl _) (Nat.le_refl _) hRcells hRslots
  obtain ⟨s', hA⟩ : ∃ z, z = (T.setVm s.vm).setFrames (.invoking m args :: below) := ⟨_, rfl⟩
  rw [← hA] at Y
  have hvm : s'.vm = s.vm := by rw [hA]; rfl
  have hhp : s'.heap = H := by rw [hA]; exact hT
  have hW0 : s.WarmedH s'.vm := by rw [hvm]; exact State.WarmedH.refl s
  have hat' : ∀ w ∈ vx_atS own ic cls names, w.before args s' = true := fun w hw => vx_ot_at hW0 hvm.symm (hgood w (List.mem_cons_of_mem _ (List.mem_cons_of_mem _ hw))) (hat w hw)
  have hk' : (Cond.classLink own ik cls).before args s' = true := vx_ot_at hW0 hvm.symm (hgood _ List.mem_cons_self) hk
  have hini' : (Cond.initialized cls).before args s' = true := vx_ot_at hW0 hvm.symm (hgood _ (List.mem_cons_of_mem _ List.mem_cons_self)) hini
  have hU' : vx_Zq Bundle.tN "UNASSIGNED_STACK" Bundle.steD A s' s'.heap := by rw [hhp]; exact vx_Zq.moved hW0.alike (hU.kept hS.2.1)
  have hN' : vx_Zq Bundle.tN "SUPPRESSED_SENTINEL" Bundle.listD A s' s'.heap := by rw [hhp]; exact vx_Zq.moved hW0.alike (hN.kept hS.2.1)
  have h : ∀ w ∈ Bundle.ownAtoms own ic cls names, w.before args s' = true := vx_own hat' (vx_isRefq hU'.1) (vx_isRefq hN'.1) hU'.2.word hN'.2.word
  have hown' : s'.vm.findClass own = some m.cls := by rw [hvm]; exact hown
  have hins : (Cond.instantiable cls 6).before args s' = true := h _ (by simp [Bundle.ownAtoms])
  obtain ⟨vm₁, cX, kX, hfX, hkX, -, -, X₁, st1⟩ := Y.newCold hexec (own := own) (C := cls) (index := ik) (n := 6) hown' hk' hins hini'
    (g := F0 m pc ls rest) rfl (by rw [hb]; exact d0) (Nat.le_refl _) (Nat.le_refl _)
  generalize hT1 : (T.setVm vm₁).pushCell { cls := cX, slots := kX.instanceTypes.map defaultValue, vm := .none } = T1 at X₁ st1
  have hcat : (Value.ref T.heap.size).category = 1 := rfl
  have hcellA : T1.heap[T.heap.size]? = some (freshCell cX kX) := by rw [← hT1]; exact State.heap_pushCell_size _ _
  have d3' : decode c.code (pc + 3) = .ok (.dup, 1) := by rw [hb]; exact d3
  have d4' : decode c.code (pc + 4) = .ok (.ldc is, 2) := by rw [hb]; exact d4
  have hstr' : vk_R own is text sa s' := vk_R.warm hW0 hstr
  obtain ⟨U, hsteps, hrun, hend, hW, hsame, ce, hce, hO⟩ := X₁.ctorThrowS hexec htr (own := own) (cls := cls) (names := names) (ic := ic) hown' hcls hnames h (fun x hx => nomatch hx) hfX hkX hcellA (by rw [hhp, hT]; exact Nat.le_refl _) (msg := .ref sa) rfl
    (g := { method := m, pc := pc + 6, locals := ls, stack := .ref sa :: .ref T.heap.size :: .ref T.heap.size :: rest, locked := none }) rfl hsize rfl rfl (rest := rest) rfl
    (by rw [hb]; exact d6) (by rw [hb]; exact d9) hout hRframes (by simp only [List.map_cons, List.sum_cons, hcat]; omega) hlocks
  obtain ⟨f1, f2⟩ := vx_frame hsame
  rw [hhp] at f1 f2
  have hWs : s.WarmedH U.vm := State.WarmedH.trans hW0 hW
  have hcl : s.vm.findClass cls = some ce.cls := by
    have h9 := hO.cls
    rw [hvm] at h9
    exact h9
  have hall : s.sameButNew ({ U with vm := s.vm } : State) locs mc ms := by
    subst hA
    obtain ⟨e1, e2⟩ := hsame
    rw [State.setFrames_setFrames] at e1
    have h2 : (T.setVm s.vm).sameButNew ({ U with vm := s.vm } : State) [] (0 + 1) (0 + 6) := ⟨e1, e2⟩
    have h3 := X.same.trans h2
    rw [List.append_nil] at h3
    exact h3.mono hc hs
  refine ⟨U, ?_, .threw T.heap.size, hrun, hend, Or.inr ⟨T.heap.size, rfl, cls, ce, locs, hx U hWs.alike f1 (fun q hq => f2 q hq (fun z hz => nomatch hz)), hce, hO.vm, hcl, hWs, hall, hf⟩⟩
  refine st1 _ ?_
  show Steps p.tables e below (T1.setTop { method := m, pc := pc + 3, locals := ls, stack := .ref T.heap.size :: rest, locked := none }) _
  jvm_step X₁.here [X₁.here.top, hexec, d3', Value.category]
  exact X₁.ldcString hexec (own := own) (text := text) (index := is) (a := sa) hown' hstr'.1 hstr'.2
    (g := { method := m, pc := pc + 4, locals := ls, stack := .ref T.heap.size :: .ref T.heap.size :: rest, locked := none }) rfl d4' _ hsteps
/-- 'throw new E("text")', the text by a wide index -/
theorem vx_throwSW {cc : ByteArray} {pc : Nat} (hexec : p.tables.exec = Jvm.exec) (hb : c.code = cc) (hl : l.stackTraces = false) {own cls text : String} {names : List String} {ik is ic mc ms sa : Nat} {A : Nat → Prop}
    (hown : s.vm.findClass own = some m.cls) (hcls : Bundle.fit cls = true) (hnames : ∀ n ∈ names, Bundle.fit n = true)
    (hk : (Cond.classLink own ik cls).before args s = true) (hini : (Cond.initialized cls).before args s = true) (hstr : vk_R own is text sa s) (hat : ∀ w ∈ vx_atS own ic cls names, w.before args s = true)
    (hgood : ∀ w ∈ Cond.classLink own ik cls :: Cond.initialized cls :: vx_atS own ic cls names, vx_ot w = true)
    (hU : vx_Zq Bundle.tN "UNASSIGNED_STACK" Bundle.steD A s s.heap) (hN : vx_Zq Bundle.tN "SUPPRESSED_SENTINEL" Bundle.listD A s s.heap) (hS : va_S A s.heap H locs) (hsize : ls.size = c.maxLocals)
    (d0 : decode cc pc = .ok (.new ik, 3)) (d3 : decode cc (pc + 3) = .ok (.dup, 1)) (d4 : decode cc (pc + 4) = .ok (.ldc_w is, 3)) (d7 : decode cc (pc + 7) = .ok (.invokespecial ic, 3)) (d10 : decode cc (pc + 10) = .ok (.athrow, 1))
    (hout : ∀ x ∈ c.exceptionTable.toList, covers x (pc + 10) = false)
    (hRframes : names.length + 3 < R.frames) (hRlocals : (rest.map fun v => v.category).sum + (13 * (names.length + 1) + 43) ≤ R.locals) (hRcells : cells + 1 ≤ R.cells) (hRslots : slots + 6 ≤ R.slots) (hlocks : meth.locks = false)
    (hx : ∀ t : State, s.vm.Alike t.vm → H.size ≤ t.heap.size → (∀ q : Nat, q < H.size → t.heap[q]? = H[q]?) → XC cls s t)
    (hf : ∀ z ∈ locs, free z.base) (hc : cells + 1 ≤ mc) (hs : slots + 6 ≤ ms) :
    W p l e R s m args below meth c H locs cells slots (vx_MQ below Qc XC args s mc ms free) (F0 m pc ls rest) := by
  intro T hT X
  have htr : e.platform.stackTraces = false := (show e.platform.stackTraces = l.stackTraces by rw [X.admits.platform]).trans hl
  have Y := vx_rebase X (R' := { frames := R.frames, locals := R.locals, cells := 1, slots := 6 }) (Nat.le_refl _) (Nat.le_refl _) hRcells hRslots
  obtain ⟨s', hA⟩ : ∃ z, z = (T.setVm s.vm).setFrames (.invoking m args :: below) := ⟨_, rfl⟩
  rw [← hA] at Y
  have hvm : s'.vm = s.vm := by rw [hA]; rfl
  have hhp : s'.heap = H := by rw [hA]; exact hT
  have hW0 : s.WarmedH s'.vm := by rw [hvm]; exact State.WarmedH.refl s
  have hat' : ∀ w ∈ vx_atS own ic cls names, w.before args s' = true := fun w hw => vx_ot_at hW0 hvm.symm (hgood w (List.mem_cons_of_mem _ (List.mem_cons_of_mem _ hw))) (hat w hw)
  have hk' : (Cond.classLink own ik cls).before args s' = true := vx_ot_at hW0 hvm.symm (hgood _ List.mem_cons_self) hk
  have hini' : (Cond.initialized cls).before args s' = true := vx_ot_at hW0 hvm.symm (hgood _ (List.mem_cons_of_mem _ List.mem_cons_self)) hini
  have hU' : vx_Zq Bundle.tN "UNASSIGNED_STACK" Bundle.steD A s' s'.heap := by rw [hhp]; exact vx_Zq.moved hW0.alike (hU.kept hS.2.1)
  have hN' : vx_Zq Bundle.tN "SUPPRESSED_SENTINEL" Bundle.listD A s' s'.heap := by rw [hhp]; exact vx_Zq.moved hW0.alike (hN.kept hS.2.1)
  have h : ∀ w ∈ Bundle.ownAtoms own ic cls names, w.before args s' = true := vx_own hat' (vx_isRefq hU'.1) (vx_isRefq hN'.1) hU'.2.word hN'.2.word
  have hown' : s'.vm.findClass own = some m.cls := by rw [hvm]; exact hown
  have hins : (Cond.instantiable cls 6).before args s' = true := h _ (by simp [Bundle.ownAtoms])
  obtain ⟨vm₁, cX, kX, hfX, hkX, -, -, X₁, st1⟩ := Y.newCold hexec (own := own) (C := cls) (index := ik) (n := 6) hown' hk' hins hini'
    (g := F0 m pc ls rest) rfl (by rw [hb]; exact d0) (Nat.le_refl _) (Nat.le_refl _)
  generalize hT1 : (T.setVm vm₁).pushCell { cls := cX, slots := kX.instanceTypes.map defaultValue, vm := .none } = T1 at X₁ st1
  have hcat : (Value.ref T.heap.size).category = 1 := rfl
  have hcellA : T1.heap[T.heap.size]? = some (freshCell cX kX) := by rw [← hT1]; exact State.heap_pushCell_size _ _
  have d3' : decode c.code (pc + 3) = .ok (.dup, 1) := by rw [hb]; exact d3
  have d4' : decode c.code (pc + 4) = .ok (.ldc_w is, 3) := by rw [hb]; exact d4
  have hstr' : vk_R own is text sa s' := vk_R.warm hW0 hstr
  obtain ⟨U, hsteps, hrun, hend, hW, hsame, ce, hce, hO⟩ := X₁.ctorThrowS hexec htr (own := own) (cls := cls) (names := names) (ic := ic) hown' hcls hnames h (fun x hx => nomatch hx) hfX hkX hcellA (by rw [hhp, hT]; exact Nat.le_refl _) (msg := .ref sa) rfl
    (g := { method := m, pc := pc + 7, locals := ls, stack := .ref sa :: .ref T.heap.size :: .ref T.heap.size :: rest, locked := none }) rfl hsize rfl rfl (rest := rest) rfl
    (by rw [hb]; exact d7) (by rw [hb]; exact d10) hout hRframes (by simp only [List.map_cons, List.sum_cons, hcat]; omega) hlocks
  obtain ⟨f1, f2⟩ := vx_frame hsame
  rw [hhp] at f1 f2
  have hWs : s.WarmedH U.vm := State.WarmedH.trans hW0 hW
  have hcl : s.vm.findClass cls = some ce.cls := by
    have h9 := hO.cls
    rw [hvm] at h9
    exact h9
  have hall : s.sameButNew ({ U with vm := s.vm } : State) locs mc ms := by
    subst hA
    obtain ⟨e1, e2⟩ := hsame
    rw [State.setFrames_setFrames] at e1
    have h2 : (T.setVm s.vm).sameButNew ({ U with vm := s.vm } : State) [] (0 + 1) (0 + 6) := ⟨e1, e2⟩
    have h3 := X.same.trans h2
    rw [List.append_nil] at h3
    exact h3.mono hc hs
  refine ⟨U, ?_, .threw T.heap.size, hrun, hend, Or.inr ⟨T.heap.size, rfl, cls, ce, locs, hx U hWs.alike f1 (fun q hq => f2 q hq (fun z hz => nomatch hz)), hce, hO.vm, hcl, hWs, hall, hf⟩⟩
  refine st1 _ ?_
  show Steps p.tables e below (T1.setTop { method := m, pc := pc + 3, locals := ls, stack := .ref T.heap.size :: rest, locked := none }) _
  jvm_step X₁.here [X₁.here.top, hexec, d3', Value.category]
  exact X₁.ldcStringW hexec (own := own) (text := text) (index := is) (a := sa) hown' hstr'.1 hstr'.2
    (g := { method := m, pc := pc + 4, locals := ls, stack := .ref T.heap.size :: .ref T.heap.size :: rest, locked := none }) rfl d4' _ hsteps
end Ends
section Bodies
variable {l : Launch}
theorem vx_ofW {y : MethodName} {ws ws' : List Cond} {rm : Room} {Pc : Array Value → State → Prop} {Qc : Array Value → State → Outcome → State → Prop} {XC : String → State → State → Prop} {mc ms : Nat} {free : Addr → Prop} {cc : ByteArray} {maxL : Nat} {ret : Option FieldType}
    (hy : plainName y.cls = true) (hw : ws = Cond.code y cc maxL ret :: ws')
    (body : ∀ p e s m args below meth c s₁, BodyLoose p l y (headSpec ws rm) cc maxL ret e s m args below meth c s₁ → c.maxLocals = maxL → (∀ x ∈ c.exceptionTable.toList, False) → Pc args s →
      W p l e (headSpec ws rm).room s m args below meth c s.heap [] 0 0 (vx_MQ below Qc XC args s mc ms free) (entryFrame m args maxL)) : vx_Met l y ws rm Pc Qc XC mc ms free := by
  refine MetFree.of_bodyS (code := cc) (maxLocals := maxL) (ret := ret) hy ?_ ?_
  · intro args s m h hn
    obtain ⟨meth, c, h1, h2, h3, h4, h5, h6, -, -⟩ := Cond.code_spec hn (atoms_spec (ws := ws) h _ (by rw [hw]; exact List.mem_cons_self))
    exact ⟨meth, c, h1, h2, h3, h4, h5, h6⟩
  · intro p e s m args below meth c s₁ B hml hP _
    have hh0 : s₁.heap = s.heap := by rw [B.state]; rfl
    have ht : ∀ x ∈ c.exceptionTable.toList, False := by
      obtain ⟨meth9, c9, h1, h2, -, -, -, -, h7, -⟩ := Cond.code_spec B.named (atoms_spec (ws := ws) B.pre _ (by rw [hw]; exact List.mem_cons_self))
      cases Option.some.inj (h1.symm.trans B.method)
      cases Option.some.inj (h2.symm.trans (Stand.of_body B).code)
      intro x hx
      rw [Array.isEmpty_iff.mp h7] at hx
      cases hx
    obtain ⟨t, a1, o, b1, b2, b3⟩ := body p e s m args below meth c s₁ B hml ht hP s₁ hh0 (Stand.of_body B)
    exact ⟨t, o, a1, b1, b2, b3⟩
/-- the table of a body with handlers -/
theorem vx_table {p : Program} {x y : MethodName} {S : Spec} {cc bytes : ByteArray} {maxL maxL' : Nat} {ret ret' : Option FieldType} {e : Env} {s s₁ : State} {m : MethodId} {args : Array Value} {below : List Frame} {meth : Method} {c : Code} {hh : List (Nat × Nat × Nat × Nat)}
    (B : BodyLoose p l y S cc maxL ret e s m args below meth c s₁) (h : (Cond.codeWith y bytes maxL' ret' hh).before args s = true) : c.exceptionTable.toList = tableOf hh := by
  obtain ⟨m9, meth9, c9, hn9, h1, h2, -, -, h6, -⟩ := Cond.codeWith_spec h
  cases Option.some.inj (hn9.symm.trans B.named)
  cases Option.some.inj (h1.symm.trans B.method)
  cases Option.some.inj (h2.symm.trans (Stand.of_body B).code)
  rw [← h6, table_eq]
end Bodies
end VXA
/-! ===== END ===== -/
/-! ===== BEGIN a static call of a method with an exception table ===== -/
section VXS
variable {p : Program} {l : Launch} {e : Env} {R : Room} {s : State} {m : MethodId} {args : Array Value} {below : List Frame} {meth : Method} {c : Code} {T : State} {H : Heap} {locs : List Loc} {cells slots : Nat}
abbrev vx_CSW (R : Room) (s : State) (args : Array Value) (own : String) (index : Nat) (y : MethodName) (bytes : ByteArray) (maxL : Nat) (ret : Option FieldType) (hh : List (Nat × Nat × Nat × Nat)) (ws : List Cond) (rm : Room) (mc ms n : Nat) : Prop :=
  (rm.cells = mc ∧ rm.slots = ms ∧ rm.frames + 1 ≤ R.frames ∧ 8 + (maxL + 11) + rm.locals ≤ R.locals ∧ (∀ w ∈ ws, ∀ (a' : Array Value) (U : State), s.WarmedH U.vm → w.before a' U = true) ∧ Cond.codeWith y bytes maxL ret hh ∈ ws) ∧
  (Cond.codeWith y bytes maxL ret hh).before args s = true ∧ (Cond.initialized y.cls).before args s = true ∧ (y.cls ≠ "java/lang/invoke/MethodHandle" ∧ y.cls ≠ "java/lang/invoke/VarHandle") ∧
  (∀ sig, parseMethodDescriptor y.desc = some sig → n = sig.parameters.length) ∧ (Cond.methodLink own index y).before args s = true ∧ (Cond.static y).before args s = true
theorem vx_cwSW {own : String} {index maxL mc ms : Nat} {y : MethodName} {bytes : ByteArray} {ret : Option FieldType} {hh : List (Nat × Nat × Nat × Nat)} {Ts ws ws' : List Cond} {rm : Room} (n : Nat) (ht : ∀ w ∈ Ts, w.before args s = true) (hT : GoodIn Ts (va_wsS own index y ws)) (hw : ws = Cond.codeWith y bytes maxL ret hh :: ws') (hrc : rm.cells = mc) (hrs : rm.slots = ms)
    (hd : y.cls ≠ "java/lang/invoke/MethodHandle" ∧ y.cls ≠ "java/lang/invoke/VarHandle" ∧ (parseMethodDescriptor y.desc).map (fun d => d.parameters.length) = some n) (hR : rm.frames + 1 ≤ R.frames ∧ 8 + (maxL + 11) + rm.locals ≤ R.locals) :
    vx_CSW R s args own index y bytes maxL ret hh ws rm mc ms n := by
  have ok : ∀ w ∈ va_wsS own index y ws, w.before args s = true := fun w h => ht w (hT w h).1
  have hG : GoodIn Ts ws := fun w h => hT w (by unfold va_wsS; exact List.mem_append_right _ h)
  have hc : Cond.codeWith y bytes maxL ret hh ∈ ws := by rw [hw]; exact List.mem_cons_self
  refine ⟨⟨hrc, hrs, hR.1, hR.2, pay_in ht hG, hc⟩, ht _ (hG _ hc).1, ok _ (by simp [va_wsS]), ⟨hd.1, hd.2.1⟩, fun sig h => ?_, ok _ (by simp [va_wsS]), ok _ (by simp [va_wsS])⟩
  have h2 := hd.2.2
  rw [h] at h2
  exact (Option.some.inj h2).symm
theorem vx_callSW (X : Stand p l e R s m args below meth c T locs cells slots) (hexec : p.tables.exec = Jvm.exec) {own : String} {index : Nat} {y : MethodName} {bytes : ByteArray} {maxL : Nat} {ret : Option FieldType} {hh : List (Nat × Nat × Nat × Nat)}
    (hown : s.vm.findClass own = some m.cls) (hlink : (Cond.methodLink own index y).before args s = true) (hstat : (Cond.static y).before args s = true) (hinit : (Cond.initialized y.cls).before args s = true)
    (hcode : (Cond.codeWith y bytes maxL ret hh).before args s = true) (hy : y.cls ≠ "java/lang/invoke/MethodHandle" ∧ y.cls ≠ "java/lang/invoke/VarHandle")
    {W9 : Nat} {Pre : Pt → Array Value → Prop} {Post : Pt → Array Value → Option Value → Pt → Prop} (hK : Back l R p e below s args y 3 W9 Pre Post)
    {g : JFrame} (hg : g.method = m) (hsize : g.locals.size = c.maxLocals) {argsL rest : List Value} (hlen : ∀ sig, parseMethodDescriptor y.desc = some sig → argsL.length = sig.parameters.length)
    (hstack : g.stack = argsL.reverse ++ rest) (hW : 2 * g.monitorRoom + (rest.map fun v => v.category).sum ≤ W9) (hdg : decode c.code g.pc = .ok (.invokestatic index, 3))
    (hpre : ∀ vm₁, s.WarmedH vm₁ → Pre ⟨T.setVm vm₁, locs, cells, slots⟩ argsL.toArray) :
    ∃ (v : Option Value) (vm₁ : Vm) (B : Pt), s.WarmedH vm₁ ∧ Stand p l e R s m args below meth c B.U B.locs B.cells B.slots ∧ Post ⟨T.setVm vm₁, locs, cells, slots⟩ argsL.toArray v B ∧
      ∀ target, Steps p.tables e below (B.U.setTop { g with pc := g.pc + 3, stack := v.toList ++ rest }) target → Steps p.tables e below (T.setTop g) target := by
  obtain ⟨mk, methM, cM, hnamed, hmethM, -, -, -, -, -, -, hsigM⟩ := Cond.codeWith_spec hcode
  have hstatic : methM.isStatic = true := Cond.static_spec hnamed hmethM hstat
  obtain ⟨kP, hkP, -⟩ := className_of_methodNamed hnamed
  have hinitP : kP.init = .initialized := Cond.initialized_spec (findClass_of_methodNamed hnamed) hkP hinit
  obtain ⟨vm₁, X₁, hstep₁⟩ := X.invokestatic hexec hown hlink hnamed hmethM hstatic hkP hinitP hy (g := g) hg (argsL := argsL) (rest := rest) (hlen _ hsigM) hstack hdg
  obtain ⟨v, B, X', hpost, hsteps⟩ := hK m meth c ⟨T.setVm vm₁, locs, cells, slots⟩ { g with stack := rest } (.invokestatic index) mk argsL.toArray X₁ hg hsize hdg hW (X₁.named hnamed) (hpre vm₁ X₁.warmed)
  exact ⟨v, vm₁, B, X₁.warmed, X', hpost, fun target h => hstep₁ _ fun acts => by rw [doInvoke_state]; exact hsteps.trans h⟩
theorem vx_runSW {y : MethodName} {bytes cc : ByteArray} {maxL nL mc ms n index : Nat} {ret : Option FieldType} {hh : List (Nat × Nat × Nat × Nat)} {ws : List Cond} {rm : Room} {Pc : Array Value → State → Prop} {Qc : Array Value → State → Outcome → State → Prop} {free : Addr → Prop} {Ts : List Cond} {own : String} {As rest : List Value} {g : JFrame}
    (S : CallFix p m c cc nL s args Ts own) (hM : Met l y ws rm Pc Qc mc ms free) (cw : vx_CSW R s args own index y bytes maxL ret hh ws rm mc ms n) (hp : PreS s H Pc As)
    (hg : g.method = m) (hn : As.length = n) (hsize : g.locals.size = nL) (hstack : g.stack = As.reverse ++ rest) (hW : 2 * g.monitorRoom + (rest.map fun v => v.category).sum ≤ 8) (hdg : decode cc g.pc = .ok (.invokestatic index, 3)) (hf : cells + mc ≤ R.cells ∧ slots + ms ≤ R.slots) :
    va_Run p l e R s m args below meth c H locs cells slots mc ms g rest (Qc As.toArray) (free) := by
  obtain ⟨⟨hrc, hrs, hfr, hlo, hws, hcw⟩, hcode, hini, hy, hlen, hl, hstt⟩ := cw
  have hK : Back l R p e below s args y 3 8 (PreOf R mc ms Pc) (PostOf Qc mc ms free) := va_backW (hh := hh) (bytes := bytes) (maxL := maxL) (ret := ret) hM hp.1 hrc hrs hfr hlo hws hcw (fun a' U hW => word_at hW (Or.inl (by first | rfl | simp [Cond.onTables, Cond.keeps, Cond.steady])) hini)
  obtain ⟨hx, hb, hml, ho, -⟩ := S
  intro T hT X
  obtain ⟨v, vm₁, ⟨U', l2, c2, s2⟩, hW₁, X', ⟨g', mk, t, L, e1, e2, hq, h1, hL, h2, h3⟩, st⟩ := vx_callSW X hx (hh := hh) (bytes := bytes) (maxL := maxL) (ret := ret) ho hl hstt hini hcode hy hK hg (hsize.trans hml.symm) (argsL := As) (rest := rest) (fun sig h => hn.trans (hlen sig h)) hstack hW (by rw [hb]; exact hdg)
    (fun vm₁ hW₁ => ⟨hf.1, hf.2, hp.2 (T.setVm vm₁) hT hW₁⟩)
  dsimp only [Pt.U, Pt.locs, Pt.cells, Pt.slots] at X' e1 e2 h1 h2 h3 st
  subst h1; subst h2; subst h3
  exact ⟨v, (T.setVm vm₁).calling g' mk As.toArray, t, U', L, hT, X', hL, e1, e2, hq, st⟩
/-- a thing of a world lies in the heap -/
theorem vx_lt {D : va_G} {cl : List vw_C} {ws : va_W} {H1 : Heap} (h : va_P D cl ws H1) {k : Nat} {q : Nat × va_E} (hk : ws[k]? = some q) : q.1 < H1.size := (h k q hk).lt
end VXS
/-! ===== END ===== -/
/-! ===== BEGIN methods with a table of their own: called by a name, returning or throwing ===== -/
section VXH
/-! vx_backW, vx_callVX, vx_callSX, vx_callVW, vx_runVW, vx_runVX, vx_runSX, vx_ofWH follow the same proofs as their sisters above (Free/Laws.lean, Shelf42/LK1.lean); vx_outP calls Shelf42/NT130.lean (outThrough). -/
section
variable {l : Launch} {R : Room} {p : Program} {e : Env} {below : List Frame} {s : State} {sargs : Array Value} {y : MethodName} {len W9 : Nat}
theorem vx_backW {ws : List Cond} {rm : Room} {Pc : Array Value → State → Prop} {Qc : Array Value → State → Outcome → State → Prop} {XC : String → State → State → Prop} {mc ms : Nat} {free : Addr → Prop} {bytes : ByteArray} {maxL : Nat} {ret : Option FieldType} {hh : List (Nat × Nat × Nat × Nat)}
    (hM : vx_Met l y ws rm Pc Qc XC mc ms free) (hblind : FrameBlind Pc) (hrc : rm.cells = mc) (hrs : rm.slots = ms)
    (hframes : rm.frames + 1 ≤ R.frames) (hlocals : W9 + (maxL + 11) + rm.locals ≤ R.locals)
    (hws : ∀ w ∈ ws, ∀ a' U, s.WarmedH U.vm → w.before a' U = true) (hcode : Cond.codeWith y bytes maxL ret hh ∈ ws) (hinit : ∀ a' U, s.WarmedH U.vm → (Cond.initialized y.cls).before a' U = true) :
    vx_Back l R p e below s sargs y len W9 (PreOf R mc ms Pc) (PostOf Qc mc ms free) (vx_Post XC mc ms free) := by
  intro m meth c A g ig mk a X hg hsize hdg hW hn hp
  have h1 : (headSpec ws rm).pre.before a A.U = true := atoms_intro fun w hw => hws w hw _ _ X.warmed
  have h2 : (Cond.codeWith y bytes maxL ret hh).before a A.U = true := hws _ hcode _ _ X.warmed
  have h3 : (Cond.initialized y.cls).before a A.U = true := hinit _ _ X.warmed
  have h4 : A.cells + (headSpec ws rm).room.cells ≤ R.cells := by rw [show (headSpec ws rm).room.cells = mc from hrc]; exact hp.1
  have h5 : A.slots + (headSpec ws rm).room.slots ≤ R.slots := by rw [show (headSpec ws rm).room.slots = ms from hrs]; exact hp.2.1
  have hPc : Pc a (A.U.calling g mk a) := hblind _ _ _ _ hp.2.2
  obtain ⟨U, Ls, c0, s0⟩ := A
  dsimp only [Pt.U, Pt.locs, Pt.cells, Pt.slots] at h1 h2 h3 h4 h5 X hn hPc ⊢
  obtain ⟨m9, methY, cY, hn9, hmY, hcY, -, hlY, -⟩ := Cond.codeWith_spec h2
  cases Option.some.inj (hn9.symm.trans hn)
  obtain ⟨kY, hkY, -⟩ := className_of_methodNamed hn
  have hinitY : kY.init = .initialized := Cond.initialized_spec (findClass_of_methodNamed hn) hkY h3
  have h : At U g.method c below := by rw [hg]; exact X.here
  have hlocals9 : W9 + (maxL + 11) + (headSpec ws rm).room.locals ≤ R.locals := hlocals
  have happ : (headSpec ws rm).appliesLoose y e.platform (U.calling g mk a) = true :=
    Spec.appliesLoose_calling (g := g) h hdg hn hkY hinitY
      (X.room_calling (g := g) (R' := (headSpec ws rm).room) hsize hmY hcY hframes (by rw [hlY]; omega) h4 h5) h1
  obtain ⟨mid, hmid⟩ := h.above
  have hfr : (U.setTop g).frames = (.java g :: mid) ++ below := by rw [State.frames_setTop' g h.top, hmid]; rfl
  obtain ⟨o, s₂, hsteps, -, hend, hq⟩ := Steps.callFree hM p X.admits X.cas X.clock (acts := []) hfr happ hPc trivial
  have hq' : vx_Q Qc XC mc ms free a (U.calling g mk a) o s₂ := hq
  rw [State.frames_setTop' g h.top] at hend
  obtain ⟨g₀, hg0⟩ := Option.isSome_iff_exists.mp h.top
  obtain ⟨r, hr⟩ := State.topJava?_eq_some.mp hg0
  have hr' : (({ U with heap := s₂.heap, slotsUsed := s₂.slotsUsed } : State).setVm s₂.vm).frames = .java g₀ :: r := hr
  rcases hq' with ⟨hqc, L, hfe, hL⟩ | ⟨q, rfl, E, ce, L, hx, hce, hcv, hcl, hW₂, hsm, hL⟩
  · obtain ⟨⟨v, rfl⟩, hW₂, e2, q2, q3, q4, q5, q6⟩ := id hfe
    have e3 : s₂ = ({ (U.calling g mk a).setFrames s₂.frames with heap := s₂.heap, slotsUsed := s₂.slotsUsed } : State).setVm s₂.vm := by
      have : s₂ = ({ s₂ with vm := (U.calling g mk a).vm } : State).setVm s₂.vm := rfl
      rw [e2] at this
      exact this
    obtain ⟨c₂, i₂, len₂, hc₂, hd₂, hf₂⟩ := hend
    have hW' : U.WarmedH s₂.vm := hW₂
    have hcc : c₂ = c := by
      have h1 : s₂.code? g.method = U.code? g.method := by
        rw [State.code?_eq, State.code?_eq, hW'.alike.method?]
      exact Option.some.inj (hc₂.symm.trans (h1.trans h.code))
    subst hcc
    have hlen : len₂ = len := by rw [hdg] at hd₂; cases hd₂; rfl
    subst hlen
    have hs₂ : s₂ = (({ U with heap := s₂.heap, slotsUsed := s₂.slotsUsed } : State).setVm s₂.vm).setTop { g with pc := g.pc + len₂, stack := v.toList ++ g.stack } := by
      refine e3.trans ?_
      rw [hf₂, State.calling_eq h.top, State.setFrames_setFrames, State.setTop_of_frames _ hr', hr]
      rfl
    have hsame : U.sameButNew ({ U with heap := s₂.heap, slotsUsed := s₂.slotsUsed } : State) L mc ms := by
      refine ⟨?_, q2, q3, q4, q5, q6⟩
      obtain ⟨t, ht, -⟩ := State.frames_cons hr
      show ({ U with heap := s₂.heap, slotsUsed := s₂.slotsUsed } : State) = { U.setFrames U.frames with heap := s₂.heap, slotsUsed := s₂.slotsUsed }
      rw [State.setFrames_self ht]
    subst hg
    refine Or.inl ⟨v, ⟨(({ U with heap := s₂.heap, slotsUsed := s₂.slotsUsed } : State).setVm s₂.vm), Ls ++ L, c0 + mc, s0 + ms⟩,
      ⟨X.admits, X.cas, X.clock, X.frames, X.room, X.hears, X.method, X.code, (X.here.setHeapUsed s₂.heap s₂.slotsUsed).setVm hW'.alike, X.tail, State.WarmedH.trans X.warmed hW', X.limits, X.bytes, X.same.trans (hsame.setVm s.vm)⟩,
      ⟨g, mk, s₂, L, rfl, rfl, hqc, rfl, hL, rfl, rfl⟩, ?_⟩
    show Steps p.tables e below _ ((({ U with heap := s₂.heap, slotsUsed := s₂.slotsUsed } : State).setVm s₂.vm).setTop { g with pc := g.pc + len₂, stack := v.toList ++ g.stack })
    rw [← hs₂]
    exact hsteps
  · obtain ⟨e2, q2, q3, q4, q5, q6⟩ := id hsm
    have e3 : s₂ = ({ (U.calling g mk a).setFrames s₂.frames with heap := s₂.heap, slotsUsed := s₂.slotsUsed } : State).setVm s₂.vm := by
      have : s₂ = ({ s₂ with vm := (U.calling g mk a).vm } : State).setVm s₂.vm := rfl
      rw [e2] at this
      exact this
    have hf₂ : s₂.frames = .throwing q :: .java g :: U.frames.tail := hend
    have hW' : U.WarmedH s₂.vm := hW₂
    have hs₂ : s₂ = ((({ U with heap := s₂.heap, slotsUsed := s₂.slotsUsed } : State).setVm s₂.vm).setTop g).pushFrame (.throwing q) := by
      refine e3.trans ?_
      rw [hf₂, State.calling_eq h.top, State.setFrames_setFrames, State.pushFrame, State.frames_setTop _ hr', State.setTop_of_frames _ hr', State.setFrames_setFrames, hr]
      rfl
    have hsame : U.sameButNew ({ U with heap := s₂.heap, slotsUsed := s₂.slotsUsed } : State) L mc ms := by
      refine ⟨?_, q2, q3, q4, q5, q6⟩
      obtain ⟨t, ht, -⟩ := State.frames_cons hr
      show ({ U with heap := s₂.heap, slotsUsed := s₂.slotsUsed } : State) = { U.setFrames U.frames with heap := s₂.heap, slotsUsed := s₂.slotsUsed }
      rw [State.setFrames_self ht]
    subst hg
    refine Or.inr ⟨q, ⟨(({ U with heap := s₂.heap, slotsUsed := s₂.slotsUsed } : State).setVm s₂.vm), Ls ++ L, c0 + mc, s0 + ms⟩,
      ⟨X.admits, X.cas, X.clock, X.frames, X.room, X.hears, X.method, X.code, (X.here.setHeapUsed s₂.heap s₂.slotsUsed).setVm hW'.alike, X.tail, State.WarmedH.trans X.warmed hW', X.limits, X.bytes, X.same.trans (hsame.setVm s.vm)⟩,
      ⟨g, mk, s₂, L, E, ce, rfl, rfl, hx, hce, hcv, hcl, rfl, hL, rfl, rfl⟩, ?_⟩
    show Steps p.tables e below _ (((({ U with heap := s₂.heap, slotsUsed := s₂.slotsUsed } : State).setVm s₂.vm).setTop g).pushFrame (.throwing q))
    rw [← hs₂]
    exact hsteps
end
variable {p : Program} {l : Launch} {e : Env} {R : Room} {s : State} {m : MethodId} {args : Array Value} {below : List Frame} {meth : Method} {c : Code} {T : State} {H : Heap} {locs : List Loc} {cells slots : Nat}
theorem vx_callVX (X : Stand p l e R s m args below meth c T locs cells slots) (hexec : p.tables.exec = Jvm.exec) {own C : String} {index : Nat} {y : MethodName} {bytes : ByteArray} {maxL : Nat} {ret : Option FieldType} {hh : List (Nat × Nat × Nat × Nat)}
    (hown : s.vm.findClass own = some m.cls) (hlink : (Cond.methodLink own index y).before args s = true) (hinst : (Cond.instanceMethod y).before args s = true) (hsel : (Cond.selects C y y).before args s = true)
    (hcode : (Cond.codeWith y bytes maxL ret hh).before args s = true) (hy : y.cls ≠ "java/lang/invoke/MethodHandle" ∧ y.cls ≠ "java/lang/invoke/VarHandle")
    {W9 : Nat} {Pre : Pt → Array Value → Prop} {Post : Pt → Array Value → Option Value → Pt → Prop} {PostX : Pt → Array Value → Addr → Pt → Prop} (hK : vx_Back l R p e below s args y 3 W9 Pre Post PostX)
    {b : Addr} {cellB : Cell} (hcell : T.heap[b]? = some cellB) (hobj : cellB.vm.isStatics = false) (hcls : s.vm.findClass C = some cellB.cls)
    {g : JFrame} (hg : g.method = m) (hsize : g.locals.size = c.maxLocals) {argsL rest : List Value} (hlen : ∀ sig, parseMethodDescriptor y.desc = some sig → argsL.length = sig.parameters.length)
    (hstack : g.stack = argsL.reverse ++ .ref b :: rest) (hW : 2 * g.monitorRoom + (rest.map fun v => v.category).sum ≤ W9) (hdg : decode c.code g.pc = .ok (.invokevirtual index, 3))
    (hpre : ∀ vm₁, s.WarmedH vm₁ → Pre ⟨T.setVm vm₁, locs, cells, slots⟩ (Value.ref b :: argsL).toArray) :
    (∃ (v : Option Value) (vm₁ : Vm) (B : Pt), s.WarmedH vm₁ ∧ Stand p l e R s m args below meth c B.U B.locs B.cells B.slots ∧ Post ⟨T.setVm vm₁, locs, cells, slots⟩ (Value.ref b :: argsL).toArray v B ∧
      ∀ target, Steps p.tables e below (B.U.setTop { g with pc := g.pc + 3, stack := v.toList ++ rest }) target → Steps p.tables e below (T.setTop g) target) ∨
    (∃ (q : Addr) (vm₁ : Vm) (B : Pt), s.WarmedH vm₁ ∧ Stand p l e R s m args below meth c B.U B.locs B.cells B.slots ∧ PostX ⟨T.setVm vm₁, locs, cells, slots⟩ (Value.ref b :: argsL).toArray q B ∧
      Steps p.tables e below (T.setTop g) ((B.U.setTop { g with stack := rest }).pushFrame (.throwing q))) := by
  obtain ⟨mk, methM, hnamed, hmethM, hstM, habM⟩ := Cond.instanceMethod_spec hinst
  obtain ⟨m8, methM', cM, hn8, hmethM', -, -, -, -, -, -, hsigM⟩ := Cond.codeWith_spec hcode
  cases Option.some.inj (hn8.symm.trans hnamed)
  cases hmethM.symm.trans hmethM'
  obtain ⟨c2, r2, m2, q1, q2, q3, q4, kP, hkP, hkPi⟩ := Cond.selects_spec hsel
  cases hcls.symm.trans q1
  cases (State.methodFound?_of_named hnamed hy).symm.trans q2
  cases hnamed.symm.trans q3
  have hselP : selectMethod e.platform s.vm cellB.cls mk = .method mk := by rw [Launch.admits_selectMethod X.admits]; exact q4
  obtain ⟨vm₁, X₁, hstep₁⟩ := X.invokevirtual hexec hown hlink hnamed hmethM hstM hkP hkPi hy (a := b) (cell := cellB) hcell
    (fun z h => by rw [h] at hobj; cases hobj) hselP hmethM habM hkP hkPi (g := g) hg (argsL := argsL) (rest := rest) (hlen _ hsigM) hstack hdg
  rcases hK m meth c ⟨T.setVm vm₁, locs, cells, slots⟩ { g with stack := rest } (.invokevirtual index) mk (Value.ref b :: argsL).toArray X₁ hg hsize hdg hW (X₁.named hnamed) (hpre vm₁ X₁.warmed) with ⟨v, B, X', hpost, hsteps⟩ | ⟨q, B, X', hpost, hsteps⟩
  · exact Or.inl ⟨v, vm₁, B, X₁.warmed, X', hpost, fun target h => hstep₁ _ fun acts => by rw [doInvoke_state]; exact hsteps.trans h⟩
  · exact Or.inr ⟨q, vm₁, B, X₁.warmed, X', hpost, hstep₁ _ fun acts => by rw [doInvoke_state]; exact hsteps⟩
theorem vx_callSX (X : Stand p l e R s m args below meth c T locs cells slots) (hexec : p.tables.exec = Jvm.exec) {own : String} {index : Nat} {y : MethodName} {bytes : ByteArray} {maxL : Nat} {ret : Option FieldType} {hh : List (Nat × Nat × Nat × Nat)}
    (hown : s.vm.findClass own = some m.cls) (hlink : (Cond.methodLink own index y).before args s = true) (hstat : (Cond.static y).before args s = true) (hinit : (Cond.initialized y.cls).before args s = true)
    (hcode : (Cond.codeWith y bytes maxL ret hh).before args s = true) (hy : y.cls ≠ "java/lang/invoke/MethodHandle" ∧ y.cls ≠ "java/lang/invoke/VarHandle")
    {W9 : Nat} {Pre : Pt → Array Value → Prop} {Post : Pt → Array Value → Option Value → Pt → Prop} {PostX : Pt → Array Value → Addr → Pt → Prop} (hK : vx_Back l R p e below s args y 3 W9 Pre Post PostX)
    {g : JFrame} (hg : g.method = m) (hsize : g.locals.size = c.maxLocals) {argsL rest : List Value} (hlen : ∀ sig, parseMethodDescriptor y.desc = some sig → argsL.length = sig.parameters.length)
    (hstack : g.stack = argsL.reverse ++ rest) (hW : 2 * g.monitorRoom + (rest.map fun v => v.category).sum ≤ W9) (hdg : decode c.code g.pc = .ok (.invokestatic index, 3))
    (hpre : ∀ vm₁, s.WarmedH vm₁ → Pre ⟨T.setVm vm₁, locs, cells, slots⟩ argsL.toArray) :
    (∃ (v : Option Value) (vm₁ : Vm) (B : Pt), s.WarmedH vm₁ ∧ Stand p l e R s m args below meth c B.U B.locs B.cells B.slots ∧ Post ⟨T.setVm vm₁, locs, cells, slots⟩ argsL.toArray v B ∧
      ∀ target, Steps p.tables e below (B.U.setTop { g with pc := g.pc + 3, stack := v.toList ++ rest }) target → Steps p.tables e below (T.setTop g) target) ∨
    (∃ (q : Addr) (vm₁ : Vm) (B : Pt), s.WarmedH vm₁ ∧ Stand p l e R s m args below meth c B.U B.locs B.cells B.slots ∧ PostX ⟨T.setVm vm₁, locs, cells, slots⟩ argsL.toArray q B ∧
      Steps p.tables e below (T.setTop g) ((B.U.setTop { g with stack := rest }).pushFrame (.throwing q))) := by
  obtain ⟨mk, methM, cM, hnamed, hmethM, -, -, -, -, -, -, hsigM⟩ := Cond.codeWith_spec hcode
  have hstatic : methM.isStatic = true := Cond.static_spec hnamed hmethM hstat
  obtain ⟨kP, hkP, -⟩ := className_of_methodNamed hnamed
  have hinitP : kP.init = .initialized := Cond.initialized_spec (findClass_of_methodNamed hnamed) hkP hinit
  obtain ⟨vm₁, X₁, hstep₁⟩ := X.invokestatic hexec hown hlink hnamed hmethM hstatic hkP hinitP hy (g := g) hg (argsL := argsL) (rest := rest) (hlen _ hsigM) hstack hdg
  rcases hK m meth c ⟨T.setVm vm₁, locs, cells, slots⟩ { g with stack := rest } (.invokestatic index) mk argsL.toArray X₁ hg hsize hdg hW (X₁.named hnamed) (hpre vm₁ X₁.warmed) with ⟨v, B, X', hpost, hsteps⟩ | ⟨q, B, X', hpost, hsteps⟩
  · exact Or.inl ⟨v, vm₁, B, X₁.warmed, X', hpost, fun target h => hstep₁ _ fun acts => by rw [doInvoke_state]; exact hsteps.trans h⟩
  · exact Or.inr ⟨q, vm₁, B, X₁.warmed, X', hpost, hstep₁ _ fun acts => by rw [doInvoke_state]; exact hsteps⟩
theorem vx_callVW (X : Stand p l e R s m args below meth c T locs cells slots) (hexec : p.tables.exec = Jvm.exec) {own C : String} {index : Nat} {y : MethodName} {bytes : ByteArray} {maxL : Nat} {ret : Option FieldType} {hh : List (Nat × Nat × Nat × Nat)}
    (hown : s.vm.findClass own = some m.cls) (hlink : (Cond.methodLink own index y).before args s = true) (hinst : (Cond.instanceMethod y).before args s = true) (hsel : (Cond.selects C y y).before args s = true)
    (hcode : (Cond.codeWith y bytes maxL ret hh).before args s = true) (hy : y.cls ≠ "java/lang/invoke/MethodHandle" ∧ y.cls ≠ "java/lang/invoke/VarHandle")
    {W9 : Nat} {Pre : Pt → Array Value → Prop} {Post : Pt → Array Value → Option Value → Pt → Prop} (hK : Back l R p e below s args y 3 W9 Pre Post)
    {b : Addr} {cellB : Cell} (hcell : T.heap[b]? = some cellB) (hobj : cellB.vm.isStatics = false) (hcls : s.vm.findClass C = some cellB.cls)
    {g : JFrame} (hg : g.method = m) (hsize : g.locals.size = c.maxLocals) {argsL rest : List Value} (hlen : ∀ sig, parseMethodDescriptor y.desc = some sig → argsL.length = sig.parameters.length)
    (hstack : g.stack = argsL.reverse ++ .ref b :: rest) (hW : 2 * g.monitorRoom + (rest.map fun v => v.category).sum ≤ W9) (hdg : decode c.code g.pc = .ok (.invokevirtual index, 3))
    (hpre : ∀ vm₁, s.WarmedH vm₁ → Pre ⟨T.setVm vm₁, locs, cells, slots⟩ (Value.ref b :: argsL).toArray) :
    ∃ (v : Option Value) (vm₁ : Vm) (B : Pt), s.WarmedH vm₁ ∧ Stand p l e R s m args below meth c B.U B.locs B.cells B.slots ∧ Post ⟨T.setVm vm₁, locs, cells, slots⟩ (Value.ref b :: argsL).toArray v B ∧
      ∀ target, Steps p.tables e below (B.U.setTop { g with pc := g.pc + 3, stack := v.toList ++ rest }) target → Steps p.tables e below (T.setTop g) target := by
  obtain ⟨mk, methM, hnamed, hmethM, hstM, habM⟩ := Cond.instanceMethod_spec hinst
  obtain ⟨m8, methM', cM, hn8, hmethM', -, -, -, -, -, -, hsigM⟩ := Cond.codeWith_spec hcode
  cases Option.some.inj (hn8.symm.trans hnamed)
  cases hmethM.symm.trans hmethM'
  obtain ⟨c2, r2, m2, q1, q2, q3, q4, kP, hkP, hkPi⟩ := Cond.selects_spec hsel
  cases hcls.symm.trans q1
  cases (State.methodFound?_of_named hnamed hy).symm.trans q2
  cases hnamed.symm.trans q3
  have hselP : selectMethod e.platform s.vm cellB.cls mk = .method mk := by rw [Launch.admits_selectMethod X.admits]; exact q4
  obtain ⟨vm₁, X₁, hstep₁⟩ := X.invokevirtual hexec hown hlink hnamed hmethM hstM hkP hkPi hy (a := b) (cell := cellB) hcell
    (fun z h => by rw [h] at hobj; cases hobj) hselP hmethM habM hkP hkPi (g := g) hg (argsL := argsL) (rest := rest) (hlen _ hsigM) hstack hdg
  obtain ⟨v, B, X', hpost, hsteps⟩ := hK m meth c ⟨T.setVm vm₁, locs, cells, slots⟩ { g with stack := rest } (.invokevirtual index) mk (Value.ref b :: argsL).toArray X₁ hg hsize hdg hW (X₁.named hnamed) (hpre vm₁ X₁.warmed)
  exact ⟨v, vm₁, B, X₁.warmed, X', hpost, fun target h => hstep₁ _ fun acts => by rw [doInvoke_state]; exact hsteps.trans h⟩
abbrev vx_CVW (R : Room) (s : State) (args : Array Value) (own C : String) (index : Nat) (y : MethodName) (bytes : ByteArray) (maxL : Nat) (ret : Option FieldType) (hh : List (Nat × Nat × Nat × Nat)) (ws : List Cond) (rm : Room) (mc ms n : Nat) : Prop :=
  (rm.cells = mc ∧ rm.slots = ms ∧ rm.frames + 1 ≤ R.frames ∧ 8 + (maxL + 11) + rm.locals ≤ R.locals ∧ (∀ w ∈ ws, ∀ (a' : Array Value) (U : State), s.WarmedH U.vm → w.before a' U = true) ∧ Cond.codeWith y bytes maxL ret hh ∈ ws) ∧
  (Cond.codeWith y bytes maxL ret hh).before args s = true ∧ (Cond.initialized y.cls).before args s = true ∧ (y.cls ≠ "java/lang/invoke/MethodHandle" ∧ y.cls ≠ "java/lang/invoke/VarHandle") ∧
  (∀ sig, parseMethodDescriptor y.desc = some sig → n = sig.parameters.length) ∧ (Cond.methodLink own index y).before args s = true ∧ (Cond.instanceMethod y).before args s = true ∧ (Cond.selects C y y).before args s = true
theorem vx_cwVW {own C : String} {index maxL mc ms : Nat} {y : MethodName} {bytes : ByteArray} {ret : Option FieldType} {hh : List (Nat × Nat × Nat × Nat)} {Ts ws ws' : List Cond} {rm : Room} (n : Nat) (ht : ∀ w ∈ Ts, w.before args s = true) (hT : GoodIn Ts (wsV own index C y ws)) (hw : ws = Cond.codeWith y bytes maxL ret hh :: ws') (hrc : rm.cells = mc) (hrs : rm.slots = ms)
    (hd : y.cls = C ∧ y.cls ≠ "java/lang/invoke/MethodHandle" ∧ y.cls ≠ "java/lang/invoke/VarHandle" ∧ (parseMethodDescriptor y.desc).map (fun d => d.parameters.length) = some n) (hR : rm.frames + 1 ≤ R.frames ∧ 8 + (maxL + 11) + rm.locals ≤ R.locals) :
    vx_CVW R s args own C index y bytes maxL ret hh ws rm mc ms n := by
  obtain ⟨hC, hd⟩ := hd
  subst hC
  have ok : ∀ w ∈ wsV own index y.cls y ws, w.before args s = true := fun w h => ht w (hT w h).1
  have hG : GoodIn Ts ws := fun w h => hT w (by unfold wsV; exact List.mem_append_right _ h)
  have hc : Cond.codeWith y bytes maxL ret hh ∈ ws := by rw [hw]; exact List.mem_cons_self
  refine ⟨⟨hrc, hrs, hR.1, hR.2, pay_in ht hG, hc⟩, ht _ (hG _ hc).1, ok _ (by simp [wsV]), ⟨hd.1, hd.2.1⟩, fun sig h => ?_, ok _ (by simp [wsV]), ok _ (by simp [wsV]), ok _ (by simp [wsV])⟩
  have h2 := hd.2.2
  rw [h] at h2
  exact (Option.some.inj h2).symm
theorem vx_runVW {y : MethodName} {bytes cc : ByteArray} {maxL nL mc ms n index : Nat} {ret : Option FieldType} {hh : List (Nat × Nat × Nat × Nat)} {ws : List Cond} {rm : Room} {Pc : Array Value → State → Prop} {Qc : Array Value → State → Outcome → State → Prop} {free : Addr → Prop} {Ts : List Cond} {own C : String} {b : Addr} {As rest : List Value} {g : JFrame}
    (S : CallFix p m c cc nL s args Ts own) (hM : Met l y ws rm Pc Qc mc ms free) (cw : vx_CVW R s args own C index y bytes maxL ret hh ws rm mc ms n) (hp : PreV s H C b Pc As)
    (hg : g.method = m) (hn : As.length = n) (hsize : g.locals.size = nL) (hstack : g.stack = As.reverse ++ .ref b :: rest) (hW : 2 * g.monitorRoom + (rest.map fun v => v.category).sum ≤ 8) (hdg : decode cc g.pc = .ok (.invokevirtual index, 3)) (hf : cells + mc ≤ R.cells ∧ slots + ms ≤ R.slots) :
    va_Run p l e R s m args below meth c H locs cells slots mc ms g rest (Qc (Value.ref b :: As).toArray) free := by
  obtain ⟨⟨hrc, hrs, hfr, hlo, hws, hcw⟩, hcode, hini, hy, hlen, hl, hin, hse⟩ := cw
  have hK : Back l R p e below s args y 3 8 (PreOf R mc ms Pc) (PostOf Qc mc ms free) := va_backW (hh := hh) (bytes := bytes) (maxL := maxL) (ret := ret) hM hp.1 hrc hrs hfr hlo hws hcw (fun a' U hW => word_at hW (Or.inl (by first | rfl | simp [Cond.onTables, Cond.keeps, Cond.steady])) hini)
  obtain ⟨hx, hb, hml, ho, -⟩ := S
  obtain ⟨-, ⟨cellB, hcB, hoB, hclB⟩, hPc⟩ := hp
  intro T hT X
  obtain ⟨v, vm₁, ⟨U', l2, c2, s2⟩, hW₁, X', ⟨g', mk, t, L, e1, e2, hq, h1, hL, h2, h3⟩, st⟩ := vx_callVW X hx (C := C) (hh := hh) (bytes := bytes) (maxL := maxL) (ret := ret) ho hl hin hse hcode hy hK (by rw [hT]; exact hcB) hoB hclB hg (hsize.trans hml.symm) (argsL := As) (rest := rest) (fun sig h => hn.trans (hlen sig h)) hstack hW (by rw [hb]; exact hdg)
    (fun vm₁ hW₁ => ⟨hf.1, hf.2, hPc (T.setVm vm₁) hT hW₁⟩)
  dsimp only [Pt.U, Pt.locs, Pt.cells, Pt.slots] at X' e1 e2 h1 h2 h3 st
  subst h1; subst h2; subst h3
  exact ⟨v, (T.setVm vm₁).calling g' mk (Value.ref b :: As).toArray, t, U', L, hT, X', hL, e1, e2, hq, st⟩
section
variable {y : MethodName} {bytes cc : ByteArray} {maxL nL mc ms n index : Nat} {ret : Option FieldType} {ws : List Cond} {rm : Room} {Pc : Array Value → State → Prop} {Qc : Array Value → State → Outcome → State → Prop} {XC : String → State → State → Prop} {free : Addr → Prop} {Ts : List Cond} {own C : String} {b : Addr} {As rest : List Value} {g : JFrame}
theorem vx_runVX {hh : List (Nat × Nat × Nat × Nat)} (S : CallFix p m c cc nL s args Ts own) (hM : vx_Met l y ws rm Pc Qc XC mc ms free) (cw : vx_CVW R s args own C index y bytes maxL ret hh ws rm mc ms n) (hp : PreV s H C b Pc As)
    (hg : g.method = m) (hn : As.length = n) (hsize : g.locals.size = nL) (hstack : g.stack = As.reverse ++ .ref b :: rest) (hW : 2 * g.monitorRoom + (rest.map fun v => v.category).sum ≤ 8) (hdg : decode cc g.pc = .ok (.invokevirtual index, 3)) (hf : cells + mc ≤ R.cells ∧ slots + ms ≤ R.slots) :
    vx_Run p l e R s m args below meth c H locs cells slots mc ms g rest (Qc (Value.ref b :: As).toArray) XC free := by
  obtain ⟨⟨hrc, hrs, hfr, hlo, hws, hcw⟩, hcode, hini, hy, hlen, hl, hin, hse⟩ := cw
  have hK : vx_Back l R p e below s args y 3 8 (PreOf R mc ms Pc) (PostOf Qc mc ms free) (vx_Post XC mc ms free) := vx_backW (hh := hh) (bytes := bytes) (maxL := maxL) (ret := ret) hM hp.1 hrc hrs hfr hlo hws hcw (fun a' U hW => word_at hW (Or.inl (by first | rfl | simp [Cond.onTables, Cond.keeps, Cond.steady])) hini)
  obtain ⟨hx, hb, hml, ho, -⟩ := S
  obtain ⟨-, ⟨cellB, hcB, hoB, hclB⟩, hPc⟩ := hp
  intro T hT X
  rcases vx_callVX X hx (C := C) (hh := hh) (bytes := bytes) (maxL := maxL) (ret := ret) ho hl hin hse hcode hy hK (by rw [hT]; exact hcB) hoB hclB hg (hsize.trans hml.symm) (argsL := As) (rest := rest) (fun sig h => hn.trans (hlen sig h)) hstack hW (by rw [hb]; exact hdg)
    (fun vm₁ hW₁ => ⟨hf.1, hf.2, hPc (T.setVm vm₁) hT hW₁⟩) with ⟨v, vm₁, ⟨U', l2, c2, s2⟩, hW₁, X', ⟨g', mk, t, L, e1, e2, hq, h1, hL, h2, h3⟩, st⟩ | ⟨q, vm₁, ⟨U', l2, c2, s2⟩, hW₁, X', ⟨g', mk, t, L, E, ce, e1, e2, hq, hce, hcv, hcl, h1, hL, h2, h3⟩, st⟩
  · dsimp only [Pt.U, Pt.locs, Pt.cells, Pt.slots] at X' e1 e2 h1 h2 h3 st
    subst h1; subst h2; subst h3
    exact Or.inl ⟨v, (T.setVm vm₁).calling g' mk (Value.ref b :: As).toArray, t, U', L, hT, X', hL, e1, e2, hq, st⟩
  · dsimp only [Pt.U, Pt.locs, Pt.cells, Pt.slots] at X' e1 e2 h1 h2 h3 st hcl
    subst h1; subst h2; subst h3
    exact Or.inr ⟨q, (T.setVm vm₁).calling g' mk (Value.ref b :: As).toArray, t, U', L, E, ce, hT, X', hL, e1, e2, hq, hce, hcv, vx_cls hW₁ hcl, st⟩
theorem vx_runSX {hh : List (Nat × Nat × Nat × Nat)} (S : CallFix p m c cc nL s args Ts own) (hM : vx_Met l y ws rm Pc Qc XC mc ms free) (cw : vx_CSW R s args own index y bytes maxL ret hh ws rm mc ms n) (hp : PreS s H Pc As)
    (hg : g.method = m) (hn : As.length = n) (hsize : g.locals.size = nL) (hstack : g.stack = As.reverse ++ rest) (hW : 2 * g.monitorRoom + (rest.map fun v => v.category).sum ≤ 8) (hdg : decode cc g.pc = .ok (.invokestatic index, 3)) (hf : cells + mc ≤ R.cells ∧ slots + ms ≤ R.slots) :
    vx_Run p l e R s m args below meth c H locs cells slots mc ms g rest (Qc As.toArray) XC free := by
  obtain ⟨⟨hrc, hrs, hfr, hlo, hws, hcw⟩, hcode, hini, hy, hlen, hl, hstt⟩ := cw
  have hK : vx_Back l R p e below s args y 3 8 (PreOf R mc ms Pc) (PostOf Qc mc ms free) (vx_Post XC mc ms free) := vx_backW (hh := hh) (bytes := bytes) (maxL := maxL) (ret := ret) hM hp.1 hrc hrs hfr hlo hws hcw (fun a' U hW => word_at hW (Or.inl (by first | rfl | simp [Cond.onTables, Cond.keeps, Cond.steady])) hini)
  obtain ⟨hx, hb, hml, ho, -⟩ := S
  intro T hT X
  rcases vx_callSX X hx (hh := hh) (bytes := bytes) (maxL := maxL) (ret := ret) ho hl hstt hini hcode hy hK hg (hsize.trans hml.symm) (argsL := As) (rest := rest) (fun sig h => hn.trans (hlen sig h)) hstack hW (by rw [hb]; exact hdg)
    (fun vm₁ hW₁ => ⟨hf.1, hf.2, hp.2 (T.setVm vm₁) hT hW₁⟩) with ⟨v, vm₁, ⟨U', l2, c2, s2⟩, hW₁, X', ⟨g', mk, t, L, e1, e2, hq, h1, hL, h2, h3⟩, st⟩ | ⟨q, vm₁, ⟨U', l2, c2, s2⟩, hW₁, X', ⟨g', mk, t, L, E, ce, e1, e2, hq, hce, hcv, hcl, h1, hL, h2, h3⟩, st⟩
  · dsimp only [Pt.U, Pt.locs, Pt.cells, Pt.slots] at X' e1 e2 h1 h2 h3 st
    subst h1; subst h2; subst h3
    exact Or.inl ⟨v, (T.setVm vm₁).calling g' mk As.toArray, t, U', L, hT, X', hL, e1, e2, hq, st⟩
  · dsimp only [Pt.U, Pt.locs, Pt.cells, Pt.slots] at X' e1 e2 h1 h2 h3 st hcl
    subst h1; subst h2; subst h3
    exact Or.inr ⟨q, (T.setVm vm₁).calling g' mk As.toArray, t, U', L, E, ce, hT, X', hL, e1, e2, hq, hce, hcv, vx_cls hW₁ hcl, st⟩
end
end VXH
theorem vx_ofWH {l : Launch} {y : MethodName} {ws ws' : List Cond} {rm : Room} {Pc : Array Value → State → Prop} {Qc : Array Value → State → Outcome → State → Prop} {XC : String → State → State → Prop} {mc ms : Nat} {free : Addr → Prop} {cc : ByteArray} {maxL : Nat} {ret : Option FieldType} {hh : List (Nat × Nat × Nat × Nat)}
    (hy : plainName y.cls = true) (hw : ws = Cond.codeWith y cc maxL ret hh :: ws')
    (body : ∀ p e s m args below meth c s₁, BodyLoose p l y (headSpec ws rm) cc maxL ret e s m args below meth c s₁ → c.maxLocals = maxL → Pc args s →
      W p l e (headSpec ws rm).room s m args below meth c s.heap [] 0 0 (vx_MQ below Qc XC args s mc ms free) (entryFrame m args maxL)) : vx_Met l y ws rm Pc Qc XC mc ms free := by
  refine MetFree.of_bodyS (code := cc) (maxLocals := maxL) (ret := ret) hy ?_ ?_
  · intro args s m h hn
    obtain ⟨m9, meth, c, hn9, h1, h2, h3, h4, -, h5, h6, -⟩ := Cond.codeWith_spec (atoms_spec (ws := ws) h _ (by rw [hw]; exact List.mem_cons_self))
    cases hn.symm.trans hn9
    exact ⟨meth, c, h1, h2, h3, h4, h5, h6⟩
  · intro p e s m args below meth c s₁ B hml hP _
    have hh0 : s₁.heap = s.heap := by rw [B.state]; rfl
    obtain ⟨t, a1, o, b1, b2, b3⟩ := body p e s m args below meth c s₁ B hml hP s₁ hh0 (Stand.of_body B)
    exact ⟨t, o, a1, b1, b2, b3⟩
/-! ===== END ===== -/
end
section
/-! ===== BEGIN printed: names, fields, word lists, decode rows ===== -/
def RX0 : String := "NameSpaces$Handles"
def TX0 : u_T := fun k => match k with
  | 0 => ("NameSpaces$Handles", "servers", "[I", true)
  | 1 => ("NameSpaces$Handles", "handles", "[I", true)
  | 2 => ("NameSpaces$Handles", "makers", "[Z", true)
  | _ => ("NameSpaces$Handles", "count", "I", false)
def tyX0 : Nat → FieldType := fun k => match k with
  | 0 => .array .int
  | 1 => .array .int
  | 2 => .array .boolean
  | _ => .int
abbrev wsX00 : List Cond := u_ws RX0 TX0 4
theorem nmX0 : ∀ a, a < 4 → ∀ b, b < 4 → a ≠ b → (TX0 a).2.1 ≠ (TX0 b).2.1 := by decide +kernel
theorem tyX0_ok : ∀ k, k < 4 → parseFieldDescriptor (TX0 k).2.2.1 = some (tyX0 k) := by decide +kernel
abbrev cX0_init : ByteArray := prog_2_method_1_code
def yX0_init : MethodName := ⟨RX0, "<init>", "()V"⟩
abbrev cX0_insert : ByteArray := prog_2_method_2_code
def yX0_insert : MethodName := ⟨RX0, "insert", "(IIIZ)V"⟩
abbrev cX0_delete : ByteArray := prog_2_method_3_code
def yX0_delete : MethodName := ⟨RX0, "delete", "(I)V"⟩
abbrev cX0_serverAt : ByteArray := prog_2_method_4_code
def yX0_serverAt : MethodName := ⟨RX0, "serverAt", "(I)I"⟩
abbrev cX0_handleAt : ByteArray := prog_2_method_5_code
def yX0_handleAt : MethodName := ⟨RX0, "handleAt", "(I)I"⟩
abbrev cX0_mayMake : ByteArray := prog_2_method_6_code
def yX0_mayMake : MethodName := ⟨RX0, "mayMake", "(I)Z"⟩
abbrev cX0_firstMaker : ByteArray := prog_2_method_7_code
def yX0_firstMaker : MethodName := ⟨RX0, "firstMaker", "()I"⟩
def RX1 : String := "NameSpaces$Message"
def TX1 : u_T := fun k => match k with
  | 0 => ("NameSpaces$Message", "bytes", "[I", true)
  | 1 => ("NameSpaces$Message", "length", "I", false)
  | _ => ("NameSpaces$Message", "begun", "I", false)
def tyX1 : Nat → FieldType := fun k => match k with
  | 0 => .array .int
  | 1 => .int
  | _ => .int
abbrev wsX10 : List Cond := u_ws RX1 TX1 3
theorem nmX1 : ∀ a, a < 3 → ∀ b, b < 3 → a ≠ b → (TX1 a).2.1 ≠ (TX1 b).2.1 := by decide +kernel
theorem tyX1_ok : ∀ k, k < 3 → parseFieldDescriptor (TX1 k).2.2.1 = some (tyX1 k) := by decide +kernel
abbrev cX1_init : ByteArray := prog_3_method_1_code
def yX1_init : MethodName := ⟨RX1, "<init>", "()V"⟩
abbrev cX1_begin : ByteArray := prog_3_method_2_code
def yX1_begin : MethodName := ⟨RX1, "begin", "(I)V"⟩
abbrev cX1_put : ByteArray := prog_3_method_3_code
def yX1_put : MethodName := ⟨RX1, "put", "(II)V"⟩
abbrev cX1_byteAt : ByteArray := prog_3_method_4_code
def yX1_byteAt : MethodName := ⟨RX1, "byteAt", "(I)I"⟩
abbrev cX1_byteOrLength : ByteArray := prog_3_method_5_code
def yX1_byteOrLength : MethodName := ⟨RX1, "byteOrLength", "(I)I"⟩
abbrev cX1_number : ByteArray := prog_3_method_6_code
def yX1_number : MethodName := ⟨RX1, "number", "(I)I"⟩
def RX2 : String := "NameSpaces$NameSpace"
def TX2 : u_T := fun k => match k with
  | 0 => ("NameSpaces$NameSpace", "places", "[LNameSpaces$Place;", true)
  | 1 => ("NameSpaces$NameSpace", "count", "I", false)
  | _ => ("NameSpaces$NameSpace", "users", "I", false)
def tyX2 : Nat → FieldType := fun k => match k with
  | 0 => .array (.object "NameSpaces$Place")
  | 1 => .int
  | _ => .int
abbrev wsX20 : List Cond := u_ws RX2 TX2 3
theorem nmX2 : ∀ a, a < 3 → ∀ b, b < 3 → a ≠ b → (TX2 a).2.1 ≠ (TX2 b).2.1 := by decide +kernel
theorem tyX2_ok : ∀ k, k < 3 → parseFieldDescriptor (TX2 k).2.2.1 = some (tyX2 k) := by decide +kernel
abbrev cX2_init : ByteArray := prog_4_method_1_code
def yX2_init : MethodName := ⟨RX2, "<init>", "()V"⟩
abbrev cX2_indexOf : ByteArray := prog_4_method_2_code
def yX2_indexOf : MethodName := ⟨RX2, "indexOf", "(II)I"⟩
abbrev cX2_placeAt : ByteArray := prog_4_method_3_code
def yX2_placeAt : MethodName := ⟨RX2, "placeAt", "(I)LNameSpaces$Place;"⟩
abbrev cX2_addPlace : ByteArray := prog_4_method_4_code
def yX2_addPlace : MethodName := ⟨RX2, "addPlace", "(II)LNameSpaces$Handles;"⟩
abbrev cX2_dropPlace : ByteArray := prog_4_method_5_code
def yX2_dropPlace : MethodName := ⟨RX2, "dropPlace", "(I)V"⟩
abbrev cX2_members : ByteArray := prog_4_method_6_code
def yX2_members : MethodName := ⟨RX2, "members", "()I"⟩
def RX3 : String := "NameSpaces$OpenFile"
def TX3 : u_T := fun k => match k with
  | 0 => ("NameSpaces$OpenFile", "handles", "LNameSpaces$Handles;", true)
  | 1 => ("NameSpaces$OpenFile", "inUse", "Z", false)
  | 2 => ("NameSpaces$OpenFile", "everHad", "I", false)
  | 3 => ("NameSpaces$OpenFile", "mode", "I", false)
  | 4 => ("NameSpaces$OpenFile", "at", "I", false)
  | _ => ("NameSpaces$OpenFile", "place", "I", false)
def tyX3 : Nat → FieldType := fun k => match k with
  | 0 => .object "NameSpaces$Handles"
  | 1 => .boolean
  | 2 => .int
  | 3 => .int
  | 4 => .int
  | _ => .int
abbrev wsX30 : List Cond := u_ws RX3 TX3 6
theorem nmX3 : ∀ a, a < 6 → ∀ b, b < 6 → a ≠ b → (TX3 a).2.1 ≠ (TX3 b).2.1 := by decide +kernel
theorem tyX3_ok : ∀ k, k < 6 → parseFieldDescriptor (TX3 k).2.2.1 = some (tyX3 k) := by decide +kernel
abbrev cX3_init : ByteArray := prog_5_method_1_code
def yX3_init : MethodName := ⟨RX3, "<init>", "()V"⟩
abbrev cX3_begin : ByteArray := prog_5_method_2_code
def yX3_begin : MethodName := ⟨RX3, "begin", "(I)V"⟩
abbrev cX3_serverNow : ByteArray := prog_5_method_3_code
def yX3_serverNow : MethodName := ⟨RX3, "serverNow", "()I"⟩
abbrev cX3_handleNow : ByteArray := prog_5_method_4_code
def yX3_handleNow : MethodName := ⟨RX3, "handleNow", "()I"⟩
abbrev cX3_goOn : ByteArray := prog_5_method_5_code
def yX3_goOn : MethodName := ⟨RX3, "goOn", "()Z"⟩
def RX4 : String := "NameSpaces$Path"
def TX4 : u_T := fun k => match k with
  | 0 => ("NameSpaces$Path", "names", "[C", true)
  | 1 => ("NameSpaces$Path", "count", "I", false)
  | _ => ("NameSpaces$Path", "proper", "Z", false)
def tyX4 : Nat → FieldType := fun k => match k with
  | 0 => .array .char
  | 1 => .int
  | _ => .boolean
abbrev wsX40 : List Cond := u_ws RX4 TX4 3
theorem nmX4 : ∀ a, a < 3 → ∀ b, b < 3 → a ≠ b → (TX4 a).2.1 ≠ (TX4 b).2.1 := by decide +kernel
theorem tyX4_ok : ∀ k, k < 3 → parseFieldDescriptor (TX4 k).2.2.1 = some (tyX4 k) := by decide +kernel
abbrev cX4_init : ByteArray := prog_6_method_1_code
def yX4_init : MethodName := ⟨RX4, "<init>", "()V"⟩
abbrev cX4_readFrom : ByteArray := prog_6_method_2_code
def yX4_readFrom : MethodName := ⟨RX4, "readFrom", "(LNameSpaces$Text;)V"⟩
abbrev cX4_push : ByteArray := prog_6_method_3_code
def yX4_push : MethodName := ⟨RX4, "push", "(C)V"⟩
abbrev cX4_name : ByteArray := prog_6_method_4_code
def yX4_name : MethodName := ⟨RX4, "name", "(I)C"⟩
def RX5 : String := "NameSpaces$Place"
def TX5 : u_T := fun k => match k with
  | 0 => ("NameSpaces$Place", "members", "LNameSpaces$Handles;", true)
  | 1 => ("NameSpaces$Place", "server", "I", false)
  | _ => ("NameSpaces$Place", "serial", "I", false)
def tyX5 : Nat → FieldType := fun k => match k with
  | 0 => .object "NameSpaces$Handles"
  | 1 => .int
  | _ => .int
abbrev wsX50 : List Cond := u_ws RX5 TX5 3
theorem nmX5 : ∀ a, a < 3 → ∀ b, b < 3 → a ≠ b → (TX5 a).2.1 ≠ (TX5 b).2.1 := by decide +kernel
theorem tyX5_ok : ∀ k, k < 3 → parseFieldDescriptor (TX5 k).2.2.1 = some (tyX5 k) := by decide +kernel
abbrev cX5_init : ByteArray := prog_7_method_1_code
def yX5_init : MethodName := ⟨RX5, "<init>", "()V"⟩
def RX6 : String := "NameSpaces$Proc"
def TX6 : u_T := fun k => match k with
  | 0 => ("NameSpaces$Proc", "files", "[LNameSpaces$OpenFile;", true)
  | _ => ("NameSpaces$Proc", "space", "LNameSpaces$NameSpace;", false)
def tyX6 : Nat → FieldType := fun k => match k with
  | 0 => .array (.object "NameSpaces$OpenFile")
  | _ => .object "NameSpaces$NameSpace"
abbrev wsX60 : List Cond := u_ws RX6 TX6 2
theorem nmX6 : ∀ a, a < 2 → ∀ b, b < 2 → a ≠ b → (TX6 a).2.1 ≠ (TX6 b).2.1 := by decide +kernel
theorem tyX6_ok : ∀ k, k < 2 → parseFieldDescriptor (TX6 k).2.2.1 = some (tyX6 k) := by decide +kernel
abbrev cX6_init : ByteArray := prog_8_method_1_code
def yX6_init : MethodName := ⟨RX6, "<init>", "()V"⟩
abbrev cX6_begin : ByteArray := prog_8_method_2_code
def yX6_begin : MethodName := ⟨RX6, "begin", "(LNameSpaces$NameSpace;)V"⟩
abbrev cX6_end : ByteArray := prog_8_method_3_code
def yX6_end : MethodName := ⟨RX6, "end", "()V"⟩
abbrev cX6_leastFree : ByteArray := prog_8_method_4_code
def yX6_leastFree : MethodName := ⟨RX6, "leastFree", "()I"⟩
abbrev cX6_openFiles : ByteArray := prog_8_method_5_code
def yX6_openFiles : MethodName := ⟨RX6, "openFiles", "()I"⟩
def RX7 : String := "NameSpaces$Server"
def TX7 : u_T := fun k => match k with
  | 0 => ("NameSpaces$Server", "asked", "LNameSpaces$Message;", true)
  | 1 => ("NameSpaces$Server", "replied", "LNameSpaces$Message;", true)
  | 2 => ("NameSpaces$Server", "files", "[LNameSpaces$TreeFile;", true)
  | 3 => ("NameSpaces$Server", "handles", "[LNameSpaces$TreeFile;", true)
  | 4 => ("NameSpaces$Server", "fileCount", "I", false)
  | _ => ("NameSpaces$Server", "nextSerial", "I", false)
def tyX7 : Nat → FieldType := fun k => match k with
  | 0 => .object "NameSpaces$Message"
  | 1 => .object "NameSpaces$Message"
  | 2 => .array (.object "NameSpaces$TreeFile")
  | 3 => .array (.object "NameSpaces$TreeFile")
  | 4 => .int
  | _ => .int
abbrev wsX70 : List Cond := u_ws RX7 TX7 6
theorem nmX7 : ∀ a, a < 6 → ∀ b, b < 6 → a ≠ b → (TX7 a).2.1 ≠ (TX7 b).2.1 := by decide +kernel
theorem tyX7_ok : ∀ k, k < 6 → parseFieldDescriptor (TX7 k).2.2.1 = some (tyX7 k) := by decide +kernel
abbrev cX7_init : ByteArray := prog_9_method_1_code
def yX7_init : MethodName := ⟨RX7, "<init>", "()V"⟩
abbrev cX7_newHandle : ByteArray := prog_9_method_2_code
def yX7_newHandle : MethodName := ⟨RX7, "newHandle", "()I"⟩
abbrev cX7_handlesInUse : ByteArray := prog_9_method_3_code
def yX7_handlesInUse : MethodName := ⟨RX7, "handlesInUse", "()I"⟩
abbrev cX7_attach : ByteArray := prog_9_method_4_code
def yX7_attach : MethodName := ⟨RX7, "attach", "(I)V"⟩
abbrev cX7_walkSame : ByteArray := prog_9_method_5_code
def yX7_walkSame : MethodName := ⟨RX7, "walkSame", "(I)I"⟩
abbrev cX7_walkName : ByteArray := prog_9_method_6_code
def yX7_walkName : MethodName := ⟨RX7, "walkName", "(IIC)C"⟩
abbrev cX7_openFile : ByteArray := prog_9_method_7_code
def yX7_openFile : MethodName := ⟨RX7, "openFile", "(II)C"⟩
abbrev cX7_makeFile : ByteArray := prog_9_method_8_code
def yX7_makeFile : MethodName := ⟨RX7, "makeFile", "(ICZ)C"⟩
abbrev cX7_tellByte : ByteArray := prog_9_method_9_code
def yX7_tellByte : MethodName := ⟨RX7, "tellByte", "(II)C"⟩
abbrev cX7_putByte : ByteArray := prog_9_method_10_code
def yX7_putByte : MethodName := ⟨RX7, "putByte", "(III)C"⟩
abbrev cX7_clunk : ByteArray := prog_9_method_11_code
def yX7_clunk : MethodName := ⟨RX7, "clunk", "(I)V"⟩
abbrev cX7_dropFile : ByteArray := prog_9_method_12_code
def yX7_dropFile : MethodName := ⟨RX7, "dropFile", "(I)C"⟩
abbrev cX7_tellFile : ByteArray := prog_9_method_13_code
def yX7_tellFile : MethodName := ⟨RX7, "tellFile", "(I)C"⟩
abbrev cX7_ask : ByteArray := prog_9_method_14_code
def yX7_ask : MethodName := ⟨RX7, "ask", "(II)V"⟩
abbrev cX7_agree : ByteArray := prog_9_method_15_code
def yX7_agree : MethodName := ⟨RX7, "agree", "(I)C"⟩
abbrev cX7_describe : ByteArray := prog_9_method_16_code
def yX7_describe : MethodName := ⟨RX7, "describe", "(ILNameSpaces$TreeFile;)C"⟩
abbrev cX7_refuse : ByteArray := prog_9_method_17_code
def yX7_refuse : MethodName := ⟨RX7, "refuse", "(C)C"⟩
abbrev cX7_fileOf : ByteArray := prog_9_method_18_code
def yX7_fileOf : MethodName := ⟨RX7, "fileOf", "(I)LNameSpaces$TreeFile;"⟩
abbrev cX7_stand : ByteArray := prog_9_method_19_code
def yX7_stand : MethodName := ⟨RX7, "stand", "(ILNameSpaces$TreeFile;)V"⟩
abbrev cX7_fileIn : ByteArray := prog_9_method_20_code
def yX7_fileIn : MethodName := ⟨RX7, "fileIn", "(LNameSpaces$TreeFile;C)LNameSpaces$TreeFile;"⟩
abbrev cX7_letterIn : ByteArray := prog_9_method_21_code
def yX7_letterIn : MethodName := ⟨RX7, "letterIn", "(LNameSpaces$TreeFile;I)I"⟩
abbrev cX7_forget : ByteArray := prog_9_method_22_code
def yX7_forget : MethodName := ⟨RX7, "forget", "(I)V"⟩
def RX8 : String := "NameSpaces$Text"
def TX8 : u_T := fun k => match k with
  | 0 => ("NameSpaces$Text", "typed", "[C", true)
  | _ => ("NameSpaces$Text", "length", "I", false)
def tyX8 : Nat → FieldType := fun k => match k with
  | 0 => .array .char
  | _ => .int
abbrev wsX80 : List Cond := u_ws RX8 TX8 2
theorem nmX8 : ∀ a, a < 2 → ∀ b, b < 2 → a ≠ b → (TX8 a).2.1 ≠ (TX8 b).2.1 := by decide +kernel
theorem tyX8_ok : ∀ k, k < 2 → parseFieldDescriptor (TX8 k).2.2.1 = some (tyX8 k) := by decide +kernel
abbrev cX8_init : ByteArray := prog_10_method_1_code
def yX8_init : MethodName := ⟨RX8, "<init>", "()V"⟩
abbrev cX8_append : ByteArray := prog_10_method_2_code
def yX8_append : MethodName := ⟨RX8, "append", "(C)Z"⟩
abbrev cX8_character : ByteArray := prog_10_method_3_code
def yX8_character : MethodName := ⟨RX8, "character", "(I)C"⟩
abbrev cX8_copyFrom : ByteArray := prog_10_method_4_code
def yX8_copyFrom : MethodName := ⟨RX8, "copyFrom", "(LNameSpaces$Text;)V"⟩
def RX9 : String := "NameSpaces$TreeFile"
def TX9 : u_T := fun k => match k with
  | 0 => ("NameSpaces$TreeFile", "serial", "I", true)
  | 1 => ("NameSpaces$TreeFile", "parent", "I", true)
  | 2 => ("NameSpaces$TreeFile", "name", "C", true)
  | 3 => ("NameSpaces$TreeFile", "directory", "Z", true)
  | 4 => ("NameSpaces$TreeFile", "bytes", "[I", true)
  | 5 => ("NameSpaces$TreeFile", "size", "I", false)
  | 6 => ("NameSpaces$TreeFile", "version", "I", false)
  | _ => ("NameSpaces$TreeFile", "gone", "Z", false)
def tyX9 : Nat → FieldType := fun k => match k with
  | 0 => .int
  | 1 => .int
  | 2 => .char
  | 3 => .boolean
  | 4 => .array .int
  | 5 => .int
  | 6 => .int
  | _ => .boolean
abbrev wsX90 : List Cond := u_ws RX9 TX9 8
theorem nmX9 : ∀ a, a < 8 → ∀ b, b < 8 → a ≠ b → (TX9 a).2.1 ≠ (TX9 b).2.1 := by decide +kernel
theorem tyX9_ok : ∀ k, k < 8 → parseFieldDescriptor (TX9 k).2.2.1 = some (tyX9 k) := by decide +kernel
abbrev cX9_init : ByteArray := prog_11_method_1_code
def yX9_init : MethodName := ⟨RX9, "<init>", "(IICZ)V"⟩
abbrev cX9_byteAtPlace : ByteArray := prog_11_method_2_code
def yX9_byteAtPlace : MethodName := ⟨RX9, "byteAtPlace", "(I)I"⟩
def RX10 : String := "NameSpaces"
def TX10 : u_T := fun k => match k with
  | 0 => ("NameSpaces", "servers", "[LNameSpaces$Server;", true)
  | 1 => ("NameSpaces", "spaces", "[LNameSpaces$NameSpace;", true)
  | 2 => ("NameSpaces", "procs", "[LNameSpaces$Proc;", true)
  | 3 => ("NameSpaces", "text", "LNameSpaces$Text;", true)
  | 4 => ("NameSpaces", "kept", "LNameSpaces$Text;", true)
  | 5 => ("NameSpaces", "textPath", "LNameSpaces$Path;", true)
  | 6 => ("NameSpaces", "keptPath", "LNameSpaces$Path;", true)
  | 7 => ("NameSpaces", "here", "LNameSpaces$Handles;", true)
  | 8 => ("NameSpaces", "latest", "I", false)
  | 9 => ("NameSpaces", "atServer", "I", false)
  | 10 => ("NameSpaces", "atHandle", "I", false)
  | 11 => ("NameSpaces", "atSerial", "I", false)
  | _ => ("NameSpaces", "atDirectory", "Z", false)
def tyX10 : Nat → FieldType := fun k => match k with
  | 0 => .array (.object "NameSpaces$Server")
  | 1 => .array (.object "NameSpaces$NameSpace")
  | 2 => .array (.object "NameSpaces$Proc")
  | 3 => .object "NameSpaces$Text"
  | 4 => .object "NameSpaces$Text"
  | 5 => .object "NameSpaces$Path"
  | 6 => .object "NameSpaces$Path"
  | 7 => .object "NameSpaces$Handles"
  | 8 => .int
  | 9 => .int
  | 10 => .int
  | 11 => .int
  | _ => .boolean
abbrev wsX100 : List Cond := u_ws RX10 TX10 13
theorem nmX10 : ∀ a, a < 13 → ∀ b, b < 13 → a ≠ b → (TX10 a).2.1 ≠ (TX10 b).2.1 := by decide +kernel
theorem tyX10_ok : ∀ k, k < 13 → parseFieldDescriptor (TX10 k).2.2.1 = some (tyX10 k) := by decide +kernel
abbrev cX10_init : ByteArray := prog_1_method_1_code
def yX10_init : MethodName := ⟨RX10, "<init>", "()V"⟩
abbrev cX10_type : ByteArray := prog_1_method_2_code
def yX10_type : MethodName := ⟨RX10, "type", "(C)I"⟩
abbrev cX10_keep : ByteArray := prog_1_method_3_code
def yX10_keep : MethodName := ⟨RX10, "keep", "()I"⟩
abbrev cX10_open : ByteArray := prog_1_method_4_code
def yX10_open : MethodName := ⟨RX10, "open", "(II)I"⟩
abbrev cX10_create : ByteArray := prog_1_method_5_code
def yX10_create : MethodName := ⟨RX10, "create", "(IZ)I"⟩
abbrev cX10_read : ByteArray := prog_1_method_6_code
def yX10_read : MethodName := ⟨RX10, "read", "(II)I"⟩
abbrev cX10_write : ByteArray := prog_1_method_7_code
def yX10_write : MethodName := ⟨RX10, "write", "(III)I"⟩
abbrev cX10_close : ByteArray := prog_1_method_8_code
def yX10_close : MethodName := ⟨RX10, "close", "(II)I"⟩
abbrev cX10_remove : ByteArray := prog_1_method_9_code
def yX10_remove : MethodName := ⟨RX10, "remove", "(I)I"⟩
abbrev cX10_stat : ByteArray := prog_1_method_10_code
def yX10_stat : MethodName := ⟨RX10, "stat", "(I)I"⟩
abbrev cX10_bind : ByteArray := prog_1_method_11_code
def yX10_bind : MethodName := ⟨RX10, "bind", "(II)I"⟩
abbrev cX10_mount : ByteArray := prog_1_method_12_code
def yX10_mount : MethodName := ⟨RX10, "mount", "(III)I"⟩
abbrev cX10_unmount : ByteArray := prog_1_method_13_code
def yX10_unmount : MethodName := ⟨RX10, "unmount", "(I)I"⟩
abbrev cX10_fork : ByteArray := prog_1_method_14_code
def yX10_fork : MethodName := ⟨RX10, "fork", "(IZ)I"⟩
abbrev cX10_exit : ByteArray := prog_1_method_15_code
def yX10_exit : MethodName := ⟨RX10, "exit", "(I)I"⟩
abbrev cX10_wire : ByteArray := prog_1_method_16_code
def yX10_wire : MethodName := ⟨RX10, "wire", "(II)I"⟩
abbrev cX10_server : ByteArray := prog_1_method_17_code
def yX10_server : MethodName := ⟨RX10, "server", "(II)I"⟩
abbrev cX10_process : ByteArray := prog_1_method_18_code
def yX10_process : MethodName := ⟨RX10, "process", "(II)I"⟩
abbrev cX10_isServer : ByteArray := prog_1_method_19_code
def yX10_isServer : MethodName := ⟨RX10, "isServer", "(I)Z"⟩
abbrev cX10_isHow : ByteArray := prog_1_method_20_code
def yX10_isHow : MethodName := ⟨RX10, "isHow", "(I)Z"⟩
abbrev cX10_isBeginning : ByteArray := prog_1_method_21_code
def yX10_isBeginning : MethodName := ⟨RX10, "isBeginning", "(II)Z"⟩
abbrev cX10_to : ByteArray := prog_1_method_22_code
def yX10_to : MethodName := ⟨RX10, "to", "(I)LNameSpaces$Server;"⟩
abbrev cX10_processOf : ByteArray := prog_1_method_23_code
def yX10_processOf : MethodName := ⟨RX10, "processOf", "(I)LNameSpaces$Proc;"⟩
abbrev cX10_openedFile : ByteArray := prog_1_method_24_code
def yX10_openedFile : MethodName := ⟨RX10, "openedFile", "(II)LNameSpaces$OpenFile;"⟩
abbrev cX10_rowFor : ByteArray := prog_1_method_25_code
def yX10_rowFor : MethodName := ⟨RX10, "rowFor", "(LNameSpaces$Proc;I)LNameSpaces$OpenFile;"⟩
abbrev cX10_takePaths : ByteArray := prog_1_method_26_code
def yX10_takePaths : MethodName := ⟨RX10, "takePaths", "(I)LNameSpaces$Proc;"⟩
abbrev cX10_refuseWalk : ByteArray := prog_1_method_27_code
def yX10_refuseWalk : MethodName := ⟨RX10, "refuseWalk", "(C)V"⟩
abbrev cX10_refuseOpening : ByteArray := prog_1_method_28_code
def yX10_refuseOpening : MethodName := ⟨RX10, "refuseOpening", "(C)V"⟩
abbrev cX10_refuseMaking : ByteArray := prog_1_method_29_code
def yX10_refuseMaking : MethodName := ⟨RX10, "refuseMaking", "(C)V"⟩
abbrev cX10_walkOrRefuse : ByteArray := prog_1_method_30_code
def yX10_walkOrRefuse : MethodName := ⟨RX10, "walkOrRefuse", "(LNameSpaces$NameSpace;LNameSpaces$Path;I)V"⟩
abbrev cX10_walkNames : ByteArray := prog_1_method_31_code
def yX10_walkNames : MethodName := ⟨RX10, "walkNames", "(LNameSpaces$NameSpace;LNameSpaces$Path;I)C"⟩
abbrev cX10_standing : ByteArray := prog_1_method_32_code
def yX10_standing : MethodName := ⟨RX10, "standing", "(LNameSpaces$NameSpace;)LNameSpaces$Handles;"⟩
abbrev cX10_walkFirst : ByteArray := prog_1_method_33_code
def yX10_walkFirst : MethodName := ⟨RX10, "walkFirst", "(LNameSpaces$Handles;C)C"⟩
abbrev cX10_letGo : ByteArray := prog_1_method_34_code
def yX10_letGo : MethodName := ⟨RX10, "letGo", "(II)V"⟩
abbrev cX10_clunkAll : ByteArray := prog_1_method_35_code
def yX10_clunkAll : MethodName := ⟨RX10, "clunkAll", "(LNameSpaces$Handles;)V"⟩
abbrev cX10_ownHandle : ByteArray := prog_1_method_36_code
def yX10_ownHandle : MethodName := ⟨RX10, "ownHandle", "()I"⟩
abbrev cX10_takeHandles : ByteArray := prog_1_method_37_code
def yX10_takeHandles : MethodName := ⟨RX10, "takeHandles", "(LNameSpaces$NameSpace;LNameSpaces$OpenFile;)V"⟩
abbrev cX10_copyHandles : ByteArray := prog_1_method_38_code
def yX10_copyHandles : MethodName := ⟨RX10, "copyHandles", "(LNameSpaces$Handles;LNameSpaces$Handles;)V"⟩
abbrev cX10_openHandles : ByteArray := prog_1_method_39_code
def yX10_openHandles : MethodName := ⟨RX10, "openHandles", "(LNameSpaces$Handles;I)C"⟩
abbrev cX10_makeFile : ByteArray := prog_1_method_40_code
def yX10_makeFile : MethodName := ⟨RX10, "makeFile", "(LNameSpaces$NameSpace;LNameSpaces$OpenFile;Z)V"⟩
abbrev cX10_closeFile : ByteArray := prog_1_method_41_code
def yX10_closeFile : MethodName := ⟨RX10, "closeFile", "(LNameSpaces$OpenFile;)V"⟩
abbrev cX10_join : ByteArray := prog_1_method_42_code
def yX10_join : MethodName := ⟨RX10, "join", "(LNameSpaces$NameSpace;III)I"⟩
abbrev cX10_refuseJoining : ByteArray := prog_1_method_43_code
def yX10_refuseJoining : MethodName := ⟨RX10, "refuseJoining", "(Z)V"⟩
abbrev cX10_newMembers : ByteArray := prog_1_method_44_code
def yX10_newMembers : MethodName := ⟨RX10, "newMembers", "(LNameSpaces$NameSpace;Z)LNameSpaces$Handles;"⟩
abbrev cX10_oldMembers : ByteArray := prog_1_method_45_code
def yX10_oldMembers : MethodName := ⟨RX10, "oldMembers", "(LNameSpaces$Place;Z)LNameSpaces$Handles;"⟩
abbrev cX10_leastAbsent : ByteArray := prog_1_method_46_code
def yX10_leastAbsent : MethodName := ⟨RX10, "leastAbsent", "()I"⟩
abbrev cX10_processes : ByteArray := prog_1_method_47_code
def yX10_processes : MethodName := ⟨RX10, "processes", "()I"⟩
abbrev cX10_unusedSpace : ByteArray := prog_1_method_48_code
def yX10_unusedSpace : MethodName := ⟨RX10, "unusedSpace", "()LNameSpaces$NameSpace;"⟩
abbrev cX10_copySpace : ByteArray := prog_1_method_49_code
def yX10_copySpace : MethodName := ⟨RX10, "copySpace", "(LNameSpaces$NameSpace;LNameSpaces$NameSpace;)V"⟩
abbrev cX10_emptySpace : ByteArray := prog_1_method_50_code
def yX10_emptySpace : MethodName := ⟨RX10, "emptySpace", "(LNameSpaces$NameSpace;)V"⟩
def RX11 : String := "NameSpacesModel"
def TX11 : u_T := fun k => match k with
  | 0 => ("NameSpacesModel", "typed", "I", false)
  | 1 => ("NameSpacesModel", "text", "[C", true)
  | 2 => ("NameSpacesModel", "keptSize", "I", false)
  | 3 => ("NameSpacesModel", "kept", "[C", true)
  | 4 => ("NameSpacesModel", "names", "I", false)
  | 5 => ("NameSpacesModel", "name", "[I", true)
  | 6 => ("NameSpacesModel", "nextSerial", "[I", true)
  | 7 => ("NameSpacesModel", "there", "[Z", true)
  | 8 => ("NameSpacesModel", "directory", "[Z", true)
  | 9 => ("NameSpacesModel", "letter", "[I", true)
  | 10 => ("NameSpacesModel", "parent", "[I", true)
  | 11 => ("NameSpacesModel", "size", "[I", true)
  | 12 => ("NameSpacesModel", "version", "[I", true)
  | 13 => ("NameSpacesModel", "content", "[I", true)
  | 14 => ("NameSpacesModel", "stands", "[I", true)
  | 15 => ("NameSpacesModel", "messages", "[I", true)
  | 16 => ("NameSpacesModel", "asked", "[I", true)
  | 17 => ("NameSpacesModel", "askedSize", "I", false)
  | 18 => ("NameSpacesModel", "reply", "[I", true)
  | 19 => ("NameSpacesModel", "replySize", "I", false)
  | 20 => ("NameSpacesModel", "error", "I", false)
  | 21 => ("NameSpacesModel", "got", "I", false)
  | 22 => ("NameSpacesModel", "places", "[I", true)
  | 23 => ("NameSpacesModel", "placeServer", "[I", true)
  | 24 => ("NameSpacesModel", "placeSerial", "[I", true)
  | 25 => ("NameSpacesModel", "members", "[I", true)
  | 26 => ("NameSpacesModel", "memberServer", "[I", true)
  | 27 => ("NameSpacesModel", "memberHandle", "[I", true)
  | 28 => ("NameSpacesModel", "memberMakes", "[Z", true)
  | 29 => ("NameSpacesModel", "runs", "[Z", true)
  | 30 => ("NameSpacesModel", "space", "[I", true)
  | 31 => ("NameSpacesModel", "handles", "[I", true)
  | 32 => ("NameSpacesModel", "single", "[Z", true)
  | 33 => ("NameSpacesModel", "openServer", "[I", true)
  | 34 => ("NameSpacesModel", "openHandle", "[I", true)
  | 35 => ("NameSpacesModel", "mode", "[I", true)
  | 36 => ("NameSpacesModel", "at", "[I", true)
  | 37 => ("NameSpacesModel", "place", "[I", true)
  | 38 => ("NameSpacesModel", "server", "I", false)
  | 39 => ("NameSpacesModel", "handle", "I", false)
  | 40 => ("NameSpacesModel", "newHandle", "I", false)
  | _ => ("NameSpacesModel", "thrown", "I", false)
def tyX11 : Nat → FieldType := fun k => match k with
  | 0 => .int
  | 1 => .array .char
  | 2 => .int
  | 3 => .array .char
  | 4 => .int
  | 5 => .array .int
  | 6 => .array .int
  | 7 => .array .boolean
  | 8 => .array .boolean
  | 9 => .array .int
  | 10 => .array .int
  | 11 => .array .int
  | 12 => .array .int
  | 13 => .array .int
  | 14 => .array .int
  | 15 => .array .int
  | 16 => .array .int
  | 17 => .int
  | 18 => .array .int
  | 19 => .int
  | 20 => .int
  | 21 => .int
  | 22 => .array .int
  | 23 => .array .int
  | 24 => .array .int
  | 25 => .array .int
  | 26 => .array .int
  | 27 => .array .int
  | 28 => .array .boolean
  | 29 => .array .boolean
  | 30 => .array .int
  | 31 => .array .int
  | 32 => .array .boolean
  | 33 => .array .int
  | 34 => .array .int
  | 35 => .array .int
  | 36 => .array .int
  | 37 => .array .int
  | 38 => .int
  | 39 => .int
  | 40 => .int
  | _ => .int
abbrev wsX110 : List Cond := u_ws RX11 TX11 42
theorem nmX11 : ∀ a, a < 42 → ∀ b, b < 42 → a ≠ b → (TX11 a).2.1 ≠ (TX11 b).2.1 := by decide +kernel
theorem tyX11_ok : ∀ k, k < 42 → parseFieldDescriptor (TX11 k).2.2.1 = some (tyX11 k) := by decide +kernel
abbrev cX11_init : ByteArray := prog_13_method_1_code
def yX11_init : MethodName := ⟨RX11, "<init>", "()V"⟩
abbrev cX11_thrown : ByteArray := prog_13_method_2_code
def yX11_thrown : MethodName := ⟨RX11, "thrown", "()I"⟩
abbrev cX11_outside : ByteArray := prog_13_method_3_code
def yX11_outside : MethodName := ⟨RX11, "outside", "(III)Z"⟩
abbrev cX11_number : ByteArray := prog_13_method_4_code
def yX11_number : MethodName := ⟨RX11, "number", "(II)V"⟩
abbrev cX11_back : ByteArray := prog_13_method_5_code
def yX11_back : MethodName := ⟨RX11, "back", "(II)V"⟩
abbrev cX11_ask : ByteArray := prog_13_method_6_code
def yX11_ask : MethodName := ⟨RX11, "ask", "(III)V"⟩
abbrev cX11_wrong : ByteArray := prog_13_method_7_code
def yX11_wrong : MethodName := ⟨RX11, "wrong", "(I)V"⟩
abbrev cX11_tell : ByteArray := prog_13_method_8_code
def yX11_tell : MethodName := ⟨RX11, "tell", "(I)V"⟩
abbrev cX11_sent : ByteArray := prog_13_method_9_code
def yX11_sent : MethodName := ⟨RX11, "sent", "()V"⟩
abbrev cX11_fileOf : ByteArray := prog_13_method_10_code
def yX11_fileOf : MethodName := ⟨RX11, "fileOf", "(II)I"⟩
abbrev cX11_fresh : ByteArray := prog_13_method_11_code
def yX11_fresh : MethodName := ⟨RX11, "fresh", "(I)I"⟩
abbrev cX11_attach : ByteArray := prog_13_method_12_code
def yX11_attach : MethodName := ⟨RX11, "attach", "(II)V"⟩
abbrev cX11_inside : ByteArray := prog_13_method_13_code
def yX11_inside : MethodName := ⟨RX11, "inside", "(III)I"⟩
abbrev cX11_walkOne : ByteArray := prog_13_method_14_code
def yX11_walkOne : MethodName := ⟨RX11, "walkOne", "(III)V"⟩
abbrev cX11_openOne : ByteArray := prog_13_method_15_code
def yX11_openOne : MethodName := ⟨RX11, "openOne", "(III)V"⟩
abbrev cX11_files : ByteArray := prog_13_method_16_code
def yX11_files : MethodName := ⟨RX11, "files", "(I)I"⟩
abbrev cX11_createOne : ByteArray := prog_13_method_17_code
def yX11_createOne : MethodName := ⟨RX11, "createOne", "(IIIZ)V"⟩
abbrev cX11_listed : ByteArray := prog_13_method_18_code
def yX11_listed : MethodName := ⟨RX11, "listed", "(III)I"⟩
abbrev cX11_readOne : ByteArray := prog_13_method_19_code
def yX11_readOne : MethodName := ⟨RX11, "readOne", "(III)V"⟩
abbrev cX11_writeOne : ByteArray := prog_13_method_20_code
def yX11_writeOne : MethodName := ⟨RX11, "writeOne", "(IIII)V"⟩
abbrev cX11_clunk : ByteArray := prog_13_method_21_code
def yX11_clunk : MethodName := ⟨RX11, "clunk", "(II)V"⟩
abbrev cX11_removeOne : ByteArray := prog_13_method_22_code
def yX11_removeOne : MethodName := ⟨RX11, "removeOne", "(II)V"⟩
abbrev cX11_statOne : ByteArray := prog_13_method_23_code
def yX11_statOne : MethodName := ⟨RX11, "statOne", "(II)V"⟩
abbrev cX11_type : ByteArray := prog_13_method_24_code
def yX11_type : MethodName := ⟨RX11, "type", "(C)I"⟩
abbrev cX11_keep : ByteArray := prog_13_method_25_code
def yX11_keep : MethodName := ⟨RX11, "keep", "()I"⟩
abbrev cX11_charAt : ByteArray := prog_13_method_26_code
def yX11_charAt : MethodName := ⟨RX11, "charAt", "(ZI)I"⟩
abbrev cX11_parsed : ByteArray := prog_13_method_27_code
def yX11_parsed : MethodName := ⟨RX11, "parsed", "(Z)Z"⟩
abbrev cX11_forget : ByteArray := prog_13_method_28_code
def yX11_forget : MethodName := ⟨RX11, "forget", "()V"⟩
abbrev cX11_placeOf : ByteArray := prog_13_method_29_code
def yX11_placeOf : MethodName := ⟨RX11, "placeOf", "(III)I"⟩
abbrev cX11_walk : ByteArray := prog_13_method_30_code
def yX11_walk : MethodName := ⟨RX11, "walk", "(II)I"⟩
abbrev cX11_isDirectory : ByteArray := prog_13_method_31_code
def yX11_isDirectory : MethodName := ⟨RX11, "isDirectory", "()Z"⟩
abbrev cX11_own : ByteArray := prog_13_method_32_code
def yX11_own : MethodName := ⟨RX11, "own", "()V"⟩
abbrev cX11_isProcess : ByteArray := prog_13_method_33_code
def yX11_isProcess : MethodName := ⟨RX11, "isProcess", "(I)Z"⟩
abbrev cX11_isOpen : ByteArray := prog_13_method_34_code
def yX11_isOpen : MethodName := ⟨RX11, "isOpen", "(II)Z"⟩
abbrev cX11_opened : ByteArray := prog_13_method_35_code
def yX11_opened : MethodName := ⟨RX11, "opened", "(I)I"⟩
abbrev cX11_freeFile : ByteArray := prog_13_method_36_code
def yX11_freeFile : MethodName := ⟨RX11, "freeFile", "(I)I"⟩
abbrev cX11_addOpen : ByteArray := prog_13_method_37_code
def yX11_addOpen : MethodName := ⟨RX11, "addOpen", "(III)V"⟩
abbrev cX11_code : ByteArray := prog_13_method_38_code
def yX11_code : MethodName := ⟨RX11, "code", "(IIII)I"⟩
abbrev cX11_opening : ByteArray := prog_13_method_39_code
def yX11_opening : MethodName := ⟨RX11, "opening", "(III)I"⟩
abbrev cX11_open : ByteArray := prog_13_method_40_code
def yX11_open : MethodName := ⟨RX11, "open", "(II)I"⟩
abbrev cX11_creating : ByteArray := prog_13_method_41_code
def yX11_creating : MethodName := ⟨RX11, "creating", "(IIZ)I"⟩
abbrev cX11_create : ByteArray := prog_13_method_42_code
def yX11_create : MethodName := ⟨RX11, "create", "(IZ)I"⟩
abbrev cX11_read : ByteArray := prog_13_method_43_code
def yX11_read : MethodName := ⟨RX11, "read", "(II)I"⟩
abbrev cX11_write : ByteArray := prog_13_method_44_code
def yX11_write : MethodName := ⟨RX11, "write", "(III)I"⟩
abbrev cX11_closing : ByteArray := prog_13_method_45_code
def yX11_closing : MethodName := ⟨RX11, "closing", "(I)V"⟩
abbrev cX11_close : ByteArray := prog_13_method_46_code
def yX11_close : MethodName := ⟨RX11, "close", "(II)I"⟩
abbrev cX11_remove : ByteArray := prog_13_method_47_code
def yX11_remove : MethodName := ⟨RX11, "remove", "(I)I"⟩
abbrev cX11_stat : ByteArray := prog_13_method_48_code
def yX11_stat : MethodName := ⟨RX11, "stat", "(I)I"⟩
abbrev cX11_isHow : ByteArray := prog_13_method_49_code
def yX11_isHow : MethodName := ⟨RX11, "isHow", "(I)Z"⟩
abbrev cX11_putMember : ByteArray := prog_13_method_50_code
def yX11_putMember : MethodName := ⟨RX11, "putMember", "(IIIIZ)V"⟩
abbrev cX11_clunkMembers : ByteArray := prog_13_method_51_code
def yX11_clunkMembers : MethodName := ⟨RX11, "clunkMembers", "(I)V"⟩
abbrev cX11_bound : ByteArray := prog_13_method_52_code
def yX11_bound : MethodName := ⟨RX11, "bound", "(IIII)I"⟩
abbrev cX11_bind : ByteArray := prog_13_method_53_code
def yX11_bind : MethodName := ⟨RX11, "bind", "(II)I"⟩
abbrev cX11_mount : ByteArray := prog_13_method_54_code
def yX11_mount : MethodName := ⟨RX11, "mount", "(III)I"⟩
abbrev cX11_dropPlace : ByteArray := prog_13_method_55_code
def yX11_dropPlace : MethodName := ⟨RX11, "dropPlace", "(II)V"⟩
abbrev cX11_unmount : ByteArray := prog_13_method_56_code
def yX11_unmount : MethodName := ⟨RX11, "unmount", "(I)I"⟩
abbrev cX11_users : ByteArray := prog_13_method_57_code
def yX11_users : MethodName := ⟨RX11, "users", "(I)I"⟩
abbrev cX11_processes : ByteArray := prog_13_method_58_code
def yX11_processes : MethodName := ⟨RX11, "processes", "()I"⟩
abbrev cX11_fork : ByteArray := prog_13_method_59_code
def yX11_fork : MethodName := ⟨RX11, "fork", "(IZ)I"⟩
abbrev cX11_exit : ByteArray := prog_13_method_60_code
def yX11_exit : MethodName := ⟨RX11, "exit", "(I)I"⟩
abbrev cX11_wire : ByteArray := prog_13_method_61_code
def yX11_wire : MethodName := ⟨RX11, "wire", "(II)I"⟩
abbrev cX11_server : ByteArray := prog_13_method_62_code
def yX11_server : MethodName := ⟨RX11, "server", "(II)I"⟩
abbrev cX11_process : ByteArray := prog_13_method_63_code
def yX11_process : MethodName := ⟨RX11, "process", "(II)I"⟩
def RJ9 : String := "java/lang/Math"
def TJ9 : u_T := fun k => match k with
  | _ => ("", "", "", false)
def tyJ9 : Nat → FieldType := fun k => match k with
  | _ => .int
abbrev wsJ90 : List Cond := u_ws RJ9 TJ9 0
theorem nmJ9 : ∀ a, a < 0 → ∀ b, b < 0 → a ≠ b → (TJ9 a).2.1 ≠ (TJ9 b).2.1 := by decide +kernel
theorem tyJ9_ok : ∀ k, k < 0 → parseFieldDescriptor (TJ9 k).2.2.1 = some (tyJ9 k) := by decide +kernel
abbrev cJ9_max_7cf53 : ByteArray := prog_17_method_65_code
def yJ9_max_7cf53 : MethodName := ⟨RJ9, "max", "(II)I"⟩
abbrev cJ9_min_7cf53 : ByteArray := prog_17_method_69_code
def yJ9_min_7cf53 : MethodName := ⟨RJ9, "min", "(II)I"⟩
def RJ0 : String := "java/lang/String"
def TJ0 : u_T := fun k => match k with
  | _ => ("", "", "", false)
def tyJ0 : Nat → FieldType := fun k => match k with
  | _ => .int
abbrev wsJ00 : List Cond := u_ws RJ0 TJ0 0
theorem nmJ0 : ∀ a, a < 0 → ∀ b, b < 0 → a ≠ b → (TJ0 a).2.1 ≠ (TJ0 b).2.1 := by decide +kernel
theorem tyJ0_ok : ∀ k, k < 0 → parseFieldDescriptor (TJ0 k).2.2.1 = some (tyJ0 k) := by decide +kernel
def RJ10 : String := "java/lang/System"
def TJ10 : u_T := fun k => match k with
  | _ => ("", "", "", false)
def tyJ10 : Nat → FieldType := fun k => match k with
  | _ => .int
abbrev wsJ100 : List Cond := u_ws RJ10 TJ10 0
theorem nmJ10 : ∀ a, a < 0 → ∀ b, b < 0 → a ≠ b → (TJ10 a).2.1 ≠ (TJ10 b).2.1 := by decide +kernel
theorem tyJ10_ok : ∀ k, k < 0 → parseFieldDescriptor (TJ10 k).2.2.1 = some (tyJ10 k) := by decide +kernel
def RL : String := "NameSpacesLaw"
abbrev cL_type : ByteArray := method_3_code
def yL_type : MethodName := ⟨RL, "type", "(LNameSpaces;C[J)I"⟩
abbrev cL_open : ByteArray := method_4_code
def yL_open : MethodName := ⟨RL, "open", "(LNameSpaces;II[J)I"⟩
abbrev cL_create : ByteArray := method_5_code
def yL_create : MethodName := ⟨RL, "create", "(LNameSpaces;IZ[J)I"⟩
abbrev cL_read : ByteArray := method_6_code
def yL_read : MethodName := ⟨RL, "read", "(LNameSpaces;II[J)I"⟩
abbrev cL_write : ByteArray := method_7_code
def yL_write : MethodName := ⟨RL, "write", "(LNameSpaces;III[J)I"⟩
abbrev cL_close : ByteArray := method_8_code
def yL_close : MethodName := ⟨RL, "close", "(LNameSpaces;II[J)I"⟩
abbrev cL_remove : ByteArray := method_9_code
def yL_remove : MethodName := ⟨RL, "remove", "(LNameSpaces;I[J)I"⟩
abbrev cL_stat : ByteArray := method_10_code
def yL_stat : MethodName := ⟨RL, "stat", "(LNameSpaces;I[J)I"⟩
abbrev cL_bind : ByteArray := method_11_code
def yL_bind : MethodName := ⟨RL, "bind", "(LNameSpaces;II[J)I"⟩
abbrev cL_mount : ByteArray := method_12_code
def yL_mount : MethodName := ⟨RL, "mount", "(LNameSpaces;III[J)I"⟩
abbrev cL_unmount : ByteArray := method_13_code
def yL_unmount : MethodName := ⟨RL, "unmount", "(LNameSpaces;I[J)I"⟩
abbrev cL_fork : ByteArray := method_14_code
def yL_fork : MethodName := ⟨RL, "fork", "(LNameSpaces;IZ[J)I"⟩
abbrev cL_exit : ByteArray := method_15_code
def yL_exit : MethodName := ⟨RL, "exit", "(LNameSpaces;I[J)I"⟩
abbrev cL_law : ByteArray := code
def yL_law : MethodName := ⟨RL, "law", "([I)Z"⟩
end
section
/-! THE ABSTRACT MACHINE: bytecode of methods without handlers, run over an abstract heap by a function. Values: an int, or a reference (none: null). A cell: its kind (below 100: the class of that number in vwCl; 100 + t: an array of the t-th type of ag_tys) and what it holds. A heap: its size, its slots, its cells by address. -/
abbrev vwCl : List vw_C := [(RX0, TX0, 4), (RX1, TX1, 3), (RX2, TX2, 3), (RX3, TX3, 6), (RX4, TX4, 3), (RX5, TX5, 3), (RX6, TX6, 2), (RX7, TX7, 6), (RX8, TX8, 2), (RX9, TX9, 8), (RX10, TX10, 13), (RX11, TX11, 42)]
abbrev ag_V : Type := Int32 ⊕ Option Nat
abbrev ag_C : Type := Nat × List ag_V
abbrev ag_H : Type := Nat × Nat × (Nat → Option ag_C)
abbrev ag_O : Type := Option ag_V ⊕ Nat
abbrev ag_R : Type := Option (ag_O × ag_H)
abbrev ag_L : Type := List (Option ag_V)
/-- an instruction of a method's table: its place, the instruction, the next place, three numbers (a link, a jump, a kind) -/
abbrev ag_I : Type := Nat × Instr × Nat × Nat × Nat × Nat
abbrev ag_K4 : Type := Nat → ag_L → List ag_V → ag_H → ag_R
def ag_v : ag_V → Value
  | .inl x => .int x
  | .inr none => .null
  | .inr (some a) => .ref a
def ag_up (f : Nat → Option ag_C) (a : Nat) (q : ag_C) : Nat → Option ag_C := fun b => if b = a then some q else f b
def ag_set (h : ag_H) (a : Nat) (q : ag_C) : ag_H := (h.1, h.2.1, ag_up h.2.2 a q)
def ag_new (h : ag_H) (n : Nat) (q : ag_C) : ag_H := (h.1 + 1, h.2.1 + n, ag_up h.2.2 h.1 q)
def ag_thr (h : ag_H) : ag_H := (h.1 + 1, h.2.1 + 6, h.2.2)
def ag_at (h : ag_H) (o : Option Nat) (k : Nat) (K : Nat → List ag_V → ag_R) : ag_R :=
  match o with
  | none => none
  | some a => match h.2.2 a with
    | none => none
    | some q => if q.1 = k then K a q.2 else none
def ag_gI (h : ag_H) (o : Option Nat) (ci k : Nat) (K : Int32 → ag_R) : ag_R := ag_at h o ci fun _ fs =>
  match fs[k]? with
  | some (.inl x) => K x
  | _ => none
def ag_gR (h : ag_H) (o : Option Nat) (ci k : Nat) (K : Option Nat → ag_R) : ag_R := ag_at h o ci fun _ fs =>
  match fs[k]? with
  | some (.inr x) => K x
  | _ => none
def ag_pF (h : ag_H) (o : Option Nat) (ci k : Nat) (v : ag_V) (K : ag_H → ag_R) : ag_R := ag_at h o ci fun a fs =>
  if k < fs.length then K (ag_set h a (ci, fs.set k v)) else none
def ag_xI (h : ag_H) (o : Option Nat) (t : Nat) (i : Int32) (K : Int32 → ag_R) : ag_R := ag_at h o t fun _ xs =>
  if i < 0 then none else match xs[i.toNatClampNeg]? with
  | some (.inl x) => K x
  | _ => none
def ag_xR (h : ag_H) (o : Option Nat) (t : Nat) (i : Int32) (K : Option Nat → ag_R) : ag_R := ag_at h o t fun _ xs =>
  if i < 0 then none else match xs[i.toNatClampNeg]? with
  | some (.inr x) => K x
  | _ => none
def ag_xP (h : ag_H) (o : Option Nat) (t : Nat) (i : Int32) (v : ag_V) (K : ag_H → ag_R) : ag_R := ag_at h o t fun a xs =>
  if i < 0 then none else if i.toNatClampNeg < xs.length then K (ag_set h a (t, xs.set i.toNatClampNeg v)) else none
def ag_xN (h : ag_H) (o : Option Nat) (t : Nat) (K : Int32 → ag_R) : ag_R := ag_at h o t fun _ xs => if xs.length < 100000 then K (nI xs.length) else none
/-- what is stored into an array of objects of class ci -/
def ag_oK (h : ag_H) (o : Option Nat) (ci : Nat) (K : ag_R) : ag_R :=
  match o with
  | none => K
  | some _ => ag_at h o ci fun _ _ => K
def ag_nn (o : Option Nat) (K : ag_R) : ag_R :=
  match o with
  | none => none
  | some _ => K
def ag_lit (n : Int) : Int32 := Int32.ofInt n
def ag_lit8 (n : Int) : Int32 := (Int8.ofInt n).toInt32
def ag_lit16 (n : Int) : Int32 := (Int16.ofInt n).toInt32
def ag_dv (y : Int32) (K : ag_R) : ag_R := if y = 0 then none else K
def ag_na (h : ag_H) (n : Int32) (t : Nat) (v : ag_V) (K : Option Nat → ag_H → ag_R) : ag_R :=
  if n < 0 then none else if n.toNatClampNeg < 100000 then K (some h.1) (ag_new h n.toNatClampNeg (t, List.replicate n.toNatClampNeg v)) else none
def ag_isC (x : Int32) (K : ag_R) : ag_R := if 0 ≤ x ∧ x < 65536 then K else none
def ag_isB (x : Int32) (K : ag_R) : ag_R := if x = 0 ∨ x = 1 then K else none
def ag_bI (r : ag_R) (K : Int32 → ag_H → ag_R) : ag_R :=
  match r with
  | some (.inl (some (.inl x)), h) => K x h
  | some (.inr e, h) => some (.inr e, h)
  | _ => none
def ag_bR (r : ag_R) (K : Option Nat → ag_H → ag_R) : ag_R :=
  match r with
  | some (.inl (some (.inr x)), h) => K x h
  | some (.inr e, h) => some (.inr e, h)
  | _ => none
def ag_bV (r : ag_R) (K : ag_H → ag_R) : ag_R :=
  match r with
  | some (.inl none, h) => K h
  | some (.inr e, h) => some (.inr e, h)
  | _ => none
def ag_ldI (L : ag_L) (i : Nat) (K : Int32 → ag_R) : ag_R :=
  match L[i]? with
  | some (some (.inl x)) => K x
  | _ => none
def ag_ldR (L : ag_L) (i : Nat) (K : Option Nat → ag_R) : ag_R :=
  match L[i]? with
  | some (some (.inr x)) => K x
  | _ => none
def ag_mask : Nat → ag_L → ag_L
  | _, [] => []
  | m, v :: L => (bif Nat.beq (m % 2) 1 then v else none) :: ag_mask (m / 2) L
def ag_cc (c : ClassFile.Cond) (x y : Int32) : Bool := match c with
  | .eq => decide (x = y)
  | .ne => decide (¬ x = y)
  | .lt => decide (x < y)
  | .ge => decide (y ≤ x)
  | .gt => decide (y < x)
  | .le => decide (x ≤ y)
/-- default contents of an object of class ci: from the descriptors' types -/
def ag_df : FieldType → ag_V
  | .object _ => .inr none
  | .array _ => .inr none
  | _ => .inl 0
def ag_br (c : ClassFile.Cond) (x y : Int32) (A B : ag_R) : ag_R := match c with
  | .eq => if x = y then A else B
  | .ne => if x = y then B else A
  | .lt => if x < y then A else B
  | .ge => if y ≤ x then A else B
  | .gt => if y < x then A else B
  | .le => if x ≤ y then A else B
def ag_sw (x : Int32) (lo : Int) (ts : List ag_R) (d : ag_R) : ag_R :=
  if x.toInt < lo then d else match ts[(x.toInt - lo).toNat]? with
  | some r => r
  | none => d
/-- System.arraycopy between two arrays of chars -/
def ag_cp (h : ag_H) (s : Option Nat) (sp : Int32) (d : Option Nat) (dp n : Int32) (K : ag_H → ag_R) : ag_R :=
  ag_at h s 101 fun _ xs => ag_at h d 101 fun b ys =>
    if sp < 0 ∨ dp < 0 ∨ n < 0 then none else
    if sp.toNatClampNeg + n.toNatClampNeg ≤ xs.length ∧ dp.toNatClampNeg + n.toNatClampNeg ≤ ys.length then
      K (ag_set h b (101, ys.take dp.toNatClampNeg ++ ((xs.drop sp.toNatClampNeg).take n.toNatClampNeg ++ ys.drop (dp.toNatClampNeg + n.toNatClampNeg))))
    else none
/-- the default contents of a new object of a class -/
def ag_fs (ci : Nat) : List ag_V := match vwCl[ci]? with
  | some r => (List.range r.2.2).map fun k => match parseFieldDescriptor (r.2.1 k).2.2.1 with
    | some t => ag_df t
    | none => .inl 0
  | none => []
def ag_nw (h : ag_H) (ci : Nat) (K : Option Nat → ag_H → ag_R) : ag_R := K (some h.1) (ag_new h (ag_fs ci).length (ci, ag_fs ci))
/-- a call, by the kind of its answer (0: none, 1: an int, 2: a reference) -/
def ag_cl (x3 : Nat) (r : ag_R) (S : List ag_V) (K : List ag_V → ag_H → ag_R) : ag_R := match S.drop 8 with
  | [] => match x3 with
    | 0 => ag_bV r fun h => K S h
    | 1 => ag_bI r fun x h => K (.inl x :: S) h
    | _ => ag_bR r fun x h => K (.inr x :: S) h
  | _ => none
/-- the end of a method whose answer is of kind rt (0: none, 1: int, 2: a reference, 3: char, 4: boolean) -/
def ag_rI (rt : Nat) (x : Int32) (h : ag_H) : ag_R := match rt with
  | 1 => some (.inl (some (.inl x)), h)
  | 3 => ag_isC x (some (.inl (some (.inl x)), h))
  | 4 => ag_isB x (some (.inl (some (.inl x)), h))
  | _ => none
def ag_ex (rt : Nat) (call : Nat → List ag_V → ag_H → ag_R) (pc : Nat) (i : Instr) (nx x1 x2 x3 : Nat) (L : ag_L) (S : List ag_V) (h : ag_H) (K : ag_K4) : ag_R :=
  match i with
  | .aload_n n => ag_ldR L n.val fun o => K nx L (.inr o :: S) h
  | .aload n => ag_ldR L n fun o => K nx L (.inr o :: S) h
  | .iload_n n => ag_ldI L n.val fun o => K nx L (.inl o :: S) h
  | .iload n => ag_ldI L n fun o => K nx L (.inl o :: S) h
  | .astore_n n => match S with
    | .inr o :: S => K nx (L.set n.val (some (.inr o))) S h
    | _ => none
  | .astore n => match S with
    | .inr o :: S => K nx (L.set n (some (.inr o))) S h
    | _ => none
  | .istore_n n => match S with
    | .inl o :: S => K nx (L.set n.val (some (.inl o))) S h
    | _ => none
  | .istore n => match S with
    | .inl o :: S => K nx (L.set n (some (.inl o))) S h
    | _ => none
  | .iinc n d => ag_ldI L n fun x => K nx (L.set n (some (.inl (x + ag_lit d)))) S h
  | .iconst n => K nx L (.inl (ag_lit n) :: S) h
  | .bipush n => K nx L (.inl (ag_lit8 n) :: S) h
  | .sipush n => K nx L (.inl (ag_lit16 n) :: S) h
  | .aconst_null => K nx L (.inr none :: S) h
  | .dup => match S with
    | v :: S => K nx L (v :: v :: S) h
    | _ => none
  | .dup2 => match S with
    | v :: w :: S => K nx L (v :: w :: v :: w :: S) h
    | _ => none
  | .pop => match S with
    | _ :: S => K nx L S h
    | _ => none
  | .iadd => match S with
    | .inl y :: .inl x :: S => K nx L (.inl (x + y) :: S) h
    | _ => none
  | .isub => match S with
    | .inl y :: .inl x :: S => K nx L (.inl (x - y) :: S) h
    | _ => none
  | .imul => match S with
    | .inl y :: .inl x :: S => K nx L (.inl (x * y) :: S) h
    | _ => none
  | .idiv => match S with
    | .inl y :: .inl x :: S => ag_dv y (K nx L (.inl (x / y) :: S) h)
    | _ => none
  | .irem => match S with
    | .inl y :: .inl x :: S => ag_dv y (K nx L (.inl (x - x / y * y) :: S) h)
    | _ => none
  | .iand => match S with
    | .inl y :: .inl x :: S => K nx L (.inl (x &&& y) :: S) h
    | _ => none
  | .ior => match S with
    | .inl y :: .inl x :: S => K nx L (.inl (x ||| y) :: S) h
    | _ => none
  | .ishl => match S with
    | .inl y :: .inl x :: S => K nx L (.inl (x <<< (y &&& 31)) :: S) h
    | _ => none
  | .iushr => match S with
    | .inl y :: .inl x :: S => K nx L (.inl (x.toUInt32 >>> (y.toUInt32 &&& Int32.toUInt32 31)).toInt32 :: S) h
    | _ => none
  | .i2c => match S with
    | .inl x :: S => K nx L (.inl (x.toUInt32 % 65536).toInt32 :: S) h
    | _ => none
  | .goto _ => K x1 (bif Nat.beq x3 1 then ag_mask x2 L else L) S h
  | .ifCond c _ => match S with
    | .inl x :: S => ag_br c x (ag_lit 0) (K x1 L S h) (K nx L S h)
    | _ => none
  | .if_icmp c _ => match S with
    | .inl y :: .inl x :: S => ag_br c x y (K x1 L S h) (K nx L S h)
    | _ => none
  | .ifnull _ => match S with
    | .inr o :: S => if o = none then K x1 L S h else K nx L S h
    | _ => none
  | .ifnonnull _ => match S with
    | .inr o :: S => if o = none then K nx L S h else K x1 L S h
    | _ => none
  | .getfield _ => match S with
    | .inr o :: S => match x3 with
      | 0 => ag_gI h o x1 x2 fun x => K nx L (.inl x :: S) h
      | _ => ag_gR h o x1 x2 fun x => K nx L (.inr x :: S) h
    | _ => none
  | .putfield _ => match S with
    | .inl v :: .inr o :: S => match x3 with
      | 0 => ag_pF h o x1 x2 (.inl v) fun h => K nx L S h
      | 3 => ag_isC v (ag_pF h o x1 x2 (.inl v) fun h => K nx L S h)
      | 4 => ag_isB v (ag_pF h o x1 x2 (.inl v) fun h => K nx L S h)
      | _ => none
    | .inr v :: .inr o :: S => match x3 with
      | 1 => ag_pF h o x1 x2 (.inr v) fun h => K nx L S h
      | _ => none
    | _ => none
  | .iaload => match S with
    | .inl i :: .inr o :: S => ag_xI h o 100 i fun x => K nx L (.inl x :: S) h
    | _ => none
  | .caload => match S with
    | .inl i :: .inr o :: S => ag_xI h o 101 i fun x => K nx L (.inl x :: S) h
    | _ => none
  | .baload => match S with
    | .inl i :: .inr o :: S => ag_xI h o 102 i fun x => K nx L (.inl x :: S) h
    | _ => none
  | .aaload => match S with
    | .inl i :: .inr o :: S => ag_xR h o x1 i fun x => K nx L (.inr x :: S) h
    | _ => none
  | .iastore => match S with
    | .inl v :: .inl i :: .inr o :: S => ag_xP h o 100 i (.inl v) fun h => K nx L S h
    | _ => none
  | .castore => match S with
    | .inl v :: .inl i :: .inr o :: S => ag_isC v (ag_xP h o 101 i (.inl v) fun h => K nx L S h)
    | _ => none
  | .bastore => match S with
    | .inl v :: .inl i :: .inr o :: S => ag_isB v (ag_xP h o 102 i (.inl v) fun h => K nx L S h)
    | _ => none
  | .aastore => match S with
    | .inr v :: .inl i :: .inr o :: S => ag_oK h v x2 (ag_xP h o x1 i (.inr v) fun h => K nx L S h)
    | _ => none
  | .arraylength => match S with
    | .inr o :: S => ag_xN h o x1 fun x => K nx L (.inl x :: S) h
    | _ => none
  | .newarray _ => match S with
    | .inl n :: S => ag_na h n x1 (.inl 0) fun o h => K nx L (.inr o :: S) h
    | _ => none
  | .anewarray _ => match S with
    | .inl n :: S => ag_na h n x1 (.inr none) fun o h => K nx L (.inr o :: S) h
    | _ => none
  | .new _ => match x3 with
    | 9 => match S with
      | [] => some (.inr x1, ag_thr h)
      | _ => none
    | _ => ag_nw h x1 fun o h => K nx L (.inr o :: S) h
  | .invokespecial _ => match x3 with
    | 9 => match S with
      | [.inr o] => ag_nn o (K nx L [] h)
      | _ => none
    | _ => match S.drop x2 with
      | .inr o :: S' => ag_nn o (ag_cl 0 (call x1 (.inr o :: (S.take x2).reverse) h) S' fun S h => K nx L S h)
      | _ => none
  | .invokevirtual _ => match S.drop x2 with
    | .inr o :: S' => ag_at h o (x3 / 10) fun a _ => ag_cl (x3 % 10) (call x1 (.inr (some a) :: (S.take x2).reverse) h) S' fun S h => K nx L S h
    | _ => none
  | .tableswitch dflt lo _ offs => match S with
    | .inl x :: S => ag_sw x lo (offs.toList.map fun o => K ((pc : Int) + o).toNat L S h) (K ((pc : Int) + dflt).toNat L S h)
    | _ => none
  | .invokestatic _ => match x3 with
    | 99 => match S with
      | [.inl n, .inl dp, .inr d, .inl sp, .inr s] => ag_cp h s sp d dp n fun h => K nx L [] h
      | _ => none
    | _ => ag_cl (x3 % 10) (call x1 (S.take x2).reverse h) (S.drop x2) fun S h => K nx L S h
  | .ireturn => match S with
    | [.inl x] => ag_rI rt x h
    | _ => none
  | .areturn => match S with
    | [.inr x] => bif Nat.beq rt 2 then some (.inl (some (.inr x)), h) else none
    | _ => none
  | .return_ => match S with
    | [] => bif Nat.beq rt 0 then some (.inl none, h) else none
    | _ => none
  | _ => none
def ag_in (rt : Nat) (call : Nat → List ag_V → ag_H → ag_R) (back : ag_K4) : List ag_I → ag_K4
  | [], _, _, _, _ => none
  | e :: es, pc, L, S, h => bif Nat.beq e.1 pc then ag_ex rt call e.1 e.2.1 e.2.2.1 e.2.2.2.1 e.2.2.2.2.1 e.2.2.2.2.2 L S h (fun pc' L' S' h' => bif Nat.blt e.1 pc' then ag_in rt call back es pc' L' S' h' else back pc' L' S' h') else ag_in rt call back es pc L S h
def ag_out (rt : Nat) (call : Nat → List ag_V → ag_H → ag_R) (tab : List ag_I) : Nat → ag_K4
  | 0 => fun _ _ _ _ => none
  | n + 1 => ag_in rt call (ag_out rt call tab n) tab
/-- a method y: how many locals, the kind of its answer, its table -/
abbrev ag_T : Type := Nat → Nat × Nat × List ag_I
def ag_run (T : ag_T) : Nat → Nat → List ag_V → ag_H → ag_R
  | 0, _, _, _ => none
  | d + 1, y, A, h => ag_out (T y).2.1 (ag_run T d) (T y).2.2 4000 0 (A.map some ++ List.replicate ((T y).1 - A.length) none) [] h
theorem ag_out_top (rt : Nat) (call : Nat → List ag_V → ag_H → ag_R) (tab : List ag_I) : ag_out rt call tab 4000 = ag_in rt call (ag_out rt call tab 3999) tab := rfl
end
section
def t0 : List ag_I := [(0, .aload_n 0, 1, 0, 0, 0), (1, .invokespecial 3, 4, 0, 0, 9), (4, .aload_n 0, 5, 0, 0, 0), (5, .iconst 3, 6, 0, 0, 0), (6, .newarray .int, 8, 100, 0, 0), (8, .putfield 9, 11, 0, 0, 1), (11, .aload_n 0, 12, 0, 0, 0), (12, .iconst 3, 13, 0, 0, 0), (13, .newarray .int, 15, 100, 0, 0), (15, .putfield 15, 18, 0, 1, 1), (18, .aload_n 0, 19, 0, 0, 0), (19, .iconst 3, 20, 0, 0, 0), (20, .newarray .boolean, 22, 102, 0, 0), (22, .putfield 18, 25, 0, 2, 1), (25, .return_, 26, 0, 0, 0)]
def t1 : List ag_I := [(0, .iload_n 1, 1, 0, 0, 0), (1, .ifCond .lt 19, 4, 20, 0, 0), (4, .iload_n 1, 5, 0, 0, 0), (5, .aload_n 0, 6, 0, 0, 0), (6, .getfield 22, 9, 0, 3, 0), (9, .if_icmp .gt 11, 12, 20, 0, 0), (12, .aload_n 0, 13, 0, 0, 0), (13, .getfield 22, 16, 0, 3, 0), (16, .iconst 3, 17, 0, 0, 0), (17, .if_icmp .lt 4, 20, 21, 0, 0), (20, .return_, 21, 0, 0, 0), (21, .aload_n 0, 22, 0, 0, 0), (22, .getfield 22, 25, 0, 3, 0), (25, .istore 5, 27, 0, 0, 0), (27, .iload 5, 29, 0, 0, 0), (29, .iload_n 1, 30, 0, 0, 0), (30, .if_icmp .le 57, 33, 87, 0, 0), (33, .aload_n 0, 34, 0, 0, 0), (34, .getfield 9, 37, 0, 0, 1), (37, .iload 5, 39, 0, 0, 0), (39, .aload_n 0, 40, 0, 0, 0), (40, .getfield 9, 43, 0, 0, 1), (43, .iload 5, 45, 0, 0, 0), (45, .iconst 1, 46, 0, 0, 0), (46, .isub, 47, 0, 0, 0), (47, .iaload, 48, 0, 0, 0), (48, .iastore, 49, 0, 0, 0), (49, .aload_n 0, 50, 0, 0, 0), (50, .getfield 15, 53, 0, 1, 1), (53, .iload 5, 55, 0, 0, 0), (55, .aload_n 0, 56, 0, 0, 0), (56, .getfield 15, 59, 0, 1, 1), (59, .iload 5, 61, 0, 0, 0), (61, .iconst 1, 62, 0, 0, 0), (62, .isub, 63, 0, 0, 0), (63, .iaload, 64, 0, 0, 0), (64, .iastore, 65, 0, 0, 0), (65, .aload_n 0, 66, 0, 0, 0), (66, .getfield 18, 69, 0, 2, 1), (69, .iload 5, 71, 0, 0, 0), (71, .aload_n 0, 72, 0, 0, 0), (72, .getfield 18, 75, 0, 2, 1), (75, .iload 5, 77, 0, 0, 0), (77, .iconst 1, 78, 0, 0, 0), (78, .isub, 79, 0, 0, 0), (79, .baload, 80, 0, 0, 0), (80, .bastore, 81, 0, 0, 0), (81, .iinc 5 (-1), 84, 0, 0, 0), (84, .goto (-57), 87, 27, 63, 1), (87, .aload_n 0, 88, 0, 0, 0), (88, .getfield 9, 91, 0, 0, 1), (91, .iload_n 1, 92, 0, 0, 0), (92, .iload_n 2, 93, 0, 0, 0), (93, .iastore, 94, 0, 0, 0), (94, .aload_n 0, 95, 0, 0, 0), (95, .getfield 15, 98, 0, 1, 1), (98, .iload_n 1, 99, 0, 0, 0), (99, .iload_n 3, 100, 0, 0, 0), (100, .iastore, 101, 0, 0, 0), (101, .aload_n 0, 102, 0, 0, 0), (102, .getfield 18, 105, 0, 2, 1), (105, .iload_n 1, 106, 0, 0, 0), (106, .iload 4, 108, 0, 0, 0), (108, .bastore, 109, 0, 0, 0), (109, .aload_n 0, 110, 0, 0, 0), (110, .dup, 111, 0, 0, 0), (111, .getfield 22, 114, 0, 3, 0), (114, .iconst 1, 115, 0, 0, 0), (115, .iadd, 116, 0, 0, 0), (116, .putfield 22, 119, 0, 3, 0), (119, .return_, 120, 0, 0, 0)]
def t2 : List ag_I := [(0, .iload_n 1, 1, 0, 0, 0), (1, .ifCond .lt 11, 4, 12, 0, 0), (4, .iload_n 1, 5, 0, 0, 0), (5, .aload_n 0, 6, 0, 0, 0), (6, .getfield 22, 9, 0, 3, 0), (9, .if_icmp .lt 4, 12, 13, 0, 0), (12, .return_, 13, 0, 0, 0), (13, .iload_n 1, 14, 0, 0, 0), (14, .istore_n 2, 15, 0, 0, 0), (15, .iload_n 2, 16, 0, 0, 0), (16, .iconst 1, 17, 0, 0, 0), (17, .iadd, 18, 0, 0, 0), (18, .aload_n 0, 19, 0, 0, 0), (19, .getfield 22, 22, 0, 3, 0), (22, .if_icmp .ge 51, 25, 73, 0, 0), (25, .aload_n 0, 26, 0, 0, 0), (26, .getfield 9, 29, 0, 0, 1), (29, .iload_n 2, 30, 0, 0, 0), (30, .aload_n 0, 31, 0, 0, 0), (31, .getfield 9, 34, 0, 0, 1), (34, .iload_n 2, 35, 0, 0, 0), (35, .iconst 1, 36, 0, 0, 0), (36, .iadd, 37, 0, 0, 0), (37, .iaload, 38, 0, 0, 0), (38, .iastore, 39, 0, 0, 0), (39, .aload_n 0, 40, 0, 0, 0), (40, .getfield 15, 43, 0, 1, 1), (43, .iload_n 2, 44, 0, 0, 0), (44, .aload_n 0, 45, 0, 0, 0), (45, .getfield 15, 48, 0, 1, 1), (48, .iload_n 2, 49, 0, 0, 0), (49, .iconst 1, 50, 0, 0, 0), (50, .iadd, 51, 0, 0, 0), (51, .iaload, 52, 0, 0, 0), (52, .iastore, 53, 0, 0, 0), (53, .aload_n 0, 54, 0, 0, 0), (54, .getfield 18, 57, 0, 2, 1), (57, .iload_n 2, 58, 0, 0, 0), (58, .aload_n 0, 59, 0, 0, 0), (59, .getfield 18, 62, 0, 2, 1), (62, .iload_n 2, 63, 0, 0, 0), (63, .iconst 1, 64, 0, 0, 0), (64, .iadd, 65, 0, 0, 0), (65, .baload, 66, 0, 0, 0), (66, .bastore, 67, 0, 0, 0), (67, .iinc 2 1, 70, 0, 0, 0), (70, .goto (-55), 73, 15, 5, 1), (73, .aload_n 0, 74, 0, 0, 0), (74, .dup, 75, 0, 0, 0), (75, .getfield 22, 78, 0, 3, 0), (78, .iconst 1, 79, 0, 0, 0), (79, .isub, 80, 0, 0, 0), (80, .putfield 22, 83, 0, 3, 0), (83, .return_, 84, 0, 0, 0)]
def t3 : List ag_I := [(0, .iload_n 1, 1, 0, 0, 0), (1, .ifCond .lt 20, 4, 21, 0, 0), (4, .iload_n 1, 5, 0, 0, 0), (5, .aload_n 0, 6, 0, 0, 0), (6, .getfield 22, 9, 0, 3, 0), (9, .if_icmp .ge 12, 12, 21, 0, 0), (12, .aload_n 0, 13, 0, 0, 0), (13, .getfield 9, 16, 0, 0, 1), (16, .iload_n 1, 17, 0, 0, 0), (17, .iaload, 18, 0, 0, 0), (18, .goto 4, 21, 22, 0, 0), (21, .iconst (-1), 22, 0, 0, 0), (22, .ireturn, 23, 0, 0, 0)]
def t4 : List ag_I := [(0, .iload_n 1, 1, 0, 0, 0), (1, .ifCond .lt 20, 4, 21, 0, 0), (4, .iload_n 1, 5, 0, 0, 0), (5, .aload_n 0, 6, 0, 0, 0), (6, .getfield 22, 9, 0, 3, 0), (9, .if_icmp .ge 12, 12, 21, 0, 0), (12, .aload_n 0, 13, 0, 0, 0), (13, .getfield 15, 16, 0, 1, 1), (16, .iload_n 1, 17, 0, 0, 0), (17, .iaload, 18, 0, 0, 0), (18, .goto 4, 21, 22, 0, 0), (21, .iconst (-1), 22, 0, 0, 0), (22, .ireturn, 23, 0, 0, 0)]
def t5 : List ag_I := [(0, .iload_n 1, 1, 0, 0, 0), (1, .ifCond .lt 24, 4, 25, 0, 0), (4, .iload_n 1, 5, 0, 0, 0), (5, .aload_n 0, 6, 0, 0, 0), (6, .getfield 22, 9, 0, 3, 0), (9, .if_icmp .ge 16, 12, 25, 0, 0), (12, .aload_n 0, 13, 0, 0, 0), (13, .getfield 18, 16, 0, 2, 1), (16, .iload_n 1, 17, 0, 0, 0), (17, .baload, 18, 0, 0, 0), (18, .ifCond .eq 7, 21, 25, 0, 0), (21, .iconst 1, 22, 0, 0, 0), (22, .goto 4, 25, 26, 0, 0), (25, .iconst 0, 26, 0, 0, 0), (26, .ireturn, 27, 0, 0, 0)]
def t6 : List ag_I := [(0, .iconst 0, 1, 0, 0, 0), (1, .istore_n 1, 2, 0, 0, 0), (2, .iload_n 1, 3, 0, 0, 0), (3, .aload_n 0, 4, 0, 0, 0), (4, .getfield 22, 7, 0, 3, 0), (7, .if_icmp .ge 20, 10, 27, 0, 0), (10, .aload_n 0, 11, 0, 0, 0), (11, .getfield 18, 14, 0, 2, 1), (14, .iload_n 1, 15, 0, 0, 0), (15, .baload, 16, 0, 0, 0), (16, .ifCond .eq 5, 19, 21, 0, 0), (19, .iload_n 1, 20, 0, 0, 0), (20, .ireturn, 21, 0, 0, 0), (21, .iinc 1 1, 24, 0, 0, 0), (24, .goto (-22), 27, 2, 3, 1), (27, .iconst (-1), 28, 0, 0, 0), (28, .ireturn, 29, 0, 0, 0)]
def t7 : List ag_I := [(0, .aload_n 0, 1, 0, 0, 0), (1, .invokespecial 3, 4, 0, 0, 9), (4, .aload_n 0, 5, 0, 0, 0), (5, .bipush 20, 7, 0, 0, 0), (7, .newarray .int, 9, 100, 0, 0), (9, .putfield 9, 12, 1, 0, 1), (12, .return_, 13, 0, 0, 0)]
def t8 : List ag_I := [(0, .aload_n 0, 1, 0, 0, 0), (1, .dup, 2, 0, 0, 0), (2, .getfield 15, 5, 1, 2, 0), (5, .iconst 1, 6, 0, 0, 0), (6, .iadd, 7, 0, 0, 0), (7, .putfield 15, 10, 1, 2, 0), (10, .aload_n 0, 11, 0, 0, 0), (11, .bipush 7, 13, 0, 0, 0), (13, .putfield 19, 16, 1, 1, 0), (16, .aload_n 0, 17, 0, 0, 0), (17, .getfield 9, 20, 1, 0, 1), (20, .iconst 0, 21, 0, 0, 0), (21, .bipush 7, 23, 0, 0, 0), (23, .iastore, 24, 0, 0, 0), (24, .aload_n 0, 25, 0, 0, 0), (25, .getfield 9, 28, 1, 0, 1), (28, .iconst 4, 29, 0, 0, 0), (29, .iload_n 1, 30, 0, 0, 0), (30, .iastore, 31, 0, 0, 0), (31, .aload_n 0, 32, 0, 0, 0), (32, .getfield 9, 35, 1, 0, 1), (35, .iconst 5, 36, 0, 0, 0), (36, .iconst 1, 37, 0, 0, 0), (37, .iastore, 38, 0, 0, 0), (38, .return_, 39, 0, 0, 0)]
def t9 : List ag_I := [(0, .iconst 0, 1, 0, 0, 0), (1, .istore_n 3, 2, 0, 0, 0), (2, .iload_n 3, 3, 0, 0, 0), (3, .iload_n 2, 4, 0, 0, 0), (4, .if_icmp .ge 47, 7, 51, 0, 0), (7, .aload_n 0, 8, 0, 0, 0), (8, .getfield 19, 11, 1, 1, 0), (11, .bipush 20, 13, 0, 0, 0), (13, .if_icmp .ge 38, 16, 51, 0, 0), (16, .aload_n 0, 17, 0, 0, 0), (17, .getfield 9, 20, 1, 0, 1), (20, .aload_n 0, 21, 0, 0, 0), (21, .getfield 19, 24, 1, 1, 0), (24, .iload_n 1, 25, 0, 0, 0), (25, .bipush 8, 27, 0, 0, 0), (27, .iload_n 3, 28, 0, 0, 0), (28, .imul, 29, 0, 0, 0), (29, .iushr, 30, 0, 0, 0), (30, .sipush 255, 33, 0, 0, 0), (33, .iand, 34, 0, 0, 0), (34, .iastore, 35, 0, 0, 0), (35, .aload_n 0, 36, 0, 0, 0), (36, .dup, 37, 0, 0, 0), (37, .getfield 19, 40, 1, 1, 0), (40, .iconst 1, 41, 0, 0, 0), (41, .iadd, 42, 0, 0, 0), (42, .putfield 19, 45, 1, 1, 0), (45, .iinc 3 1, 48, 0, 0, 0), (48, .goto (-46), 51, 2, 15, 1), (51, .aload_n 0, 52, 0, 0, 0), (52, .getfield 9, 55, 1, 0, 1), (55, .iconst 0, 56, 0, 0, 0), (56, .aload_n 0, 57, 0, 0, 0), (57, .getfield 19, 60, 1, 1, 0), (60, .iastore, 61, 0, 0, 0), (61, .return_, 62, 0, 0, 0)]
def t10 : List ag_I := [(0, .iload_n 1, 1, 0, 0, 0), (1, .ifCond .lt 26, 4, 27, 0, 0), (4, .iload_n 1, 5, 0, 0, 0), (5, .aload_n 0, 6, 0, 0, 0), (6, .getfield 19, 9, 1, 1, 0), (9, .if_icmp .ge 18, 12, 27, 0, 0), (12, .iload_n 1, 13, 0, 0, 0), (13, .bipush 20, 15, 0, 0, 0), (15, .if_icmp .ge 12, 18, 27, 0, 0), (18, .aload_n 0, 19, 0, 0, 0), (19, .getfield 9, 22, 1, 0, 1), (22, .iload_n 1, 23, 0, 0, 0), (23, .iaload, 24, 0, 0, 0), (24, .goto 4, 27, 28, 0, 0), (27, .iconst (-1), 28, 0, 0, 0), (28, .ireturn, 29, 0, 0, 0)]
def t11 : List ag_I := [(0, .iload_n 1, 1, 0, 0, 0), (1, .iconst (-1), 2, 0, 0, 0), (2, .if_icmp .ne 10, 5, 12, 0, 0), (5, .aload_n 0, 6, 0, 0, 0), (6, .getfield 19, 9, 1, 1, 0), (9, .goto 8, 12, 17, 0, 0), (12, .aload_n 0, 13, 0, 0, 0), (13, .iload_n 1, 14, 0, 0, 0), (14, .invokevirtual 22, 17, 10, 1, 11), (17, .ireturn, 18, 0, 0, 0)]
def t12 : List ag_I := [(0, .iconst 0, 1, 0, 0, 0), (1, .istore_n 2, 2, 0, 0, 0), (2, .iconst 3, 3, 0, 0, 0), (3, .istore_n 3, 4, 0, 0, 0), (4, .iload_n 3, 5, 0, 0, 0), (5, .ifCond .lt 26, 8, 31, 0, 0), (8, .iload_n 2, 9, 0, 0, 0), (9, .bipush 8, 11, 0, 0, 0), (11, .ishl, 12, 0, 0, 0), (12, .aload_n 0, 13, 0, 0, 0), (13, .iload_n 1, 14, 0, 0, 0), (14, .iload_n 3, 15, 0, 0, 0), (15, .iadd, 16, 0, 0, 0), (16, .invokevirtual 22, 19, 10, 1, 11), (19, .sipush 255, 22, 0, 0, 0), (22, .iand, 23, 0, 0, 0), (23, .ior, 24, 0, 0, 0), (24, .istore_n 2, 25, 0, 0, 0), (25, .iinc 3 (-1), 28, 0, 0, 0), (28, .goto (-24), 31, 4, 15, 1), (31, .iload_n 2, 32, 0, 0, 0), (32, .ireturn, 33, 0, 0, 0)]
def t13 : List ag_I := [(0, .aload_n 0, 1, 0, 0, 0), (1, .invokespecial 3, 4, 0, 0, 9), (4, .aload_n 0, 5, 0, 0, 0), (5, .iconst 4, 6, 0, 0, 0), (6, .anewarray 9, 9, 107, 0, 0), (9, .putfield 11, 12, 2, 0, 1), (12, .iconst 0, 13, 0, 0, 0), (13, .istore_n 1, 14, 0, 0, 0), (14, .iload_n 1, 15, 0, 0, 0), (15, .iconst 4, 16, 0, 0, 0), (16, .if_icmp .ge 22, 19, 38, 0, 0), (19, .aload_n 0, 20, 0, 0, 0), (20, .getfield 11, 23, 2, 0, 1), (23, .iload_n 1, 24, 0, 0, 0), (24, .new 9, 27, 5, 0, 0), (27, .dup, 28, 0, 0, 0), (28, .invokespecial 17, 31, 28, 0, 0), (31, .aastore, 32, 107, 5, 0), (32, .iinc 1 1, 35, 0, 0, 0), (35, .goto (-21), 38, 14, 3, 1), (38, .return_, 39, 0, 0, 0)]
def t14 : List ag_I := [(0, .iconst 0, 1, 0, 0, 0), (1, .istore_n 3, 2, 0, 0, 0), (2, .iload_n 3, 3, 0, 0, 0), (3, .aload_n 0, 4, 0, 0, 0), (4, .getfield 18, 7, 2, 1, 0), (7, .if_icmp .ge 37, 10, 44, 0, 0), (10, .aload_n 0, 11, 0, 0, 0), (11, .getfield 11, 14, 2, 0, 1), (14, .iload_n 3, 15, 0, 0, 0), (15, .aaload, 16, 107, 0, 0), (16, .getfield 22, 19, 5, 1, 0), (19, .iload_n 1, 20, 0, 0, 0), (20, .if_icmp .ne 18, 23, 38, 0, 0), (23, .aload_n 0, 24, 0, 0, 0), (24, .getfield 11, 27, 2, 0, 1), (27, .iload_n 3, 28, 0, 0, 0), (28, .aaload, 29, 107, 0, 0), (29, .getfield 25, 32, 5, 2, 0), (32, .iload_n 2, 33, 0, 0, 0), (33, .if_icmp .ne 5, 36, 38, 0, 0), (36, .iload_n 3, 37, 0, 0, 0), (37, .ireturn, 38, 0, 0, 0), (38, .iinc 3 1, 41, 0, 0, 0), (41, .goto (-39), 44, 2, 15, 1), (44, .iconst (-1), 45, 0, 0, 0), (45, .ireturn, 46, 0, 0, 0)]
def t15 : List ag_I := [(0, .iload_n 1, 1, 0, 0, 0), (1, .ifCond .lt 20, 4, 21, 0, 0), (4, .iload_n 1, 5, 0, 0, 0), (5, .aload_n 0, 6, 0, 0, 0), (6, .getfield 18, 9, 2, 1, 0), (9, .if_icmp .ge 12, 12, 21, 0, 0), (12, .aload_n 0, 13, 0, 0, 0), (13, .getfield 11, 16, 2, 0, 1), (16, .iload_n 1, 17, 0, 0, 0), (17, .aaload, 18, 107, 0, 0), (18, .goto 4, 21, 22, 0, 0), (21, .aconst_null, 22, 0, 0, 0), (22, .areturn, 23, 0, 0, 0)]
def t16 : List ag_I := [(0, .aload_n 0, 1, 0, 0, 0), (1, .getfield 18, 4, 2, 1, 0), (4, .iconst 3, 5, 0, 0, 0), (5, .invokestatic 28, 8, 176, 2, 1), (8, .istore_n 3, 9, 0, 0, 0), (9, .aload_n 0, 10, 0, 0, 0), (10, .getfield 11, 13, 2, 0, 1), (13, .iload_n 3, 14, 0, 0, 0), (14, .aaload, 15, 107, 0, 0), (15, .astore 4, 17, 0, 0, 0), (17, .aload 4, 19, 0, 0, 0), (19, .getfield 34, 22, 5, 0, 1), (22, .iconst 0, 23, 0, 0, 0), (23, .putfield 38, 26, 0, 3, 0), (26, .aload 4, 28, 0, 0, 0), (28, .iload_n 1, 29, 0, 0, 0), (29, .putfield 22, 32, 5, 1, 0), (32, .aload 4, 34, 0, 0, 0), (34, .iload_n 2, 35, 0, 0, 0), (35, .putfield 25, 38, 5, 2, 0), (38, .aload_n 0, 39, 0, 0, 0), (39, .iload_n 3, 40, 0, 0, 0), (40, .iconst 1, 41, 0, 0, 0), (41, .iadd, 42, 0, 0, 0), (42, .putfield 18, 45, 2, 1, 0), (45, .aload 4, 47, 0, 0, 0), (47, .getfield 34, 50, 5, 0, 1), (50, .areturn, 51, 0, 0, 0)]
def t17 : List ag_I := [(0, .iload_n 1, 1, 0, 0, 0), (1, .ifCond .lt 11, 4, 12, 0, 0), (4, .iload_n 1, 5, 0, 0, 0), (5, .aload_n 0, 6, 0, 0, 0), (6, .getfield 18, 9, 2, 1, 0), (9, .if_icmp .lt 4, 12, 13, 0, 0), (12, .return_, 13, 0, 0, 0), (13, .aload_n 0, 14, 0, 0, 0), (14, .getfield 11, 17, 2, 0, 1), (17, .iload_n 1, 18, 0, 0, 0), (18, .aaload, 19, 107, 0, 0), (19, .astore_n 2, 20, 0, 0, 0), (20, .iload_n 1, 21, 0, 0, 0), (21, .istore_n 3, 22, 0, 0, 0), (22, .iload_n 3, 23, 0, 0, 0), (23, .iconst 1, 24, 0, 0, 0), (24, .iadd, 25, 0, 0, 0), (25, .aload_n 0, 26, 0, 0, 0), (26, .getfield 18, 29, 2, 1, 0), (29, .if_icmp .ge 23, 32, 52, 0, 0), (32, .aload_n 0, 33, 0, 0, 0), (33, .getfield 11, 36, 2, 0, 1), (36, .iload_n 3, 37, 0, 0, 0), (37, .aload_n 0, 38, 0, 0, 0), (38, .getfield 11, 41, 2, 0, 1), (41, .iload_n 3, 42, 0, 0, 0), (42, .iconst 1, 43, 0, 0, 0), (43, .iadd, 44, 0, 0, 0), (44, .aaload, 45, 107, 0, 0), (45, .aastore, 46, 107, 5, 0), (46, .iinc 3 1, 49, 0, 0, 0), (49, .goto (-27), 52, 22, 13, 1), (52, .aload_n 0, 53, 0, 0, 0), (53, .getfield 11, 56, 2, 0, 1), (56, .aload_n 0, 57, 0, 0, 0), (57, .getfield 18, 60, 2, 1, 0), (60, .iconst 1, 61, 0, 0, 0), (61, .isub, 62, 0, 0, 0), (62, .aload_n 2, 63, 0, 0, 0), (63, .aastore, 64, 107, 5, 0), (64, .aload_n 0, 65, 0, 0, 0), (65, .dup, 66, 0, 0, 0), (66, .getfield 18, 69, 2, 1, 0), (69, .iconst 1, 70, 0, 0, 0), (70, .isub, 71, 0, 0, 0), (71, .putfield 18, 74, 2, 1, 0), (74, .return_, 75, 0, 0, 0)]
def t18 : List ag_I := [(0, .iconst 0, 1, 0, 0, 0), (1, .istore_n 1, 2, 0, 0, 0), (2, .iconst 0, 3, 0, 0, 0), (3, .istore_n 2, 4, 0, 0, 0), (4, .iload_n 2, 5, 0, 0, 0), (5, .aload_n 0, 6, 0, 0, 0), (6, .getfield 18, 9, 2, 1, 0), (9, .if_icmp .ge 24, 12, 33, 0, 0), (12, .iload_n 1, 13, 0, 0, 0), (13, .aload_n 0, 14, 0, 0, 0), (14, .getfield 11, 17, 2, 0, 1), (17, .iload_n 2, 18, 0, 0, 0), (18, .aaload, 19, 107, 0, 0), (19, .getfield 34, 22, 5, 0, 1), (22, .getfield 38, 25, 0, 3, 0), (25, .iadd, 26, 0, 0, 0), (26, .istore_n 1, 27, 0, 0, 0), (27, .iinc 2 1, 30, 0, 0, 0), (30, .goto (-26), 33, 4, 7, 1), (33, .iload_n 1, 34, 0, 0, 0), (34, .ireturn, 35, 0, 0, 0)]
def t19 : List ag_I := [(0, .aload_n 0, 1, 0, 0, 0), (1, .invokespecial 1, 4, 0, 0, 9), (4, .aload_n 0, 5, 0, 0, 0), (5, .new 7, 8, 0, 0, 0), (8, .dup, 9, 0, 0, 0), (9, .invokespecial 9, 12, 0, 0, 0), (12, .putfield 10, 15, 3, 0, 1), (15, .return_, 16, 0, 0, 0)]
def t20 : List ag_I := [(0, .aload_n 0, 1, 0, 0, 0), (1, .iconst 1, 2, 0, 0, 0), (2, .putfield 16, 5, 3, 1, 4), (5, .aload_n 0, 6, 0, 0, 0), (6, .iload_n 1, 7, 0, 0, 0), (7, .putfield 20, 10, 3, 3, 0), (10, .aload_n 0, 11, 0, 0, 0), (11, .iconst 0, 12, 0, 0, 0), (12, .putfield 24, 15, 3, 4, 0), (15, .aload_n 0, 16, 0, 0, 0), (16, .iconst 0, 17, 0, 0, 0), (17, .putfield 27, 20, 3, 5, 0), (20, .return_, 21, 0, 0, 0)]
def t21 : List ag_I := [(0, .aload_n 0, 1, 0, 0, 0), (1, .getfield 10, 4, 3, 0, 1), (4, .aload_n 0, 5, 0, 0, 0), (5, .getfield 24, 8, 3, 4, 0), (8, .invokevirtual 30, 11, 3, 1, 1), (11, .ireturn, 12, 0, 0, 0)]
def t22 : List ag_I := [(0, .aload_n 0, 1, 0, 0, 0), (1, .getfield 10, 4, 3, 0, 1), (4, .aload_n 0, 5, 0, 0, 0), (5, .getfield 24, 8, 3, 4, 0), (8, .invokevirtual 34, 11, 4, 1, 1), (11, .ireturn, 12, 0, 0, 0)]
def t23 : List ag_I := [(0, .aload_n 0, 1, 0, 0, 0), (1, .getfield 24, 4, 3, 4, 0), (4, .iconst 1, 5, 0, 0, 0), (5, .iadd, 6, 0, 0, 0), (6, .aload_n 0, 7, 0, 0, 0), (7, .getfield 10, 10, 3, 0, 1), (10, .getfield 37, 13, 0, 3, 0), (13, .if_icmp .lt 5, 16, 18, 0, 0), (16, .iconst 0, 17, 0, 0, 0), (17, .ireturn, 18, 0, 0, 0), (18, .aload_n 0, 19, 0, 0, 0), (19, .dup, 20, 0, 0, 0), (20, .getfield 24, 23, 3, 4, 0), (23, .iconst 1, 24, 0, 0, 0), (24, .iadd, 25, 0, 0, 0), (25, .putfield 24, 28, 3, 4, 0), (28, .aload_n 0, 29, 0, 0, 0), (29, .iconst 0, 30, 0, 0, 0), (30, .putfield 27, 33, 3, 5, 0), (33, .iconst 1, 34, 0, 0, 0), (34, .ireturn, 35, 0, 0, 0)]
def t24 : List ag_I := [(0, .aload_n 0, 1, 0, 0, 0), (1, .invokespecial 3, 4, 0, 0, 9), (4, .aload_n 0, 5, 0, 0, 0), (5, .bipush 12, 7, 0, 0, 0), (7, .newarray .char, 9, 101, 0, 0), (9, .putfield 9, 12, 4, 0, 1), (12, .return_, 13, 0, 0, 0)]
def t25 : List ag_I := [(0, .aload_n 0, 1, 0, 0, 0), (1, .iconst 0, 2, 0, 0, 0), (2, .putfield 15, 5, 4, 1, 0), (5, .aload_n 0, 6, 0, 0, 0), (6, .aload_n 1, 7, 0, 0, 0), (7, .getfield 19, 10, 8, 1, 0), (10, .ifCond .le 7, 13, 17, 0, 0), (13, .iconst 1, 14, 0, 0, 0), (14, .goto 4, 17, 18, 0, 0), (17, .iconst 0, 18, 0, 0, 0), (18, .putfield 24, 21, 4, 2, 4), (21, .aload_n 1, 22, 0, 0, 0), (22, .getfield 19, 25, 8, 1, 0), (25, .iconst 1, 26, 0, 0, 0), (26, .if_icmp .ne 17, 29, 43, 0, 0), (29, .aload_n 1, 30, 0, 0, 0), (30, .iconst 0, 31, 0, 0, 0), (31, .invokevirtual 28, 34, 58, 1, 81), (34, .bipush 47, 36, 0, 0, 0), (36, .if_icmp .ne 7, 39, 43, 0, 0), (39, .iconst 1, 40, 0, 0, 0), (40, .goto 4, 43, 44, 0, 0), (43, .iconst 0, 44, 0, 0, 0), (44, .istore_n 2, 45, 0, 0, 0), (45, .iload_n 2, 46, 0, 0, 0), (46, .ifCond .eq 7, 49, 53, 0, 0), (49, .iconst 1, 50, 0, 0, 0), (50, .goto 4, 53, 54, 0, 0), (53, .iconst 0, 54, 0, 0, 0), (54, .istore_n 3, 55, 0, 0, 0), (55, .aload_n 0, 56, 0, 0, 0), (56, .getfield 24, 59, 4, 2, 0), (59, .ifCond .eq 111, 62, 170, 0, 0), (62, .iload_n 3, 63, 0, 0, 0), (63, .aload_n 1, 64, 0, 0, 0), (64, .getfield 19, 67, 8, 1, 0), (67, .if_icmp .ge 103, 70, 170, 0, 0), (70, .aload_n 1, 71, 0, 0, 0), (71, .iload_n 3, 72, 0, 0, 0), (72, .iconst 1, 73, 0, 0, 0), (73, .iadd, 74, 0, 0, 0), (74, .invokevirtual 28, 77, 58, 1, 81), (77, .istore 4, 79, 0, 0, 0), (79, .aload_n 1, 80, 0, 0, 0), (80, .iload_n 3, 81, 0, 0, 0), (81, .invokevirtual 28, 84, 58, 1, 81), (84, .bipush 47, 86, 0, 0, 0), (86, .if_icmp .eq 11, 89, 97, 0, 0), (89, .aload_n 0, 90, 0, 0, 0), (90, .iconst 0, 91, 0, 0, 0), (91, .putfield 24, 94, 4, 2, 4), (94, .goto 73, 97, 167, 0, 0), (97, .iload 4, 99, 0, 0, 0), (99, .bipush 97, 101, 0, 0, 0), (101, .if_icmp .lt 22, 104, 123, 0, 0), (104, .iload 4, 106, 0, 0, 0), (106, .bipush 104, 108, 0, 0, 0), (108, .if_icmp .gt 15, 111, 123, 0, 0), (111, .aload_n 0, 112, 0, 0, 0), (112, .iload 4, 114, 0, 0, 0), (114, .invokevirtual 32, 117, 26, 1, 40), (117, .iinc 3 2, 120, 0, 0, 0), (120, .goto 47, 123, 167, 0, 0), (123, .iload 4, 125, 0, 0, 0), (125, .bipush 46, 127, 0, 0, 0), (127, .if_icmp .ne 35, 130, 162, 0, 0), (130, .aload_n 1, 131, 0, 0, 0), (131, .iload_n 3, 132, 0, 0, 0), (132, .iconst 2, 133, 0, 0, 0), (133, .iadd, 134, 0, 0, 0), (134, .invokevirtual 28, 137, 58, 1, 81), (137, .bipush 46, 139, 0, 0, 0), (139, .if_icmp .ne 23, 142, 162, 0, 0), (142, .aload_n 0, 143, 0, 0, 0), (143, .iconst 0, 144, 0, 0, 0), (144, .aload_n 0, 145, 0, 0, 0), (145, .getfield 15, 148, 4, 1, 0), (148, .iconst 1, 149, 0, 0, 0), (149, .isub, 150, 0, 0, 0), (150, .invokestatic 36, 153, 175, 2, 1), (153, .putfield 15, 156, 4, 1, 0), (156, .iinc 3 3, 159, 0, 0, 0), (159, .goto 8, 162, 167, 0, 0), (162, .aload_n 0, 163, 0, 0, 0), (163, .iconst 0, 164, 0, 0, 0), (164, .putfield 24, 167, 4, 2, 4), (167, .goto (-112), 170, 55, 11, 1), (170, .return_, 171, 0, 0, 0)]
def t26 : List ag_I := [(0, .aload_n 0, 1, 0, 0, 0), (1, .getfield 15, 4, 4, 1, 0), (4, .bipush 12, 6, 0, 0, 0), (6, .if_icmp .ge 23, 9, 29, 0, 0), (9, .aload_n 0, 10, 0, 0, 0), (10, .getfield 9, 13, 4, 0, 1), (13, .aload_n 0, 14, 0, 0, 0), (14, .getfield 15, 17, 4, 1, 0), (17, .iload_n 1, 18, 0, 0, 0), (18, .castore, 19, 0, 0, 0), (19, .aload_n 0, 20, 0, 0, 0), (20, .dup, 21, 0, 0, 0), (21, .getfield 15, 24, 4, 1, 0), (24, .iconst 1, 25, 0, 0, 0), (25, .iadd, 26, 0, 0, 0), (26, .putfield 15, 29, 4, 1, 0), (29, .return_, 30, 0, 0, 0)]
def t27 : List ag_I := [(0, .iload_n 1, 1, 0, 0, 0), (1, .ifCond .lt 26, 4, 27, 0, 0), (4, .iload_n 1, 5, 0, 0, 0), (5, .aload_n 0, 6, 0, 0, 0), (6, .getfield 15, 9, 4, 1, 0), (9, .if_icmp .ge 18, 12, 27, 0, 0), (12, .iload_n 1, 13, 0, 0, 0), (13, .bipush 12, 15, 0, 0, 0), (15, .if_icmp .ge 12, 18, 27, 0, 0), (18, .aload_n 0, 19, 0, 0, 0), (19, .getfield 9, 22, 4, 0, 1), (22, .iload_n 1, 23, 0, 0, 0), (23, .caload, 24, 0, 0, 0), (24, .goto 4, 27, 28, 0, 0), (27, .iconst 0, 28, 0, 0, 0), (28, .ireturn, 29, 0, 0, 0)]
def t28 : List ag_I := [(0, .aload_n 0, 1, 0, 0, 0), (1, .invokespecial 1, 4, 0, 0, 9), (4, .aload_n 0, 5, 0, 0, 0), (5, .new 7, 8, 0, 0, 0), (8, .dup, 9, 0, 0, 0), (9, .invokespecial 9, 12, 0, 0, 0), (12, .putfield 10, 15, 5, 0, 1), (15, .return_, 16, 0, 0, 0)]
def t29 : List ag_I := [(0, .aload_n 0, 1, 0, 0, 0), (1, .invokespecial 3, 4, 0, 0, 9), (4, .aload_n 0, 5, 0, 0, 0), (5, .iconst 5, 6, 0, 0, 0), (6, .anewarray 9, 9, 108, 0, 0), (9, .putfield 11, 12, 6, 0, 1), (12, .iconst 0, 13, 0, 0, 0), (13, .istore_n 1, 14, 0, 0, 0), (14, .iload_n 1, 15, 0, 0, 0), (15, .iconst 5, 16, 0, 0, 0), (16, .if_icmp .ge 22, 19, 38, 0, 0), (19, .aload_n 0, 20, 0, 0, 0), (20, .getfield 11, 23, 6, 0, 1), (23, .iload_n 1, 24, 0, 0, 0), (24, .new 9, 27, 3, 0, 0), (27, .dup, 28, 0, 0, 0), (28, .invokespecial 17, 31, 19, 0, 0), (31, .aastore, 32, 108, 3, 0), (32, .iinc 1 1, 35, 0, 0, 0), (35, .goto (-21), 38, 14, 3, 1), (38, .return_, 39, 0, 0, 0)]
def t30 : List ag_I := [(0, .aload_n 0, 1, 0, 0, 0), (1, .aload_n 1, 2, 0, 0, 0), (2, .putfield 18, 5, 6, 1, 1), (5, .aload_n 1, 6, 0, 0, 0), (6, .dup, 7, 0, 0, 0), (7, .getfield 22, 10, 2, 2, 0), (10, .iconst 1, 11, 0, 0, 0), (11, .iadd, 12, 0, 0, 0), (12, .putfield 22, 15, 2, 2, 0), (15, .return_, 16, 0, 0, 0)]
def t31 : List ag_I := [(0, .aload_n 0, 1, 0, 0, 0), (1, .getfield 18, 4, 6, 1, 1), (4, .ifnull 16, 7, 20, 0, 0), (7, .aload_n 0, 8, 0, 0, 0), (8, .getfield 18, 11, 6, 1, 1), (11, .dup, 12, 0, 0, 0), (12, .getfield 22, 15, 2, 2, 0), (15, .iconst 1, 16, 0, 0, 0), (16, .isub, 17, 0, 0, 0), (17, .putfield 22, 20, 2, 2, 0), (20, .aload_n 0, 21, 0, 0, 0), (21, .aconst_null, 22, 0, 0, 0), (22, .putfield 18, 25, 6, 1, 1), (25, .return_, 26, 0, 0, 0)]
def t32 : List ag_I := [(0, .iconst 0, 1, 0, 0, 0), (1, .istore_n 1, 2, 0, 0, 0), (2, .iload_n 1, 3, 0, 0, 0), (3, .iconst 5, 4, 0, 0, 0), (4, .if_icmp .ge 23, 7, 27, 0, 0), (7, .aload_n 0, 8, 0, 0, 0), (8, .getfield 11, 11, 6, 0, 1), (11, .iload_n 1, 12, 0, 0, 0), (12, .aaload, 13, 108, 0, 0), (13, .getfield 28, 16, 3, 1, 0), (16, .ifCond .ne 5, 19, 21, 0, 0), (19, .iload_n 1, 20, 0, 0, 0), (20, .ireturn, 21, 0, 0, 0), (21, .iinc 1 1, 24, 0, 0, 0), (24, .goto (-22), 27, 2, 3, 1), (27, .iconst (-1), 28, 0, 0, 0), (28, .ireturn, 29, 0, 0, 0)]
def t33 : List ag_I := [(0, .iconst 0, 1, 0, 0, 0), (1, .istore_n 1, 2, 0, 0, 0), (2, .iconst 0, 3, 0, 0, 0), (3, .istore_n 2, 4, 0, 0, 0), (4, .iload_n 2, 5, 0, 0, 0), (5, .iconst 5, 6, 0, 0, 0), (6, .if_icmp .ge 24, 9, 30, 0, 0), (9, .aload_n 0, 10, 0, 0, 0), (10, .getfield 11, 13, 6, 0, 1), (13, .iload_n 2, 14, 0, 0, 0), (14, .aaload, 15, 108, 0, 0), (15, .getfield 28, 18, 3, 1, 0), (18, .ifCond .eq 6, 21, 24, 0, 0), (21, .iinc 1 1, 24, 0, 0, 0), (24, .iinc 2 1, 27, 0, 0, 0), (27, .goto (-23), 30, 4, 7, 1), (30, .iload_n 1, 31, 0, 0, 0), (31, .ireturn, 32, 0, 0, 0)]
def t34 : List ag_I := [(0, .aload_n 0, 1, 0, 0, 0), (1, .invokespecial 3, 4, 0, 0, 9), (4, .aload_n 0, 5, 0, 0, 0), (5, .new 9, 8, 1, 0, 0), (8, .dup, 9, 0, 0, 0), (9, .invokespecial 11, 12, 7, 0, 0), (12, .putfield 12, 15, 7, 0, 1), (15, .aload_n 0, 16, 0, 0, 0), (16, .new 9, 19, 1, 0, 0), (19, .dup, 20, 0, 0, 0), (20, .invokespecial 11, 23, 7, 0, 0), (23, .putfield 18, 26, 7, 1, 1), (26, .aload_n 0, 27, 0, 0, 0), (27, .bipush 20, 29, 0, 0, 0), (29, .anewarray 21, 32, 106, 0, 0), (32, .putfield 23, 35, 7, 2, 1), (35, .aload_n 0, 36, 0, 0, 0), (36, .sipush 128, 39, 0, 0, 0), (39, .anewarray 21, 42, 106, 0, 0), (42, .putfield 27, 45, 7, 3, 1), (45, .aload_n 0, 46, 0, 0, 0), (46, .iconst 1, 47, 0, 0, 0), (47, .putfield 30, 50, 7, 4, 0), (50, .aload_n 0, 51, 0, 0, 0), (51, .iconst 1, 52, 0, 0, 0), (52, .putfield 34, 55, 7, 5, 0), (55, .aload_n 0, 56, 0, 0, 0), (56, .getfield 23, 59, 7, 2, 1), (59, .iconst 0, 60, 0, 0, 0), (60, .new 21, 63, 9, 0, 0), (63, .dup, 64, 0, 0, 0), (64, .iconst 0, 65, 0, 0, 0), (65, .iconst (-1), 66, 0, 0, 0), (66, .iconst 0, 67, 0, 0, 0), (67, .iconst 1, 68, 0, 0, 0), (68, .invokespecial 37, 71, 60, 4, 0), (71, .aastore, 72, 106, 9, 0), (72, .aload_n 0, 73, 0, 0, 0), (73, .iconst 0, 74, 0, 0, 0), (74, .invokevirtual 40, 77, 37, 1, 70), (77, .return_, 78, 0, 0, 0)]
def t35 : List ag_I := [(0, .iconst 0, 1, 0, 0, 0), (1, .istore_n 1, 2, 0, 0, 0), (2, .iload_n 1, 3, 0, 0, 0), (3, .sipush 128, 6, 0, 0, 0), (6, .if_icmp .ge 20, 9, 26, 0, 0), (9, .aload_n 0, 10, 0, 0, 0), (10, .getfield 27, 13, 7, 3, 1), (13, .iload_n 1, 14, 0, 0, 0), (14, .aaload, 15, 106, 0, 0), (15, .ifnonnull 5, 18, 20, 0, 0), (18, .iload_n 1, 19, 0, 0, 0), (19, .ireturn, 20, 0, 0, 0), (20, .iinc 1 1, 23, 0, 0, 0), (23, .goto (-21), 26, 2, 3, 1), (26, .iconst (-1), 27, 0, 0, 0), (27, .ireturn, 28, 0, 0, 0)]
def t36 : List ag_I := [(0, .iconst 0, 1, 0, 0, 0), (1, .istore_n 1, 2, 0, 0, 0), (2, .iconst 0, 3, 0, 0, 0), (3, .istore_n 2, 4, 0, 0, 0), (4, .iload_n 2, 5, 0, 0, 0), (5, .sipush 128, 8, 0, 0, 0), (8, .if_icmp .ge 21, 11, 29, 0, 0), (11, .aload_n 0, 12, 0, 0, 0), (12, .getfield 27, 15, 7, 3, 1), (15, .iload_n 2, 16, 0, 0, 0), (16, .aaload, 17, 106, 0, 0), (17, .ifnull 6, 20, 23, 0, 0), (20, .iinc 1 1, 23, 0, 0, 0), (23, .iinc 2 1, 26, 0, 0, 0), (26, .goto (-22), 29, 4, 7, 1), (29, .iload_n 1, 30, 0, 0, 0), (30, .ireturn, 31, 0, 0, 0)]
def t37 : List ag_I := [(0, .aload_n 0, 1, 0, 0, 0), (1, .bipush 104, 3, 0, 0, 0), (3, .iload_n 1, 4, 0, 0, 0), (4, .invokevirtual 44, 7, 47, 2, 70), (7, .aload_n 0, 8, 0, 0, 0), (8, .iload_n 1, 9, 0, 0, 0), (9, .aload_n 0, 10, 0, 0, 0), (10, .getfield 23, 13, 7, 2, 1), (13, .iconst 0, 14, 0, 0, 0), (14, .aaload, 15, 106, 0, 0), (15, .invokevirtual 48, 18, 52, 2, 70), (18, .aload_n 0, 19, 0, 0, 0), (19, .bipush 104, 21, 0, 0, 0), (21, .aload_n 0, 22, 0, 0, 0), (22, .getfield 23, 25, 7, 2, 1), (25, .iconst 0, 26, 0, 0, 0), (26, .aaload, 27, 106, 0, 0), (27, .invokevirtual 52, 30, 49, 2, 71), (30, .pop, 31, 0, 0, 0), (31, .return_, 32, 0, 0, 0)]
def t38 : List ag_I := [(0, .aload_n 0, 1, 0, 0, 0), (1, .invokevirtual 56, 4, 35, 0, 71), (4, .istore_n 2, 5, 0, 0, 0), (5, .aload_n 0, 6, 0, 0, 0), (6, .bipush 110, 8, 0, 0, 0), (8, .iload_n 1, 9, 0, 0, 0), (9, .invokevirtual 44, 12, 47, 2, 70), (12, .aload_n 0, 13, 0, 0, 0), (13, .getfield 12, 16, 7, 0, 1), (16, .iload_n 2, 17, 0, 0, 0), (17, .iconst 4, 18, 0, 0, 0), (18, .invokevirtual 60, 21, 9, 2, 10), (21, .aload_n 0, 22, 0, 0, 0), (22, .getfield 12, 25, 7, 0, 1), (25, .iconst 0, 26, 0, 0, 0), (26, .iconst 2, 27, 0, 0, 0), (27, .invokevirtual 60, 30, 9, 2, 10), (30, .aload_n 0, 31, 0, 0, 0), (31, .iload_n 2, 32, 0, 0, 0), (32, .aload_n 0, 33, 0, 0, 0), (33, .iload_n 1, 34, 0, 0, 0), (34, .invokevirtual 63, 37, 51, 1, 72), (37, .invokevirtual 48, 40, 52, 2, 70), (40, .aload_n 0, 41, 0, 0, 0), (41, .bipush 110, 43, 0, 0, 0), (43, .invokevirtual 67, 46, 48, 1, 71), (46, .pop, 47, 0, 0, 0), (47, .iload_n 2, 48, 0, 0, 0), (48, .ireturn, 49, 0, 0, 0)]
def t39 : List ag_I := [(0, .aload_n 0, 1, 0, 0, 0), (1, .bipush 110, 3, 0, 0, 0), (3, .iload_n 1, 4, 0, 0, 0), (4, .invokevirtual 44, 7, 47, 2, 70), (7, .aload_n 0, 8, 0, 0, 0), (8, .getfield 12, 11, 7, 0, 1), (11, .iload_n 2, 12, 0, 0, 0), (12, .iconst 4, 13, 0, 0, 0), (13, .invokevirtual 60, 16, 9, 2, 10), (16, .aload_n 0, 17, 0, 0, 0), (17, .getfield 12, 20, 7, 0, 1), (20, .iconst 1, 21, 0, 0, 0), (21, .iconst 2, 22, 0, 0, 0), (22, .invokevirtual 60, 25, 9, 2, 10), (25, .aload_n 0, 26, 0, 0, 0), (26, .getfield 12, 29, 7, 0, 1), (29, .iconst 1, 30, 0, 0, 0), (30, .iconst 2, 31, 0, 0, 0), (31, .invokevirtual 60, 34, 9, 2, 10), (34, .aload_n 0, 35, 0, 0, 0), (35, .getfield 12, 38, 7, 0, 1), (38, .iload_n 3, 39, 0, 0, 0), (39, .iconst 1, 40, 0, 0, 0), (40, .invokevirtual 60, 43, 9, 2, 10), (43, .aload_n 0, 44, 0, 0, 0), (44, .iload_n 1, 45, 0, 0, 0), (45, .invokevirtual 63, 48, 51, 1, 72), (48, .astore 4, 50, 0, 0, 0), (50, .aload 4, 52, 0, 0, 0), (52, .ifnull 11, 55, 63, 0, 0), (55, .aload 4, 57, 0, 0, 0), (57, .getfield 71, 60, 9, 7, 0), (60, .ifCond .eq 10, 63, 70, 0, 0), (63, .aload_n 0, 64, 0, 0, 0), (64, .bipush 110, 66, 0, 0, 0), (66, .invokevirtual 75, 69, 50, 1, 71), (69, .ireturn, 70, 0, 0, 0), (70, .aload 4, 72, 0, 0, 0), (72, .getfield 79, 75, 9, 3, 0), (75, .ifCond .ne 10, 78, 85, 0, 0), (78, .aload_n 0, 79, 0, 0, 0), (79, .bipush 100, 81, 0, 0, 0), (81, .invokevirtual 75, 84, 50, 1, 71), (84, .ireturn, 85, 0, 0, 0), (85, .aload_n 0, 86, 0, 0, 0), (86, .aload 4, 88, 0, 0, 0), (88, .iload_n 3, 89, 0, 0, 0), (89, .invokevirtual 82, 92, 53, 2, 72), (92, .astore 5, 94, 0, 0, 0), (94, .aload 5, 96, 0, 0, 0), (96, .ifnonnull 10, 99, 106, 0, 0), (99, .aload_n 0, 100, 0, 0, 0), (100, .bipush 110, 102, 0, 0, 0), (102, .invokevirtual 75, 105, 50, 1, 71), (105, .ireturn, 106, 0, 0, 0), (106, .aload_n 0, 107, 0, 0, 0), (107, .iload_n 2, 108, 0, 0, 0), (108, .aload 5, 110, 0, 0, 0), (110, .invokevirtual 48, 113, 52, 2, 70), (113, .aload_n 0, 114, 0, 0, 0), (114, .bipush 110, 116, 0, 0, 0), (116, .aload 5, 118, 0, 0, 0), (118, .invokevirtual 52, 121, 49, 2, 71), (121, .ireturn, 122, 0, 0, 0)]
def t40 : List ag_I := [(0, .aload_n 0, 1, 0, 0, 0), (1, .bipush 112, 3, 0, 0, 0), (3, .iload_n 1, 4, 0, 0, 0), (4, .invokevirtual 44, 7, 47, 2, 70), (7, .aload_n 0, 8, 0, 0, 0), (8, .getfield 12, 11, 7, 0, 1), (11, .iload_n 2, 12, 0, 0, 0), (12, .iconst 1, 13, 0, 0, 0), (13, .invokevirtual 60, 16, 9, 2, 10), (16, .aload_n 0, 17, 0, 0, 0), (17, .iload_n 1, 18, 0, 0, 0), (18, .invokevirtual 63, 21, 51, 1, 72), (21, .astore_n 3, 22, 0, 0, 0), (22, .aload_n 3, 23, 0, 0, 0), (23, .ifnull 10, 26, 33, 0, 0), (26, .aload_n 3, 27, 0, 0, 0), (27, .getfield 71, 30, 9, 7, 0), (30, .ifCond .eq 10, 33, 40, 0, 0), (33, .aload_n 0, 34, 0, 0, 0), (34, .bipush 110, 36, 0, 0, 0), (36, .invokevirtual 75, 39, 50, 1, 71), (39, .ireturn, 40, 0, 0, 0), (40, .aload_n 3, 41, 0, 0, 0), (41, .getfield 79, 44, 9, 3, 0), (44, .ifCond .eq 14, 47, 58, 0, 0), (47, .iload_n 2, 48, 0, 0, 0), (48, .ifCond .eq 10, 51, 58, 0, 0), (51, .aload_n 0, 52, 0, 0, 0), (52, .bipush 112, 54, 0, 0, 0), (54, .invokevirtual 75, 57, 50, 1, 71), (57, .ireturn, 58, 0, 0, 0), (58, .aload_n 0, 59, 0, 0, 0), (59, .bipush 112, 61, 0, 0, 0), (61, .aload_n 3, 62, 0, 0, 0), (62, .invokevirtual 52, 65, 49, 2, 71), (65, .ireturn, 66, 0, 0, 0)]
def t41 : List ag_I := [(0, .aload_n 0, 1, 0, 0, 0), (1, .bipush 114, 3, 0, 0, 0), (3, .iload_n 1, 4, 0, 0, 0), (4, .invokevirtual 44, 7, 47, 2, 70), (7, .aload_n 0, 8, 0, 0, 0), (8, .getfield 12, 11, 7, 0, 1), (11, .iconst 1, 12, 0, 0, 0), (12, .iconst 2, 13, 0, 0, 0), (13, .invokevirtual 60, 16, 9, 2, 10), (16, .aload_n 0, 17, 0, 0, 0), (17, .getfield 12, 20, 7, 0, 1), (20, .iload_n 2, 21, 0, 0, 0), (21, .iconst 1, 22, 0, 0, 0), (22, .invokevirtual 60, 25, 9, 2, 10), (25, .aload_n 0, 26, 0, 0, 0), (26, .getfield 12, 29, 7, 0, 1), (29, .iload_n 3, 30, 0, 0, 0), (30, .ifCond .eq 7, 33, 37, 0, 0), (33, .iconst 1, 34, 0, 0, 0), (34, .goto 4, 37, 38, 0, 0), (37, .iconst 0, 38, 0, 0, 0), (38, .iconst 1, 39, 0, 0, 0), (39, .invokevirtual 60, 42, 9, 2, 10), (42, .aload_n 0, 43, 0, 0, 0), (43, .iload_n 1, 44, 0, 0, 0), (44, .invokevirtual 63, 47, 51, 1, 72), (47, .astore 4, 49, 0, 0, 0), (49, .aload 4, 51, 0, 0, 0), (51, .ifnull 11, 54, 62, 0, 0), (54, .aload 4, 56, 0, 0, 0), (56, .getfield 71, 59, 9, 7, 0), (59, .ifCond .eq 10, 62, 69, 0, 0), (62, .aload_n 0, 63, 0, 0, 0), (63, .bipush 110, 65, 0, 0, 0), (65, .invokevirtual 75, 68, 50, 1, 71), (68, .ireturn, 69, 0, 0, 0), (69, .aload 4, 71, 0, 0, 0), (71, .getfield 79, 74, 9, 3, 0), (74, .ifCond .ne 10, 77, 84, 0, 0), (77, .aload_n 0, 78, 0, 0, 0), (78, .bipush 100, 80, 0, 0, 0), (80, .invokevirtual 75, 83, 50, 1, 71), (83, .ireturn, 84, 0, 0, 0), (84, .aload_n 0, 85, 0, 0, 0), (85, .aload 4, 87, 0, 0, 0), (87, .iload_n 2, 88, 0, 0, 0), (88, .invokevirtual 82, 91, 53, 2, 72), (91, .ifnull 10, 94, 101, 0, 0), (94, .aload_n 0, 95, 0, 0, 0), (95, .bipush 120, 97, 0, 0, 0), (97, .invokevirtual 75, 100, 50, 1, 71), (100, .ireturn, 101, 0, 0, 0), (101, .aload_n 0, 102, 0, 0, 0), (102, .getfield 30, 105, 7, 4, 0), (105, .bipush 20, 107, 0, 0, 0), (107, .if_icmp .lt 10, 110, 117, 0, 0), (110, .aload_n 0, 111, 0, 0, 0), (111, .bipush 102, 113, 0, 0, 0), (113, .invokevirtual 75, 116, 50, 1, 71), (116, .ireturn, 117, 0, 0, 0), (117, .new 21, 120, 9, 0, 0), (120, .dup, 121, 0, 0, 0), (121, .aload_n 0, 122, 0, 0, 0), (122, .getfield 34, 125, 7, 5, 0), (125, .aload 4, 127, 0, 0, 0), (127, .getfield 86, 130, 9, 0, 0), (130, .iload_n 2, 131, 0, 0, 0), (131, .iload_n 3, 132, 0, 0, 0), (132, .invokespecial 37, 135, 60, 4, 0), (135, .astore 5, 137, 0, 0, 0), (137, .aload_n 0, 138, 0, 0, 0), (138, .getfield 23, 141, 7, 2, 1), (141, .aload_n 0, 142, 0, 0, 0), (142, .getfield 30, 145, 7, 4, 0), (145, .aload 5, 147, 0, 0, 0), (147, .aastore, 148, 106, 9, 0), (148, .aload_n 0, 149, 0, 0, 0), (149, .dup, 150, 0, 0, 0), (150, .getfield 30, 153, 7, 4, 0), (153, .iconst 1, 154, 0, 0, 0), (154, .iadd, 155, 0, 0, 0), (155, .putfield 30, 158, 7, 4, 0), (158, .aload_n 0, 159, 0, 0, 0), (159, .dup, 160, 0, 0, 0), (160, .getfield 34, 163, 7, 5, 0), (163, .iconst 1, 164, 0, 0, 0), (164, .iadd, 165, 0, 0, 0), (165, .putfield 34, 168, 7, 5, 0), (168, .aload_n 0, 169, 0, 0, 0), (169, .iload_n 1, 170, 0, 0, 0), (170, .aload 5, 172, 0, 0, 0), (172, .invokevirtual 48, 175, 52, 2, 70), (175, .aload_n 0, 176, 0, 0, 0), (176, .bipush 114, 178, 0, 0, 0), (178, .aload 5, 180, 0, 0, 0), (180, .invokevirtual 52, 183, 49, 2, 71), (183, .ireturn, 184, 0, 0, 0)]
def t42 : List ag_I := [(0, .aload_n 0, 1, 0, 0, 0), (1, .bipush 116, 3, 0, 0, 0), (3, .iload_n 1, 4, 0, 0, 0), (4, .invokevirtual 44, 7, 47, 2, 70), (7, .aload_n 0, 8, 0, 0, 0), (8, .getfield 12, 11, 7, 0, 1), (11, .iload_n 2, 12, 0, 0, 0), (12, .iconst 4, 13, 0, 0, 0), (13, .invokevirtual 60, 16, 9, 2, 10), (16, .aload_n 0, 17, 0, 0, 0), (17, .iload_n 1, 18, 0, 0, 0), (18, .invokevirtual 63, 21, 51, 1, 72), (21, .astore_n 3, 22, 0, 0, 0), (22, .aload_n 3, 23, 0, 0, 0), (23, .ifnull 10, 26, 33, 0, 0), (26, .aload_n 3, 27, 0, 0, 0), (27, .getfield 71, 30, 9, 7, 0), (30, .ifCond .eq 10, 33, 40, 0, 0), (33, .aload_n 0, 34, 0, 0, 0), (34, .bipush 110, 36, 0, 0, 0), (36, .invokevirtual 75, 39, 50, 1, 71), (39, .ireturn, 40, 0, 0, 0), (40, .aload_n 3, 41, 0, 0, 0), (41, .getfield 79, 44, 9, 3, 0), (44, .ifCond .eq 12, 47, 56, 0, 0), (47, .aload_n 0, 48, 0, 0, 0), (48, .aload_n 3, 49, 0, 0, 0), (49, .iload_n 2, 50, 0, 0, 0), (50, .invokevirtual 89, 53, 54, 2, 71), (53, .goto 8, 56, 61, 0, 0), (56, .aload_n 3, 57, 0, 0, 0), (57, .iload_n 2, 58, 0, 0, 0), (58, .invokevirtual 93, 61, 61, 1, 91), (61, .istore 4, 63, 0, 0, 0), (63, .aload_n 0, 64, 0, 0, 0), (64, .bipush 116, 66, 0, 0, 0), (66, .invokevirtual 67, 69, 48, 1, 71), (69, .pop, 70, 0, 0, 0), (70, .aload_n 0, 71, 0, 0, 0), (71, .getfield 18, 74, 7, 1, 1), (74, .iload 4, 76, 0, 0, 0), (76, .iconst (-1), 77, 0, 0, 0), (77, .if_icmp .ne 7, 80, 84, 0, 0), (80, .iconst 0, 81, 0, 0, 0), (81, .goto 4, 84, 85, 0, 0), (84, .iconst 1, 85, 0, 0, 0), (85, .iconst 2, 86, 0, 0, 0), (86, .invokevirtual 60, 89, 9, 2, 10), (89, .iload 4, 91, 0, 0, 0), (91, .iconst (-1), 92, 0, 0, 0), (92, .if_icmp .eq 13, 95, 105, 0, 0), (95, .aload_n 0, 96, 0, 0, 0), (96, .getfield 18, 99, 7, 1, 1), (99, .iload 4, 101, 0, 0, 0), (101, .iconst 1, 102, 0, 0, 0), (102, .invokevirtual 60, 105, 9, 2, 10), (105, .iconst 0, 106, 0, 0, 0), (106, .ireturn, 107, 0, 0, 0)]
def t43 : List ag_I := [(0, .aload_n 0, 1, 0, 0, 0), (1, .bipush 118, 3, 0, 0, 0), (3, .iload_n 1, 4, 0, 0, 0), (4, .invokevirtual 44, 7, 47, 2, 70), (7, .aload_n 0, 8, 0, 0, 0), (8, .getfield 12, 11, 7, 0, 1), (11, .iload_n 2, 12, 0, 0, 0), (12, .iconst 4, 13, 0, 0, 0), (13, .invokevirtual 60, 16, 9, 2, 10), (16, .aload_n 0, 17, 0, 0, 0), (17, .getfield 12, 20, 7, 0, 1), (20, .iload_n 3, 21, 0, 0, 0), (21, .iconst 1, 22, 0, 0, 0), (22, .invokevirtual 60, 25, 9, 2, 10), (25, .aload_n 0, 26, 0, 0, 0), (26, .iload_n 1, 27, 0, 0, 0), (27, .invokevirtual 63, 30, 51, 1, 72), (30, .astore 4, 32, 0, 0, 0), (32, .aload 4, 34, 0, 0, 0), (34, .ifnull 11, 37, 45, 0, 0), (37, .aload 4, 39, 0, 0, 0), (39, .getfield 71, 42, 9, 7, 0), (42, .ifCond .eq 10, 45, 52, 0, 0), (45, .aload_n 0, 46, 0, 0, 0), (46, .bipush 110, 48, 0, 0, 0), (48, .invokevirtual 75, 51, 50, 1, 71), (51, .ireturn, 52, 0, 0, 0), (52, .iload_n 2, 53, 0, 0, 0), (53, .ifCond .lt 13, 56, 66, 0, 0), (56, .iload_n 2, 57, 0, 0, 0), (57, .aload 4, 59, 0, 0, 0), (59, .getfield 97, 62, 9, 4, 1), (62, .arraylength, 63, 100, 0, 0), (63, .if_icmp .lt 10, 66, 73, 0, 0), (66, .aload_n 0, 67, 0, 0, 0), (67, .bipush 102, 69, 0, 0, 0), (69, .invokevirtual 75, 72, 50, 1, 71), (72, .ireturn, 73, 0, 0, 0), (73, .aload 4, 75, 0, 0, 0), (75, .getfield 97, 78, 9, 4, 1), (78, .iload_n 2, 79, 0, 0, 0), (79, .iload_n 3, 80, 0, 0, 0), (80, .iastore, 81, 0, 0, 0), (81, .aload 4, 83, 0, 0, 0), (83, .aload 4, 85, 0, 0, 0), (85, .getfield 101, 88, 9, 5, 0), (88, .iload_n 2, 89, 0, 0, 0), (89, .iconst 1, 90, 0, 0, 0), (90, .iadd, 91, 0, 0, 0), (91, .invokestatic 104, 94, 175, 2, 1), (94, .putfield 101, 97, 9, 5, 0), (97, .aload 4, 99, 0, 0, 0), (99, .dup, 100, 0, 0, 0), (100, .getfield 110, 103, 9, 6, 0), (103, .iconst 1, 104, 0, 0, 0), (104, .iadd, 105, 0, 0, 0), (105, .putfield 110, 108, 9, 6, 0), (108, .aload_n 0, 109, 0, 0, 0), (109, .bipush 118, 111, 0, 0, 0), (111, .invokevirtual 67, 114, 48, 1, 71), (114, .pop, 115, 0, 0, 0), (115, .aload_n 0, 116, 0, 0, 0), (116, .getfield 18, 119, 7, 1, 1), (119, .aload 4, 121, 0, 0, 0), (121, .getfield 101, 124, 9, 5, 0), (124, .iconst 4, 125, 0, 0, 0), (125, .invokevirtual 60, 128, 9, 2, 10), (128, .iconst 0, 129, 0, 0, 0), (129, .ireturn, 130, 0, 0, 0)]
def t44 : List ag_I := [(0, .aload_n 0, 1, 0, 0, 0), (1, .bipush 120, 3, 0, 0, 0), (3, .iload_n 1, 4, 0, 0, 0), (4, .invokevirtual 44, 7, 47, 2, 70), (7, .aload_n 0, 8, 0, 0, 0), (8, .iload_n 1, 9, 0, 0, 0), (9, .aconst_null, 10, 0, 0, 0), (10, .invokevirtual 48, 13, 52, 2, 70), (13, .aload_n 0, 14, 0, 0, 0), (14, .bipush 120, 16, 0, 0, 0), (16, .invokevirtual 67, 19, 48, 1, 71), (19, .pop, 20, 0, 0, 0), (20, .return_, 21, 0, 0, 0)]
def t45 : List ag_I := [(0, .aload_n 0, 1, 0, 0, 0), (1, .bipush 122, 3, 0, 0, 0), (3, .iload_n 1, 4, 0, 0, 0), (4, .invokevirtual 44, 7, 47, 2, 70), (7, .aload_n 0, 8, 0, 0, 0), (8, .iload_n 1, 9, 0, 0, 0), (9, .invokevirtual 63, 12, 51, 1, 72), (12, .astore_n 2, 13, 0, 0, 0), (13, .aload_n 0, 14, 0, 0, 0), (14, .iload_n 1, 15, 0, 0, 0), (15, .aconst_null, 16, 0, 0, 0), (16, .invokevirtual 48, 19, 52, 2, 70), (19, .aload_n 2, 20, 0, 0, 0), (20, .ifnull 10, 23, 30, 0, 0), (23, .aload_n 2, 24, 0, 0, 0), (24, .getfield 71, 27, 9, 7, 0), (27, .ifCond .eq 10, 30, 37, 0, 0), (30, .aload_n 0, 31, 0, 0, 0), (31, .bipush 110, 33, 0, 0, 0), (33, .invokevirtual 75, 36, 50, 1, 71), (36, .ireturn, 37, 0, 0, 0), (37, .aload_n 2, 38, 0, 0, 0), (38, .getfield 86, 41, 9, 0, 0), (41, .ifCond .eq 13, 44, 54, 0, 0), (44, .aload_n 0, 45, 0, 0, 0), (45, .aload_n 2, 46, 0, 0, 0), (46, .iconst 0, 47, 0, 0, 0), (47, .invokevirtual 89, 50, 54, 2, 71), (50, .iconst (-1), 51, 0, 0, 0), (51, .if_icmp .eq 10, 54, 61, 0, 0), (54, .aload_n 0, 55, 0, 0, 0), (55, .bipush 112, 57, 0, 0, 0), (57, .invokevirtual 75, 60, 50, 1, 71), (60, .ireturn, 61, 0, 0, 0), (61, .aload_n 2, 62, 0, 0, 0), (62, .iconst 1, 63, 0, 0, 0), (63, .putfield 71, 66, 9, 7, 4), (66, .aload_n 0, 67, 0, 0, 0), (67, .aload_n 2, 68, 0, 0, 0), (68, .getfield 86, 71, 9, 0, 0), (71, .invokevirtual 113, 74, 55, 1, 70), (74, .aload_n 0, 75, 0, 0, 0), (75, .bipush 122, 77, 0, 0, 0), (77, .invokevirtual 67, 80, 48, 1, 71), (80, .ireturn, 81, 0, 0, 0)]
def t46 : List ag_I := [(0, .aload_n 0, 1, 0, 0, 0), (1, .bipush 124, 3, 0, 0, 0), (3, .iload_n 1, 4, 0, 0, 0), (4, .invokevirtual 44, 7, 47, 2, 70), (7, .aload_n 0, 8, 0, 0, 0), (8, .iload_n 1, 9, 0, 0, 0), (9, .invokevirtual 63, 12, 51, 1, 72), (12, .astore_n 2, 13, 0, 0, 0), (13, .aload_n 2, 14, 0, 0, 0), (14, .ifnull 10, 17, 24, 0, 0), (17, .aload_n 2, 18, 0, 0, 0), (18, .getfield 71, 21, 9, 7, 0), (21, .ifCond .eq 10, 24, 31, 0, 0), (24, .aload_n 0, 25, 0, 0, 0), (25, .bipush 110, 27, 0, 0, 0), (27, .invokevirtual 75, 30, 50, 1, 71), (30, .ireturn, 31, 0, 0, 0), (31, .aload_n 0, 32, 0, 0, 0), (32, .bipush 124, 34, 0, 0, 0), (34, .aload_n 2, 35, 0, 0, 0), (35, .invokevirtual 52, 38, 49, 2, 71), (38, .ireturn, 39, 0, 0, 0)]
def t47 : List ag_I := [(0, .aload_n 0, 1, 0, 0, 0), (1, .getfield 12, 4, 7, 0, 1), (4, .iload_n 1, 5, 0, 0, 0), (5, .invokevirtual 116, 8, 8, 1, 10), (8, .aload_n 0, 9, 0, 0, 0), (9, .getfield 12, 12, 7, 0, 1), (12, .iload_n 2, 13, 0, 0, 0), (13, .iconst 4, 14, 0, 0, 0), (14, .invokevirtual 60, 17, 9, 2, 10), (17, .return_, 18, 0, 0, 0)]
def t48 : List ag_I := [(0, .aload_n 0, 1, 0, 0, 0), (1, .getfield 18, 4, 7, 1, 1), (4, .iload_n 1, 5, 0, 0, 0), (5, .iconst 1, 6, 0, 0, 0), (6, .iadd, 7, 0, 0, 0), (7, .invokevirtual 116, 10, 8, 1, 10), (10, .iconst 0, 11, 0, 0, 0), (11, .ireturn, 12, 0, 0, 0)]
def t49 : List ag_I := [(0, .aload_n 0, 1, 0, 0, 0), (1, .getfield 18, 4, 7, 1, 1), (4, .iload_n 1, 5, 0, 0, 0), (5, .iconst 1, 6, 0, 0, 0), (6, .iadd, 7, 0, 0, 0), (7, .invokevirtual 116, 10, 8, 1, 10), (10, .aload_n 0, 11, 0, 0, 0), (11, .getfield 18, 14, 7, 1, 1), (14, .aload_n 2, 15, 0, 0, 0), (15, .getfield 79, 18, 9, 3, 0), (18, .ifCond .eq 7, 21, 25, 0, 0), (21, .iconst 1, 22, 0, 0, 0), (22, .goto 4, 25, 26, 0, 0), (25, .iconst 0, 26, 0, 0, 0), (26, .iconst 1, 27, 0, 0, 0), (27, .invokevirtual 60, 30, 9, 2, 10), (30, .aload_n 0, 31, 0, 0, 0), (31, .getfield 18, 34, 7, 1, 1), (34, .aload_n 2, 35, 0, 0, 0), (35, .getfield 110, 38, 9, 6, 0), (38, .iconst 4, 39, 0, 0, 0), (39, .invokevirtual 60, 42, 9, 2, 10), (42, .aload_n 0, 43, 0, 0, 0), (43, .getfield 18, 46, 7, 1, 1), (46, .aload_n 2, 47, 0, 0, 0), (47, .getfield 86, 50, 9, 0, 0), (50, .iconst 4, 51, 0, 0, 0), (51, .invokevirtual 60, 54, 9, 2, 10), (54, .iconst 0, 55, 0, 0, 0), (55, .ireturn, 56, 0, 0, 0)]
def t50 : List ag_I := [(0, .aload_n 0, 1, 0, 0, 0), (1, .getfield 18, 4, 7, 1, 1), (4, .bipush 107, 6, 0, 0, 0), (6, .invokevirtual 116, 9, 8, 1, 10), (9, .aload_n 0, 10, 0, 0, 0), (10, .getfield 18, 13, 7, 1, 1), (13, .iconst 1, 14, 0, 0, 0), (14, .iconst 2, 15, 0, 0, 0), (15, .invokevirtual 60, 18, 9, 2, 10), (18, .aload_n 0, 19, 0, 0, 0), (19, .getfield 18, 22, 7, 1, 1), (22, .iload_n 1, 23, 0, 0, 0), (23, .iconst 1, 24, 0, 0, 0), (24, .invokevirtual 60, 27, 9, 2, 10), (27, .iload_n 1, 28, 0, 0, 0), (28, .ireturn, 29, 0, 0, 0)]
def t51 : List ag_I := [(0, .iload_n 1, 1, 0, 0, 0), (1, .ifCond .lt 19, 4, 20, 0, 0), (4, .iload_n 1, 5, 0, 0, 0), (5, .sipush 128, 8, 0, 0, 0), (8, .if_icmp .ge 12, 11, 20, 0, 0), (11, .aload_n 0, 12, 0, 0, 0), (12, .getfield 27, 15, 7, 3, 1), (15, .iload_n 1, 16, 0, 0, 0), (16, .aaload, 17, 106, 0, 0), (17, .goto 4, 20, 21, 0, 0), (20, .aconst_null, 21, 0, 0, 0), (21, .areturn, 22, 0, 0, 0)]
def t52 : List ag_I := [(0, .iload_n 1, 1, 0, 0, 0), (1, .ifCond .lt 17, 4, 18, 0, 0), (4, .iload_n 1, 5, 0, 0, 0), (5, .sipush 128, 8, 0, 0, 0), (8, .if_icmp .ge 10, 11, 18, 0, 0), (11, .aload_n 0, 12, 0, 0, 0), (12, .getfield 27, 15, 7, 3, 1), (15, .iload_n 1, 16, 0, 0, 0), (16, .aload_n 2, 17, 0, 0, 0), (17, .aastore, 18, 106, 9, 0), (18, .return_, 19, 0, 0, 0)]
def t53 : List ag_I := [(0, .iconst 0, 1, 0, 0, 0), (1, .istore_n 3, 2, 0, 0, 0), (2, .iload_n 3, 3, 0, 0, 0), (3, .aload_n 0, 4, 0, 0, 0), (4, .getfield 30, 7, 7, 4, 0), (7, .if_icmp .ge 45, 10, 52, 0, 0), (10, .aload_n 0, 11, 0, 0, 0), (11, .getfield 23, 14, 7, 2, 1), (14, .iload_n 3, 15, 0, 0, 0), (15, .aaload, 16, 106, 0, 0), (16, .getfield 119, 19, 9, 1, 0), (19, .aload_n 1, 20, 0, 0, 0), (20, .getfield 86, 23, 9, 0, 0), (23, .if_icmp .ne 23, 26, 46, 0, 0), (26, .aload_n 0, 27, 0, 0, 0), (27, .getfield 23, 30, 7, 2, 1), (30, .iload_n 3, 31, 0, 0, 0), (31, .aaload, 32, 106, 0, 0), (32, .getfield 122, 35, 9, 2, 0), (35, .iload_n 2, 36, 0, 0, 0), (36, .if_icmp .ne 10, 39, 46, 0, 0), (39, .aload_n 0, 40, 0, 0, 0), (40, .getfield 23, 43, 7, 2, 1), (43, .iload_n 3, 44, 0, 0, 0), (44, .aaload, 45, 106, 0, 0), (45, .areturn, 46, 0, 0, 0), (46, .iinc 3 1, 49, 0, 0, 0), (49, .goto (-47), 52, 2, 15, 1), (52, .aconst_null, 53, 0, 0, 0), (53, .areturn, 54, 0, 0, 0)]
def t54 : List ag_I := [(0, .iconst 0, 1, 0, 0, 0), (1, .istore_n 3, 2, 0, 0, 0), (2, .iconst 0, 3, 0, 0, 0), (3, .istore 4, 5, 0, 0, 0), (5, .iload 4, 7, 0, 0, 0), (7, .aload_n 0, 8, 0, 0, 0), (8, .getfield 30, 11, 7, 4, 0), (11, .if_icmp .ge 45, 14, 56, 0, 0), (14, .aload_n 0, 15, 0, 0, 0), (15, .getfield 23, 18, 7, 2, 1), (18, .iload 4, 20, 0, 0, 0), (20, .aaload, 21, 106, 0, 0), (21, .getfield 119, 24, 9, 1, 0), (24, .aload_n 1, 25, 0, 0, 0), (25, .getfield 86, 28, 9, 0, 0), (28, .if_icmp .ne 22, 31, 50, 0, 0), (31, .iload_n 3, 32, 0, 0, 0), (32, .iload_n 2, 33, 0, 0, 0), (33, .if_icmp .ne 14, 36, 47, 0, 0), (36, .aload_n 0, 37, 0, 0, 0), (37, .getfield 23, 40, 7, 2, 1), (40, .iload 4, 42, 0, 0, 0), (42, .aaload, 43, 106, 0, 0), (43, .getfield 122, 46, 9, 2, 0), (46, .ireturn, 47, 0, 0, 0), (47, .iinc 3 1, 50, 0, 0, 0), (50, .iinc 4 1, 53, 0, 0, 0), (53, .goto (-48), 56, 5, 31, 1), (56, .iconst (-1), 57, 0, 0, 0), (57, .ireturn, 58, 0, 0, 0)]
def t55 : List ag_I := [(0, .iconst 0, 1, 0, 0, 0), (1, .istore_n 2, 2, 0, 0, 0), (2, .iconst 0, 3, 0, 0, 0), (3, .istore_n 3, 4, 0, 0, 0), (4, .iload_n 3, 5, 0, 0, 0), (5, .aload_n 0, 6, 0, 0, 0), (6, .getfield 30, 9, 7, 4, 0), (9, .if_icmp .ge 37, 12, 46, 0, 0), (12, .aload_n 0, 13, 0, 0, 0), (13, .getfield 23, 16, 7, 2, 1), (16, .iload_n 3, 17, 0, 0, 0), (17, .aaload, 18, 106, 0, 0), (18, .getfield 86, 21, 9, 0, 0), (21, .iload_n 1, 22, 0, 0, 0), (22, .if_icmp .eq 18, 25, 40, 0, 0), (25, .aload_n 0, 26, 0, 0, 0), (26, .getfield 23, 29, 7, 2, 1), (29, .iload_n 2, 30, 0, 0, 0), (30, .aload_n 0, 31, 0, 0, 0), (31, .getfield 23, 34, 7, 2, 1), (34, .iload_n 3, 35, 0, 0, 0), (35, .aaload, 36, 106, 0, 0), (36, .aastore, 37, 106, 9, 0), (37, .iinc 2 1, 40, 0, 0, 0), (40, .iinc 3 1, 43, 0, 0, 0), (43, .goto (-39), 46, 4, 15, 1), (46, .aload_n 0, 47, 0, 0, 0), (47, .iload_n 2, 48, 0, 0, 0), (48, .putfield 30, 51, 7, 4, 0), (51, .return_, 52, 0, 0, 0)]
def t56 : List ag_I := [(0, .aload_n 0, 1, 0, 0, 0), (1, .invokespecial 3, 4, 0, 0, 9), (4, .aload_n 0, 5, 0, 0, 0), (5, .bipush 24, 7, 0, 0, 0), (7, .newarray .char, 9, 101, 0, 0), (9, .putfield 9, 12, 8, 0, 1), (12, .return_, 13, 0, 0, 0)]
def t57 : List ag_I := [(0, .aload_n 0, 1, 0, 0, 0), (1, .getfield 15, 4, 8, 1, 0), (4, .bipush 24, 6, 0, 0, 0), (6, .if_icmp .lt 5, 9, 11, 0, 0), (9, .iconst 0, 10, 0, 0, 0), (10, .ireturn, 11, 0, 0, 0), (11, .aload_n 0, 12, 0, 0, 0), (12, .getfield 9, 15, 8, 0, 1), (15, .aload_n 0, 16, 0, 0, 0), (16, .getfield 15, 19, 8, 1, 0), (19, .iload_n 1, 20, 0, 0, 0), (20, .castore, 21, 0, 0, 0), (21, .aload_n 0, 22, 0, 0, 0), (22, .dup, 23, 0, 0, 0), (23, .getfield 15, 26, 8, 1, 0), (26, .iconst 1, 27, 0, 0, 0), (27, .iadd, 28, 0, 0, 0), (28, .putfield 15, 31, 8, 1, 0), (31, .iconst 1, 32, 0, 0, 0), (32, .ireturn, 33, 0, 0, 0)]
def t58 : List ag_I := [(0, .iload_n 1, 1, 0, 0, 0), (1, .ifCond .lt 26, 4, 27, 0, 0), (4, .iload_n 1, 5, 0, 0, 0), (5, .aload_n 0, 6, 0, 0, 0), (6, .getfield 15, 9, 8, 1, 0), (9, .if_icmp .ge 18, 12, 27, 0, 0), (12, .iload_n 1, 13, 0, 0, 0), (13, .bipush 24, 15, 0, 0, 0), (15, .if_icmp .ge 12, 18, 27, 0, 0), (18, .aload_n 0, 19, 0, 0, 0), (19, .getfield 9, 22, 8, 0, 1), (22, .iload_n 1, 23, 0, 0, 0), (23, .caload, 24, 0, 0, 0), (24, .goto 4, 27, 28, 0, 0), (27, .iconst 0, 28, 0, 0, 0), (28, .ireturn, 29, 0, 0, 0)]
def t59 : List ag_I := [(0, .aload_n 1, 1, 0, 0, 0), (1, .getfield 9, 4, 8, 0, 1), (4, .iconst 0, 5, 0, 0, 0), (5, .aload_n 0, 6, 0, 0, 0), (6, .getfield 9, 9, 8, 0, 1), (9, .iconst 0, 10, 0, 0, 0), (10, .bipush 24, 12, 0, 0, 0), (12, .invokestatic 19, 15, 0, 0, 99), (15, .aload_n 0, 16, 0, 0, 0), (16, .aload_n 1, 17, 0, 0, 0), (17, .getfield 15, 20, 8, 1, 0), (20, .putfield 15, 23, 8, 1, 0), (23, .return_, 24, 0, 0, 0)]
def t60 : List ag_I := [(0, .aload_n 0, 1, 0, 0, 0), (1, .invokespecial 3, 4, 0, 0, 9), (4, .aload_n 0, 5, 0, 0, 0), (5, .iload_n 1, 6, 0, 0, 0), (6, .putfield 9, 9, 9, 0, 0), (9, .aload_n 0, 10, 0, 0, 0), (10, .iload_n 2, 11, 0, 0, 0), (11, .putfield 15, 14, 9, 1, 0), (14, .aload_n 0, 15, 0, 0, 0), (15, .iload_n 3, 16, 0, 0, 0), (16, .putfield 18, 19, 9, 2, 3), (19, .aload_n 0, 20, 0, 0, 0), (20, .iload 4, 22, 0, 0, 0), (22, .putfield 22, 25, 9, 3, 4), (25, .aload_n 0, 26, 0, 0, 0), (26, .iload 4, 28, 0, 0, 0), (28, .ifCond .eq 7, 31, 35, 0, 0), (31, .iconst 0, 32, 0, 0, 0), (32, .goto 5, 35, 37, 0, 0), (35, .bipush 8, 37, 0, 0, 0), (37, .newarray .int, 39, 100, 0, 0), (39, .putfield 26, 42, 9, 4, 1), (42, .return_, 43, 0, 0, 0)]
def t61 : List ag_I := [(0, .iload_n 1, 1, 0, 0, 0), (1, .ifCond .lt 29, 4, 30, 0, 0), (4, .iload_n 1, 5, 0, 0, 0), (5, .aload_n 0, 6, 0, 0, 0), (6, .getfield 30, 9, 9, 5, 0), (9, .if_icmp .ge 21, 12, 30, 0, 0), (12, .iload_n 1, 13, 0, 0, 0), (13, .aload_n 0, 14, 0, 0, 0), (14, .getfield 26, 17, 9, 4, 1), (17, .arraylength, 18, 100, 0, 0), (18, .if_icmp .ge 12, 21, 30, 0, 0), (21, .aload_n 0, 22, 0, 0, 0), (22, .getfield 26, 25, 9, 4, 1), (25, .iload_n 1, 26, 0, 0, 0), (26, .iaload, 27, 0, 0, 0), (27, .goto 4, 30, 31, 0, 0), (30, .iconst (-1), 31, 0, 0, 0), (31, .ireturn, 32, 0, 0, 0)]
def t62 : List ag_I := [(0, .aload_n 0, 1, 0, 0, 0), (1, .invokespecial 1, 4, 0, 0, 9), (4, .aload_n 0, 5, 0, 0, 0), (5, .iconst 2, 6, 0, 0, 0), (6, .anewarray 7, 9, 103, 0, 0), (9, .dup, 10, 0, 0, 0), (10, .iconst 0, 11, 0, 0, 0), (11, .new 7, 14, 7, 0, 0), (14, .dup, 15, 0, 0, 0), (15, .invokespecial 9, 18, 34, 0, 0), (18, .aastore, 19, 103, 7, 0), (19, .dup, 20, 0, 0, 0), (20, .iconst 1, 21, 0, 0, 0), (21, .new 7, 24, 7, 0, 0), (24, .dup, 25, 0, 0, 0), (25, .invokespecial 9, 28, 34, 0, 0), (28, .aastore, 29, 103, 7, 0), (29, .putfield 10, 32, 10, 0, 1), (32, .aload_n 0, 33, 0, 0, 0), (33, .iconst 4, 34, 0, 0, 0), (34, .anewarray 16, 37, 104, 0, 0), (37, .putfield 18, 40, 10, 1, 1), (40, .aload_n 0, 41, 0, 0, 0), (41, .iconst 4, 42, 0, 0, 0), (42, .anewarray 22, 45, 105, 0, 0), (45, .putfield 24, 48, 10, 2, 1), (48, .aload_n 0, 49, 0, 0, 0), (49, .new 28, 52, 8, 0, 0), (52, .dup, 53, 0, 0, 0), (53, .invokespecial 30, 56, 56, 0, 0), (56, .putfield 31, 59, 10, 3, 1), (59, .aload_n 0, 60, 0, 0, 0), (60, .new 28, 63, 8, 0, 0), (63, .dup, 64, 0, 0, 0), (64, .invokespecial 30, 67, 56, 0, 0), (67, .putfield 35, 70, 10, 4, 1), (70, .aload_n 0, 71, 0, 0, 0), (71, .new 38, 74, 4, 0, 0), (74, .dup, 75, 0, 0, 0), (75, .invokespecial 40, 78, 24, 0, 0), (78, .putfield 41, 81, 10, 5, 1), (81, .aload_n 0, 82, 0, 0, 0), (82, .new 38, 85, 4, 0, 0), (85, .dup, 86, 0, 0, 0), (86, .invokespecial 40, 89, 24, 0, 0), (89, .putfield 45, 92, 10, 6, 1), (92, .aload_n 0, 93, 0, 0, 0), (93, .new 48, 96, 0, 0, 0), (96, .dup, 97, 0, 0, 0), (97, .invokespecial 50, 100, 0, 0, 0), (100, .putfield 51, 103, 10, 7, 1), (103, .iconst 0, 104, 0, 0, 0), (104, .istore_n 1, 105, 0, 0, 0), (105, .iload_n 1, 106, 0, 0, 0), (106, .iconst 4, 107, 0, 0, 0), (107, .if_icmp .ge 35, 110, 142, 0, 0), (110, .aload_n 0, 111, 0, 0, 0), (111, .getfield 18, 114, 10, 1, 1), (114, .iload_n 1, 115, 0, 0, 0), (115, .new 16, 118, 2, 0, 0), (118, .dup, 119, 0, 0, 0), (119, .invokespecial 55, 122, 13, 0, 0), (122, .aastore, 123, 104, 2, 0), (123, .aload_n 0, 124, 0, 0, 0), (124, .getfield 24, 127, 10, 2, 1), (127, .iload_n 1, 128, 0, 0, 0), (128, .new 22, 131, 6, 0, 0), (131, .dup, 132, 0, 0, 0), (132, .invokespecial 56, 135, 29, 0, 0), (135, .aastore, 136, 105, 6, 0), (136, .iinc 1 1, 139, 0, 0, 0), (139, .goto (-34), 142, 105, 3, 1), (142, .aload_n 0, 143, 0, 0, 0), (143, .getfield 24, 146, 10, 2, 1), (146, .iconst 0, 147, 0, 0, 0), (147, .aaload, 148, 105, 0, 0), (148, .aload_n 0, 149, 0, 0, 0), (149, .getfield 18, 152, 10, 1, 1), (152, .iconst 0, 153, 0, 0, 0), (153, .aaload, 154, 104, 0, 0), (154, .putfield 57, 157, 6, 1, 1), (157, .aload_n 0, 158, 0, 0, 0), (158, .getfield 18, 161, 10, 1, 1), (161, .iconst 0, 162, 0, 0, 0), (162, .aaload, 163, 104, 0, 0), (163, .iconst 1, 164, 0, 0, 0), (164, .putfield 61, 167, 2, 2, 0), (167, .return_, 168, 0, 0, 0)]
def t63 : List ag_I := [(0, .aload_n 0, 1, 0, 0, 0), (1, .getfield 31, 4, 10, 3, 1), (4, .iload_n 1, 5, 0, 0, 0), (5, .invokevirtual 65, 8, 57, 1, 81), (8, .ifCond .ne 13, 11, 21, 0, 0), (11, .new 69, 14, 1, 0, 9), (21, .aload_n 0, 22, 0, 0, 0), (22, .getfield 31, 25, 10, 3, 1), (25, .getfield 76, 28, 8, 1, 0), (28, .ireturn, 29, 0, 0, 0)]
def t64 : List ag_I := [(0, .aload_n 0, 1, 0, 0, 0), (1, .getfield 35, 4, 10, 4, 1), (4, .aload_n 0, 5, 0, 0, 0), (5, .getfield 31, 8, 10, 3, 1), (8, .invokevirtual 79, 11, 59, 1, 80), (11, .aload_n 0, 12, 0, 0, 0), (12, .getfield 31, 15, 10, 3, 1), (15, .iconst 0, 16, 0, 0, 0), (16, .putfield 76, 19, 8, 1, 0), (19, .aload_n 0, 20, 0, 0, 0), (20, .getfield 35, 23, 10, 4, 1), (23, .getfield 76, 26, 8, 1, 0), (26, .ireturn, 27, 0, 0, 0)]
def t65 : List ag_I := [(0, .aload_n 0, 1, 0, 0, 0), (1, .iload_n 1, 2, 0, 0, 0), (2, .invokevirtual 83, 5, 87, 1, 102), (5, .astore_n 3, 6, 0, 0, 0), (6, .aload_n 0, 7, 0, 0, 0), (7, .getfield 41, 10, 10, 5, 1), (10, .getfield 87, 13, 4, 2, 0), (13, .ifCond .eq 12, 16, 25, 0, 0), (16, .iload_n 2, 17, 0, 0, 0), (17, .ifCond .lt 8, 20, 25, 0, 0), (20, .iload_n 2, 21, 0, 0, 0), (21, .iconst 2, 22, 0, 0, 0), (22, .if_icmp .le 13, 25, 35, 0, 0), (25, .new 91, 28, 0, 0, 9), (35, .aload_n 3, 36, 0, 0, 0), (36, .invokevirtual 96, 39, 32, 0, 61), (39, .istore 4, 41, 0, 0, 0), (41, .aload_n 3, 42, 0, 0, 0), (42, .iload 4, 44, 0, 0, 0), (44, .invokestatic 100, 47, 86, 2, 2), (47, .astore 5, 49, 0, 0, 0), (49, .aload_n 0, 50, 0, 0, 0), (50, .aload_n 3, 51, 0, 0, 0), (51, .getfield 57, 54, 6, 1, 1), (54, .aload_n 0, 55, 0, 0, 0), (55, .getfield 41, 58, 10, 5, 1), (58, .aload_n 0, 59, 0, 0, 0), (59, .getfield 41, 62, 10, 5, 1), (62, .getfield 104, 65, 4, 1, 0), (65, .invokevirtual 107, 68, 91, 3, 100), (68, .aload_n 0, 69, 0, 0, 0), (69, .aload_n 3, 70, 0, 0, 0), (70, .getfield 57, 73, 6, 1, 1), (73, .aload 5, 75, 0, 0, 0), (75, .invokevirtual 111, 78, 98, 2, 100), (78, .aload_n 0, 79, 0, 0, 0), (79, .aload 5, 81, 0, 0, 0), (81, .getfield 115, 84, 3, 0, 1), (84, .iload_n 2, 85, 0, 0, 0), (85, .invokevirtual 120, 88, 100, 2, 101), (88, .istore 6, 90, 0, 0, 0), (90, .aload 5, 92, 0, 0, 0), (92, .getfield 115, 95, 3, 0, 1), (95, .getfield 124, 98, 0, 3, 0), (98, .ifCond .ne 8, 101, 106, 0, 0), (101, .iload 6, 103, 0, 0, 0), (103, .invokestatic 125, 106, 89, 1, 0), (106, .aload 5, 108, 0, 0, 0), (108, .iload_n 2, 109, 0, 0, 0), (109, .invokevirtual 129, 112, 20, 1, 30), (112, .iload 4, 114, 0, 0, 0), (114, .ireturn, 115, 0, 0, 0)]
def t66 : List ag_I := [(0, .aload_n 0, 1, 0, 0, 0), (1, .iload_n 1, 2, 0, 0, 0), (2, .invokevirtual 83, 5, 87, 1, 102), (5, .astore_n 3, 6, 0, 0, 0), (6, .aload_n 0, 7, 0, 0, 0), (7, .getfield 41, 10, 10, 5, 1), (10, .getfield 87, 13, 4, 2, 0), (13, .ifCond .ne 13, 16, 26, 0, 0), (16, .new 91, 19, 0, 0, 9), (26, .aload_n 3, 27, 0, 0, 0), (27, .invokevirtual 96, 30, 32, 0, 61), (30, .istore 4, 32, 0, 0, 0), (32, .aload_n 3, 33, 0, 0, 0), (33, .iload 4, 35, 0, 0, 0), (35, .invokestatic 100, 38, 86, 2, 2), (38, .astore 5, 40, 0, 0, 0), (40, .aload_n 0, 41, 0, 0, 0), (41, .getfield 41, 44, 10, 5, 1), (44, .getfield 104, 47, 4, 1, 0), (47, .ifCond .ne 13, 50, 60, 0, 0), (50, .new 135, 53, 3, 0, 9), (60, .aload_n 0, 61, 0, 0, 0), (61, .aload_n 3, 62, 0, 0, 0), (62, .getfield 57, 65, 6, 1, 1), (65, .aload_n 0, 66, 0, 0, 0), (66, .getfield 41, 69, 10, 5, 1), (69, .aload_n 0, 70, 0, 0, 0), (70, .getfield 41, 73, 10, 5, 1), (73, .getfield 104, 76, 4, 1, 0), (76, .iconst 1, 77, 0, 0, 0), (77, .isub, 78, 0, 0, 0), (78, .invokevirtual 107, 81, 91, 3, 100), (81, .aload_n 0, 82, 0, 0, 0), (82, .aload_n 3, 83, 0, 0, 0), (83, .getfield 57, 86, 6, 1, 1), (86, .aload 5, 88, 0, 0, 0), (88, .iload_n 2, 89, 0, 0, 0), (89, .invokevirtual 140, 92, 101, 3, 100), (92, .aload 5, 94, 0, 0, 0), (94, .iload_n 2, 95, 0, 0, 0), (95, .ifCond .eq 7, 98, 102, 0, 0), (98, .iconst 0, 99, 0, 0, 0), (99, .goto 4, 102, 103, 0, 0), (102, .iconst 2, 103, 0, 0, 0), (103, .invokevirtual 129, 106, 20, 1, 30), (106, .iload 4, 108, 0, 0, 0), (108, .ireturn, 109, 0, 0, 0)]
def t67 : List ag_I := [(0, .aload_n 0, 1, 0, 0, 0), (1, .iload_n 1, 2, 0, 0, 0), (2, .iload_n 2, 3, 0, 0, 0), (3, .invokevirtual 144, 6, 85, 2, 102), (6, .astore_n 3, 7, 0, 0, 0), (7, .aload_n 3, 8, 0, 0, 0), (8, .getfield 148, 11, 3, 3, 0), (11, .iconst 1, 12, 0, 0, 0), (12, .if_icmp .ne 13, 15, 25, 0, 0), (15, .new 135, 18, 3, 0, 9), (25, .iconst 0, 26, 0, 0, 0), (26, .istore 4, 28, 0, 0, 0), (28, .iconst 1, 29, 0, 0, 0), (29, .istore 5, 31, 0, 0, 0), (31, .iconst 0, 32, 0, 0, 0), (32, .istore 6, 34, 0, 0, 0), (34, .iload 5, 36, 0, 0, 0), (36, .ifCond .eq 86, 39, 122, 0, 0), (39, .iload 6, 41, 0, 0, 0), (41, .iconst 3, 42, 0, 0, 0), (42, .if_icmp .ge 80, 45, 122, 0, 0), (45, .aload_n 0, 46, 0, 0, 0), (46, .aload_n 3, 47, 0, 0, 0), (47, .invokevirtual 153, 50, 21, 0, 31), (50, .invokevirtual 156, 53, 83, 1, 102), (53, .astore 7, 55, 0, 0, 0), (55, .aload 7, 57, 0, 0, 0), (57, .aload_n 3, 58, 0, 0, 0), (58, .invokevirtual 160, 61, 22, 0, 31), (61, .aload_n 3, 62, 0, 0, 0), (62, .getfield 163, 65, 3, 5, 0), (65, .invokevirtual 166, 68, 42, 2, 71), (68, .istore 4, 70, 0, 0, 0), (70, .iload 4, 72, 0, 0, 0), (72, .ifCond .ne 16, 75, 88, 0, 0), (75, .aload 7, 77, 0, 0, 0), (77, .getfield 170, 80, 7, 1, 1), (80, .bipush 9, 82, 0, 0, 0), (82, .invokevirtual 174, 85, 10, 1, 11), (85, .goto 4, 88, 89, 0, 0), (88, .iconst (-1), 89, 0, 0, 0), (89, .istore 8, 91, 0, 0, 0), (91, .iload 8, 93, 0, 0, 0), (93, .iconst (-1), 94, 0, 0, 0), (94, .if_icmp .eq 16, 97, 110, 0, 0), (97, .aload_n 3, 98, 0, 0, 0), (98, .dup, 99, 0, 0, 0), (99, .getfield 163, 102, 3, 5, 0), (102, .iconst 1, 103, 0, 0, 0), (103, .iadd, 104, 0, 0, 0), (104, .putfield 163, 107, 3, 5, 0), (107, .iload 8, 109, 0, 0, 0), (109, .ireturn, 110, 0, 0, 0), (110, .aload_n 3, 111, 0, 0, 0), (111, .invokevirtual 180, 114, 23, 0, 31), (114, .istore 5, 116, 0, 0, 0), (116, .iinc 6 1, 119, 0, 0, 0), (119, .goto (-85), 122, 34, 121, 1), (122, .iload 4, 124, 0, 0, 0), (124, .ifCond .eq 21, 127, 145, 0, 0), (127, .aload_n 3, 128, 0, 0, 0), (128, .getfield 184, 131, 3, 2, 0), (131, .iconst 1, 132, 0, 0, 0), (132, .if_icmp .ne 13, 135, 145, 0, 0), (135, .new 187, 138, 2, 0, 9), (145, .iconst (-1), 146, 0, 0, 0), (146, .ireturn, 147, 0, 0, 0)]
def t68 : List ag_I := [(0, .aload_n 0, 1, 0, 0, 0), (1, .iload_n 1, 2, 0, 0, 0), (2, .iload_n 2, 3, 0, 0, 0), (3, .invokevirtual 144, 6, 85, 2, 102), (6, .astore 4, 8, 0, 0, 0), (8, .iload_n 3, 9, 0, 0, 0), (9, .ifCond .lt 10, 12, 19, 0, 0), (12, .iload_n 3, 13, 0, 0, 0), (13, .sipush 255, 16, 0, 0, 0), (16, .if_icmp .le 13, 19, 29, 0, 0), (19, .new 91, 22, 0, 0, 9), (29, .aload 4, 31, 0, 0, 0), (31, .getfield 148, 34, 3, 3, 0), (34, .ifCond .ne 13, 37, 47, 0, 0), (37, .new 135, 40, 3, 0, 9), (47, .aload_n 0, 48, 0, 0, 0), (48, .aload 4, 50, 0, 0, 0), (50, .invokevirtual 153, 53, 21, 0, 31), (53, .invokevirtual 156, 56, 83, 1, 102), (56, .astore 5, 58, 0, 0, 0), (58, .aload 5, 60, 0, 0, 0), (60, .aload 4, 62, 0, 0, 0), (62, .invokevirtual 160, 65, 22, 0, 31), (65, .aload 4, 67, 0, 0, 0), (67, .getfield 163, 70, 3, 5, 0), (70, .iload_n 3, 71, 0, 0, 0), (71, .invokevirtual 196, 74, 43, 3, 71), (74, .istore 6, 76, 0, 0, 0), (76, .iload 6, 78, 0, 0, 0), (78, .bipush 102, 80, 0, 0, 0), (80, .if_icmp .ne 13, 83, 93, 0, 0), (83, .new 69, 86, 1, 0, 9), (93, .iload 6, 95, 0, 0, 0), (95, .ifCond .eq 13, 98, 108, 0, 0), (98, .new 187, 101, 2, 0, 9), (108, .aload 4, 110, 0, 0, 0), (110, .dup, 111, 0, 0, 0), (111, .getfield 163, 114, 3, 5, 0), (114, .iconst 1, 115, 0, 0, 0), (115, .iadd, 116, 0, 0, 0), (116, .putfield 163, 119, 3, 5, 0), (119, .aload 5, 121, 0, 0, 0), (121, .getfield 170, 124, 7, 1, 1), (124, .bipush 7, 126, 0, 0, 0), (126, .invokevirtual 202, 129, 12, 1, 11), (129, .ireturn, 130, 0, 0, 0)]
def t69 : List ag_I := [(0, .aload_n 0, 1, 0, 0, 0), (1, .iload_n 1, 2, 0, 0, 0), (2, .invokevirtual 205, 5, 84, 1, 102), (5, .astore_n 3, 6, 0, 0, 0), (6, .aload_n 0, 7, 0, 0, 0), (7, .aload_n 0, 8, 0, 0, 0), (8, .iload_n 1, 9, 0, 0, 0), (9, .iload_n 2, 10, 0, 0, 0), (10, .invokevirtual 144, 13, 85, 2, 102), (13, .invokevirtual 208, 16, 102, 1, 100), (16, .aload_n 3, 17, 0, 0, 0), (17, .invokevirtual 212, 20, 33, 0, 61), (20, .ireturn, 21, 0, 0, 0)]
def t70 : List ag_I := [(0, .aload_n 0, 1, 0, 0, 0), (1, .iload_n 1, 2, 0, 0, 0), (2, .invokevirtual 83, 5, 87, 1, 102), (5, .astore_n 2, 6, 0, 0, 0), (6, .aload_n 0, 7, 0, 0, 0), (7, .getfield 41, 10, 10, 5, 1), (10, .getfield 87, 13, 4, 2, 0), (13, .ifCond .ne 13, 16, 26, 0, 0), (16, .new 91, 19, 0, 0, 9), (26, .aload_n 0, 27, 0, 0, 0), (27, .getfield 41, 30, 10, 5, 1), (30, .getfield 104, 33, 4, 1, 0), (33, .ifCond .ne 13, 36, 46, 0, 0), (36, .new 135, 39, 3, 0, 9), (46, .aload_n 0, 47, 0, 0, 0), (47, .aload_n 2, 48, 0, 0, 0), (48, .getfield 57, 51, 6, 1, 1), (51, .aload_n 0, 52, 0, 0, 0), (52, .getfield 41, 55, 10, 5, 1), (55, .aload_n 0, 56, 0, 0, 0), (56, .getfield 41, 59, 10, 5, 1), (59, .getfield 104, 62, 4, 1, 0), (62, .invokevirtual 107, 65, 91, 3, 100), (65, .aload_n 0, 66, 0, 0, 0), (66, .aload_n 0, 67, 0, 0, 0), (67, .getfield 215, 70, 10, 9, 0), (70, .invokevirtual 156, 73, 83, 1, 102), (73, .aload_n 0, 74, 0, 0, 0), (74, .getfield 218, 77, 10, 10, 0), (77, .invokevirtual 221, 80, 45, 1, 71), (80, .istore_n 3, 81, 0, 0, 0), (81, .iload_n 3, 82, 0, 0, 0), (82, .ifCond .eq 13, 85, 95, 0, 0), (85, .new 135, 88, 3, 0, 9), (95, .aload_n 0, 96, 0, 0, 0), (96, .getfield 227, 99, 10, 11, 0), (99, .ireturn, 100, 0, 0, 0)]
def t71 : List ag_I := [(0, .aload_n 0, 1, 0, 0, 0), (1, .iload_n 1, 2, 0, 0, 0), (2, .invokevirtual 83, 5, 87, 1, 102), (5, .astore_n 2, 6, 0, 0, 0), (6, .aload_n 0, 7, 0, 0, 0), (7, .getfield 41, 10, 10, 5, 1), (10, .getfield 87, 13, 4, 2, 0), (13, .ifCond .ne 13, 16, 26, 0, 0), (16, .new 91, 19, 0, 0, 9), (26, .aload_n 0, 27, 0, 0, 0), (27, .aload_n 2, 28, 0, 0, 0), (28, .getfield 57, 31, 6, 1, 1), (31, .aload_n 0, 32, 0, 0, 0), (32, .getfield 41, 35, 10, 5, 1), (35, .aload_n 0, 36, 0, 0, 0), (36, .getfield 41, 39, 10, 5, 1), (39, .getfield 104, 42, 4, 1, 0), (42, .invokevirtual 107, 45, 91, 3, 100), (45, .aload_n 0, 46, 0, 0, 0), (46, .aload_n 0, 47, 0, 0, 0), (47, .getfield 215, 50, 10, 9, 0), (50, .invokevirtual 156, 53, 83, 1, 102), (53, .astore_n 3, 54, 0, 0, 0), (54, .aload_n 3, 55, 0, 0, 0), (55, .aload_n 0, 56, 0, 0, 0), (56, .getfield 218, 59, 10, 10, 0), (59, .invokevirtual 230, 62, 46, 1, 71), (62, .pop, 63, 0, 0, 0), (63, .aload_n 3, 64, 0, 0, 0), (64, .getfield 170, 67, 7, 1, 1), (67, .bipush 7, 69, 0, 0, 0), (69, .invokevirtual 174, 72, 10, 1, 11), (72, .istore 4, 74, 0, 0, 0), (74, .aload_n 3, 75, 0, 0, 0), (75, .getfield 170, 78, 7, 1, 1), (78, .bipush 12, 80, 0, 0, 0), (80, .invokevirtual 202, 83, 12, 1, 11), (83, .istore 5, 85, 0, 0, 0), (85, .aload_n 0, 86, 0, 0, 0), (86, .aload_n 0, 87, 0, 0, 0), (87, .getfield 215, 90, 10, 9, 0), (90, .aload_n 0, 91, 0, 0, 0), (91, .getfield 218, 94, 10, 10, 0), (94, .invokevirtual 233, 97, 95, 2, 100), (97, .bipush 100, 99, 0, 0, 0), (99, .aload_n 0, 100, 0, 0, 0), (100, .getfield 215, 103, 10, 9, 0), (103, .imul, 104, 0, 0, 0), (104, .iconst 2, 105, 0, 0, 0), (105, .iload 5, 107, 0, 0, 0), (107, .imul, 108, 0, 0, 0), (108, .iadd, 109, 0, 0, 0), (109, .iload 4, 111, 0, 0, 0), (111, .iadd, 112, 0, 0, 0), (112, .ireturn, 113, 0, 0, 0)]
def t72 : List ag_I := [(0, .aload_n 0, 1, 0, 0, 0), (1, .iload_n 1, 2, 0, 0, 0), (2, .invokevirtual 83, 5, 87, 1, 102), (5, .astore_n 3, 6, 0, 0, 0), (6, .aload_n 0, 7, 0, 0, 0), (7, .getfield 41, 10, 10, 5, 1), (10, .getfield 87, 13, 4, 2, 0), (13, .ifCond .eq 20, 16, 33, 0, 0), (16, .aload_n 0, 17, 0, 0, 0), (17, .getfield 45, 20, 10, 6, 1), (20, .getfield 87, 23, 4, 2, 0), (23, .ifCond .eq 10, 26, 33, 0, 0), (26, .iload_n 2, 27, 0, 0, 0), (27, .invokestatic 237, 30, 81, 1, 1), (30, .ifCond .ne 13, 33, 43, 0, 0), (33, .new 91, 36, 0, 0, 9), (43, .aload_n 0, 44, 0, 0, 0), (44, .aload_n 3, 45, 0, 0, 0), (45, .getfield 57, 48, 6, 1, 1), (48, .aload_n 0, 49, 0, 0, 0), (49, .getfield 45, 52, 10, 6, 1), (52, .aload_n 0, 53, 0, 0, 0), (53, .getfield 45, 56, 10, 6, 1), (56, .getfield 104, 59, 4, 1, 0), (59, .invokevirtual 107, 62, 91, 3, 100), (62, .aload_n 0, 63, 0, 0, 0), (63, .getfield 243, 66, 10, 12, 0), (66, .ifCond .ne 25, 69, 91, 0, 0), (69, .aload_n 0, 70, 0, 0, 0), (70, .aload_n 0, 71, 0, 0, 0), (71, .getfield 215, 74, 10, 9, 0), (74, .aload_n 0, 75, 0, 0, 0), (75, .getfield 218, 78, 10, 10, 0), (78, .invokevirtual 233, 81, 95, 2, 100), (81, .new 135, 84, 3, 0, 9), (91, .aload_n 0, 92, 0, 0, 0), (92, .invokevirtual 248, 95, 97, 0, 101), (95, .istore 4, 97, 0, 0, 0), (97, .aload_n 0, 98, 0, 0, 0), (98, .aload_n 3, 99, 0, 0, 0), (99, .getfield 57, 102, 6, 1, 1), (102, .aload_n 0, 103, 0, 0, 0), (103, .getfield 215, 106, 10, 9, 0), (106, .iload 4, 108, 0, 0, 0), (108, .iload_n 2, 109, 0, 0, 0), (109, .invokevirtual 251, 112, 103, 4, 101), (112, .ireturn, 113, 0, 0, 0)]
def t73 : List ag_I := [(0, .aload_n 0, 1, 0, 0, 0), (1, .iload_n 1, 2, 0, 0, 0), (2, .invokevirtual 83, 5, 87, 1, 102), (5, .astore 4, 7, 0, 0, 0), (7, .aload_n 0, 8, 0, 0, 0), (8, .getfield 41, 11, 10, 5, 1), (11, .getfield 87, 14, 4, 2, 0), (14, .ifCond .eq 17, 17, 31, 0, 0), (17, .iload_n 2, 18, 0, 0, 0), (18, .invokestatic 255, 21, 80, 1, 1), (21, .ifCond .eq 10, 24, 31, 0, 0), (24, .iload_n 3, 25, 0, 0, 0), (25, .invokestatic 237, 28, 81, 1, 1), (28, .ifCond .ne 14, 31, 42, 0, 0), (31, .new 91, 34, 0, 0, 9), (42, .aload_n 0, 43, 0, 0, 0), (43, .iload_n 2, 44, 0, 0, 0), (44, .invokevirtual 156, 47, 83, 1, 102), (47, .astore 5, 49, 0, 0, 0), (49, .aload 5, 51, 0, 0, 0), (51, .invokevirtual 260, 54, 35, 0, 71), (54, .istore 6, 56, 0, 0, 0), (56, .aload 5, 58, 0, 0, 0), (58, .iload 6, 60, 0, 0, 0), (60, .invokevirtual 263, 63, 37, 1, 70), (63, .aload_n 0, 64, 0, 0, 0), (64, .aload 4, 66, 0, 0, 0), (66, .getfield 57, 69, 6, 1, 1), (69, .iload_n 2, 70, 0, 0, 0), (70, .iload 6, 72, 0, 0, 0), (72, .iload_n 3, 73, 0, 0, 0), (73, .invokevirtual 251, 76, 103, 4, 101), (76, .ireturn, 77, 0, 0, 0)]
def t74 : List ag_I := [(0, .aload_n 0, 1, 0, 0, 0), (1, .iload_n 1, 2, 0, 0, 0), (2, .invokevirtual 83, 5, 87, 1, 102), (5, .astore_n 2, 6, 0, 0, 0), (6, .aload_n 0, 7, 0, 0, 0), (7, .getfield 41, 10, 10, 5, 1), (10, .getfield 87, 13, 4, 2, 0), (13, .ifCond .ne 13, 16, 26, 0, 0), (16, .new 91, 19, 0, 0, 9), (26, .aload_n 0, 27, 0, 0, 0), (27, .aload_n 2, 28, 0, 0, 0), (28, .getfield 57, 31, 6, 1, 1), (31, .aload_n 0, 32, 0, 0, 0), (32, .getfield 41, 35, 10, 5, 1), (35, .aload_n 0, 36, 0, 0, 0), (36, .getfield 41, 39, 10, 5, 1), (39, .getfield 104, 42, 4, 1, 0), (42, .invokevirtual 107, 45, 91, 3, 100), (45, .aload_n 2, 46, 0, 0, 0), (46, .getfield 57, 49, 6, 1, 1), (49, .aload_n 0, 50, 0, 0, 0), (50, .getfield 215, 53, 10, 9, 0), (53, .aload_n 0, 54, 0, 0, 0), (54, .getfield 227, 57, 10, 11, 0), (57, .invokevirtual 266, 60, 14, 2, 21), (60, .istore_n 3, 61, 0, 0, 0), (61, .aload_n 2, 62, 0, 0, 0), (62, .getfield 57, 65, 6, 1, 1), (65, .iload_n 3, 66, 0, 0, 0), (66, .invokevirtual 270, 69, 15, 1, 22), (69, .astore 4, 71, 0, 0, 0), (71, .aload 4, 73, 0, 0, 0), (73, .ifnonnull 26, 76, 99, 0, 0), (76, .aload_n 0, 77, 0, 0, 0), (77, .aload_n 0, 78, 0, 0, 0), (78, .getfield 215, 81, 10, 9, 0), (81, .aload_n 0, 82, 0, 0, 0), (82, .getfield 218, 85, 10, 10, 0), (85, .invokevirtual 233, 88, 95, 2, 100), (88, .new 135, 91, 3, 0, 9), (99, .aload_n 0, 100, 0, 0, 0), (100, .aload 4, 102, 0, 0, 0), (102, .getfield 276, 105, 5, 0, 1), (105, .invokevirtual 281, 108, 96, 1, 100), (108, .aload_n 0, 109, 0, 0, 0), (109, .aload_n 0, 110, 0, 0, 0), (110, .getfield 215, 113, 10, 9, 0), (113, .aload_n 0, 114, 0, 0, 0), (114, .getfield 218, 117, 10, 10, 0), (117, .invokevirtual 233, 120, 95, 2, 100), (120, .aload_n 2, 121, 0, 0, 0), (121, .getfield 57, 124, 6, 1, 1), (124, .iload_n 3, 125, 0, 0, 0), (125, .invokevirtual 285, 128, 17, 1, 20), (128, .aload_n 2, 129, 0, 0, 0), (129, .getfield 57, 132, 6, 1, 1), (132, .getfield 288, 135, 2, 1, 0), (135, .ireturn, 136, 0, 0, 0)]
def t75 : List ag_I := [(0, .aload_n 0, 1, 0, 0, 0), (1, .iload_n 1, 2, 0, 0, 0), (2, .invokevirtual 205, 5, 84, 1, 102), (5, .astore_n 3, 6, 0, 0, 0), (6, .aload_n 0, 7, 0, 0, 0), (7, .invokevirtual 289, 10, 107, 0, 101), (10, .istore 4, 12, 0, 0, 0), (12, .iload_n 2, 13, 0, 0, 0), (13, .ifCond .eq 10, 16, 23, 0, 0), (16, .aload_n 3, 17, 0, 0, 0), (17, .getfield 57, 20, 6, 1, 1), (20, .goto 7, 23, 27, 0, 0), (23, .aload_n 0, 24, 0, 0, 0), (24, .invokevirtual 292, 27, 109, 0, 102), (27, .astore 5, 29, 0, 0, 0), (29, .iload 4, 31, 0, 0, 0), (31, .ifCond .lt 8, 34, 39, 0, 0), (34, .aload 5, 36, 0, 0, 0), (36, .ifnonnull 14, 39, 50, 0, 0), (39, .new 69, 42, 1, 0, 9), (50, .iload_n 2, 51, 0, 0, 0), (51, .ifCond .ne 13, 54, 64, 0, 0), (54, .aload_n 0, 55, 0, 0, 0), (55, .aload_n 3, 56, 0, 0, 0), (56, .getfield 57, 59, 6, 1, 1), (59, .aload 5, 61, 0, 0, 0), (61, .invokevirtual 298, 64, 110, 2, 100), (64, .aload_n 0, 65, 0, 0, 0), (65, .getfield 24, 68, 10, 2, 1), (68, .iload 4, 70, 0, 0, 0), (70, .aaload, 71, 105, 0, 0), (71, .aload 5, 73, 0, 0, 0), (73, .invokevirtual 302, 76, 30, 1, 60), (76, .iload 4, 78, 0, 0, 0), (78, .ireturn, 79, 0, 0, 0)]
def t76 : List ag_I := [(0, .aload_n 0, 1, 0, 0, 0), (1, .iload_n 1, 2, 0, 0, 0), (2, .invokevirtual 205, 5, 84, 1, 102), (5, .astore_n 2, 6, 0, 0, 0), (6, .iload_n 1, 7, 0, 0, 0), (7, .ifCond .ne 14, 10, 21, 0, 0), (10, .new 91, 13, 0, 0, 9), (21, .iconst 0, 22, 0, 0, 0), (22, .istore_n 3, 23, 0, 0, 0), (23, .iload_n 3, 24, 0, 0, 0), (24, .iconst 5, 25, 0, 0, 0), (25, .if_icmp .ge 31, 28, 56, 0, 0), (28, .aload_n 2, 29, 0, 0, 0), (29, .getfield 307, 32, 6, 0, 1), (32, .iload_n 3, 33, 0, 0, 0), (33, .aaload, 34, 108, 0, 0), (34, .getfield 311, 37, 3, 1, 0), (37, .ifCond .eq 13, 40, 50, 0, 0), (40, .aload_n 0, 41, 0, 0, 0), (41, .aload_n 2, 42, 0, 0, 0), (42, .getfield 307, 45, 6, 0, 1), (45, .iload_n 3, 46, 0, 0, 0), (46, .aaload, 47, 108, 0, 0), (47, .invokevirtual 208, 50, 102, 1, 100), (50, .iinc 3 1, 53, 0, 0, 0), (53, .goto (-30), 56, 23, 13, 1), (56, .aload_n 2, 57, 0, 0, 0), (57, .getfield 57, 60, 6, 1, 1), (60, .astore_n 3, 61, 0, 0, 0), (61, .aload_n 2, 62, 0, 0, 0), (62, .invokevirtual 314, 65, 31, 0, 60), (65, .aload_n 3, 66, 0, 0, 0), (66, .getfield 61, 69, 2, 2, 0), (69, .ifCond .ne 8, 72, 77, 0, 0), (72, .aload_n 0, 73, 0, 0, 0), (73, .aload_n 3, 74, 0, 0, 0), (74, .invokevirtual 317, 77, 111, 1, 100), (77, .aload_n 0, 78, 0, 0, 0), (78, .invokevirtual 320, 81, 108, 0, 101), (81, .ireturn, 82, 0, 0, 0)]
def t77 : List ag_I := [(0, .aload_n 0, 1, 0, 0, 0), (1, .getfield 10, 4, 10, 0, 1), (4, .aload_n 0, 5, 0, 0, 0), (5, .getfield 323, 8, 10, 8, 0), (8, .aaload, 9, 103, 0, 0), (9, .astore_n 3, 10, 0, 0, 0), (10, .iload_n 1, 11, 0, 0, 0), (11, .ifCond .ne 12, 14, 23, 0, 0), (14, .aload_n 3, 15, 0, 0, 0), (15, .getfield 326, 18, 7, 0, 1), (18, .iload_n 2, 19, 0, 0, 0), (19, .invokevirtual 329, 22, 11, 1, 11), (22, .ireturn, 23, 0, 0, 0), (23, .iload_n 1, 24, 0, 0, 0), (24, .iconst 1, 25, 0, 0, 0), (25, .if_icmp .ne 14, 28, 39, 0, 0), (28, .aload_n 3, 29, 0, 0, 0), (29, .getfield 170, 32, 7, 1, 1), (32, .iload_n 2, 33, 0, 0, 0), (33, .invokevirtual 329, 36, 11, 1, 11), (36, .goto 4, 39, 40, 0, 0), (39, .iconst (-1), 40, 0, 0, 0), (40, .ireturn, 41, 0, 0, 0)]
def t78 : List ag_I := [(0, .iload_n 1, 1, 0, 0, 0), (1, .invokestatic 255, 4, 80, 1, 1), (4, .ifCond .ne 5, 7, 9, 0, 0), (7, .iconst (-1), 8, 0, 0, 0), (8, .ireturn, 9, 0, 0, 0), (9, .aload_n 0, 10, 0, 0, 0), (10, .getfield 10, 13, 10, 0, 1), (13, .iload_n 1, 14, 0, 0, 0), (14, .aaload, 15, 103, 0, 0), (15, .astore_n 3, 16, 0, 0, 0), (16, .iload_n 2, 17, 0, 0, 0), (17, .tableswitch 54 0 3 #[31, 39, 44, 49], 48, 0, 0, 0), (48, .aload_n 3, 49, 0, 0, 0), (49, .getfield 326, 52, 7, 0, 1), (52, .getfield 332, 55, 1, 2, 0), (55, .ireturn, 56, 0, 0, 0), (56, .aload_n 3, 57, 0, 0, 0), (57, .invokevirtual 335, 60, 36, 0, 71), (60, .ireturn, 61, 0, 0, 0), (61, .aload_n 3, 62, 0, 0, 0), (62, .getfield 338, 65, 7, 4, 0), (65, .ireturn, 66, 0, 0, 0), (66, .aload_n 3, 67, 0, 0, 0), (67, .getfield 341, 70, 7, 5, 0), (70, .ireturn, 71, 0, 0, 0), (71, .iconst (-1), 72, 0, 0, 0), (72, .ireturn, 73, 0, 0, 0)]
def t79 : List ag_I := [(0, .iload_n 1, 1, 0, 0, 0), (1, .ifCond .lt 17, 4, 18, 0, 0), (4, .iload_n 1, 5, 0, 0, 0), (5, .iconst 4, 6, 0, 0, 0), (6, .if_icmp .ge 12, 9, 18, 0, 0), (9, .iload_n 2, 10, 0, 0, 0), (10, .ifCond .lt 8, 13, 18, 0, 0), (13, .iload_n 2, 14, 0, 0, 0), (14, .iconst 3, 15, 0, 0, 0), (15, .if_icmp .le 5, 18, 20, 0, 0), (18, .iconst (-1), 19, 0, 0, 0), (19, .ireturn, 20, 0, 0, 0), (20, .aload_n 0, 21, 0, 0, 0), (21, .getfield 24, 24, 10, 2, 1), (24, .iload_n 1, 25, 0, 0, 0), (25, .aaload, 26, 105, 0, 0), (26, .astore_n 3, 27, 0, 0, 0), (27, .aload_n 3, 28, 0, 0, 0), (28, .getfield 57, 31, 6, 1, 1), (31, .astore 4, 33, 0, 0, 0), (33, .aload 4, 35, 0, 0, 0), (35, .ifnonnull 5, 38, 40, 0, 0), (38, .iconst 0, 39, 0, 0, 0), (39, .ireturn, 40, 0, 0, 0), (40, .iload_n 2, 41, 0, 0, 0), (41, .tableswitch 40 0 2 #[27, 29, 34], 68, 0, 0, 0), (68, .iconst 1, 69, 0, 0, 0), (69, .ireturn, 70, 0, 0, 0), (70, .aload_n 3, 71, 0, 0, 0), (71, .invokevirtual 212, 74, 33, 0, 61), (74, .ireturn, 75, 0, 0, 0), (75, .aload 4, 77, 0, 0, 0), (77, .getfield 288, 80, 2, 1, 0), (80, .ireturn, 81, 0, 0, 0), (81, .aload 4, 83, 0, 0, 0), (83, .invokevirtual 344, 86, 18, 0, 21), (86, .ireturn, 87, 0, 0, 0)]
def t80 : List ag_I := [(0, .iload_n 0, 1, 0, 0, 0), (1, .ifCond .eq 8, 4, 9, 0, 0), (4, .iload_n 0, 5, 0, 0, 0), (5, .iconst 1, 6, 0, 0, 0), (6, .if_icmp .ne 7, 9, 13, 0, 0), (9, .iconst 1, 10, 0, 0, 0), (10, .goto 4, 13, 14, 0, 0), (13, .iconst 0, 14, 0, 0, 0), (14, .ireturn, 15, 0, 0, 0)]
def t81 : List ag_I := [(0, .iload_n 0, 1, 0, 0, 0), (1, .ifCond .lt 20, 4, 21, 0, 0), (4, .iload_n 0, 5, 0, 0, 0), (5, .bipush 6, 7, 0, 0, 0), (7, .if_icmp .gt 14, 10, 21, 0, 0), (10, .iload_n 0, 11, 0, 0, 0), (11, .iconst 4, 12, 0, 0, 0), (12, .irem, 13, 0, 0, 0), (13, .iconst 3, 14, 0, 0, 0), (14, .if_icmp .eq 7, 17, 21, 0, 0), (17, .iconst 1, 18, 0, 0, 0), (18, .goto 4, 21, 22, 0, 0), (21, .iconst 0, 22, 0, 0, 0), (22, .ireturn, 23, 0, 0, 0)]
def t82 : List ag_I := [(0, .iload_n 0, 1, 0, 0, 0), (1, .ifCond .ne 11, 4, 12, 0, 0), (4, .iload_n 1, 5, 0, 0, 0), (5, .ifCond .ne 7, 8, 12, 0, 0), (8, .iconst 1, 9, 0, 0, 0), (9, .goto 4, 12, 13, 0, 0), (12, .iconst 0, 13, 0, 0, 0), (13, .ireturn, 14, 0, 0, 0)]
def t83 : List ag_I := [(0, .aload_n 0, 1, 0, 0, 0), (1, .iload_n 1, 2, 0, 0, 0), (2, .iconst 1, 3, 0, 0, 0), (3, .if_icmp .ne 7, 6, 10, 0, 0), (6, .iconst 1, 7, 0, 0, 0), (7, .goto 4, 10, 11, 0, 0), (10, .iconst 0, 11, 0, 0, 0), (11, .putfield 323, 14, 10, 8, 0), (14, .aload_n 0, 15, 0, 0, 0), (15, .getfield 10, 18, 10, 0, 1), (18, .aload_n 0, 19, 0, 0, 0), (19, .getfield 323, 22, 10, 8, 0), (22, .aaload, 23, 103, 0, 0), (23, .areturn, 24, 0, 0, 0)]
def t84 : List ag_I := [(0, .iload_n 1, 1, 0, 0, 0), (1, .ifCond .lt 20, 4, 21, 0, 0), (4, .iload_n 1, 5, 0, 0, 0), (5, .iconst 4, 6, 0, 0, 0), (6, .if_icmp .ge 15, 9, 21, 0, 0), (9, .aload_n 0, 10, 0, 0, 0), (10, .getfield 24, 13, 10, 2, 1), (13, .iload_n 1, 14, 0, 0, 0), (14, .aaload, 15, 105, 0, 0), (15, .getfield 57, 18, 6, 1, 1), (18, .ifnonnull 14, 21, 32, 0, 0), (21, .new 91, 24, 0, 0, 9), (32, .aload_n 0, 33, 0, 0, 0), (33, .getfield 24, 36, 10, 2, 1), (36, .iload_n 1, 37, 0, 0, 0), (37, .aaload, 38, 105, 0, 0), (38, .areturn, 39, 0, 0, 0)]
def t85 : List ag_I := [(0, .aload_n 0, 1, 0, 0, 0), (1, .iload_n 1, 2, 0, 0, 0), (2, .invokevirtual 205, 5, 84, 1, 102), (5, .astore_n 3, 6, 0, 0, 0), (6, .iload_n 2, 7, 0, 0, 0), (7, .ifCond .lt 20, 10, 27, 0, 0), (10, .iload_n 2, 11, 0, 0, 0), (11, .iconst 5, 12, 0, 0, 0), (12, .if_icmp .ge 15, 15, 27, 0, 0), (15, .aload_n 3, 16, 0, 0, 0), (16, .getfield 307, 19, 6, 0, 1), (19, .iload_n 2, 20, 0, 0, 0), (20, .aaload, 21, 108, 0, 0), (21, .getfield 311, 24, 3, 1, 0), (24, .ifCond .ne 14, 27, 38, 0, 0), (27, .new 91, 30, 0, 0, 9), (38, .aload_n 3, 39, 0, 0, 0), (39, .getfield 307, 42, 6, 0, 1), (42, .iload_n 2, 43, 0, 0, 0), (43, .aaload, 44, 108, 0, 0), (44, .areturn, 45, 0, 0, 0)]
def t86 : List ag_I := [(0, .iload_n 1, 1, 0, 0, 0), (1, .ifCond .lt 8, 4, 9, 0, 0), (4, .iload_n 1, 5, 0, 0, 0), (5, .iconst 5, 6, 0, 0, 0), (6, .if_icmp .lt 14, 9, 20, 0, 0), (9, .new 69, 12, 1, 0, 9), (20, .aload_n 0, 21, 0, 0, 0), (21, .getfield 307, 24, 6, 0, 1), (24, .iload_n 1, 25, 0, 0, 0), (25, .aaload, 26, 108, 0, 0), (26, .areturn, 27, 0, 0, 0)]
def t87 : List ag_I := [(0, .aload_n 0, 1, 0, 0, 0), (1, .iload_n 1, 2, 0, 0, 0), (2, .invokevirtual 205, 5, 84, 1, 102), (5, .astore_n 2, 6, 0, 0, 0), (6, .aload_n 0, 7, 0, 0, 0), (7, .getfield 41, 10, 10, 5, 1), (10, .aload_n 0, 11, 0, 0, 0), (11, .getfield 31, 14, 10, 3, 1), (14, .invokevirtual 352, 17, 25, 1, 40), (17, .aload_n 0, 18, 0, 0, 0), (18, .getfield 45, 21, 10, 6, 1), (21, .aload_n 0, 22, 0, 0, 0), (22, .getfield 35, 25, 10, 4, 1), (25, .invokevirtual 352, 28, 25, 1, 40), (28, .aload_n 0, 29, 0, 0, 0), (29, .getfield 31, 32, 10, 3, 1), (32, .iconst 0, 33, 0, 0, 0), (33, .putfield 76, 36, 8, 1, 0), (36, .aload_n 0, 37, 0, 0, 0), (37, .getfield 35, 40, 10, 4, 1), (40, .iconst 0, 41, 0, 0, 0), (41, .putfield 76, 44, 8, 1, 0), (44, .aload_n 2, 45, 0, 0, 0), (45, .areturn, 46, 0, 0, 0)]
def t88 : List ag_I := [(0, .iload_n 0, 1, 0, 0, 0), (1, .bipush 100, 3, 0, 0, 0), (3, .if_icmp .ne 14, 6, 17, 0, 0), (6, .new 135, 9, 3, 0, 9), (17, .new 187, 20, 2, 0, 9)]
def t89 : List ag_I := [(0, .iload_n 0, 1, 0, 0, 0), (1, .bipush 112, 3, 0, 0, 0), (3, .if_icmp .ne 14, 6, 17, 0, 0), (6, .new 135, 9, 3, 0, 9), (17, .new 187, 20, 2, 0, 9)]
def t90 : List ag_I := [(0, .iload_n 0, 1, 0, 0, 0), (1, .bipush 102, 3, 0, 0, 0), (3, .if_icmp .ne 14, 6, 17, 0, 0), (6, .new 69, 9, 1, 0, 9), (17, .iload_n 0, 18, 0, 0, 0), (18, .bipush 110, 20, 0, 0, 0), (20, .if_icmp .ne 14, 23, 34, 0, 0), (23, .new 187, 26, 2, 0, 9), (34, .new 135, 37, 3, 0, 9)]
def t91 : List ag_I := [(0, .aload_n 0, 1, 0, 0, 0), (1, .aload_n 1, 2, 0, 0, 0), (2, .aload_n 2, 3, 0, 0, 0), (3, .iload_n 3, 4, 0, 0, 0), (4, .invokevirtual 367, 7, 92, 3, 101), (7, .istore 4, 9, 0, 0, 0), (9, .iload 4, 11, 0, 0, 0), (11, .ifCond .eq 8, 14, 19, 0, 0), (14, .iload 4, 16, 0, 0, 0), (16, .invokestatic 371, 19, 88, 1, 0), (19, .return_, 20, 0, 0, 0)]
def t92 : List ag_I := [(0, .aload_n 0, 1, 0, 0, 0), (1, .iconst 0, 2, 0, 0, 0), (2, .putfield 215, 5, 10, 9, 0), (5, .aload_n 0, 6, 0, 0, 0), (6, .iconst 0, 7, 0, 0, 0), (7, .putfield 218, 10, 10, 10, 0), (10, .aload_n 0, 11, 0, 0, 0), (11, .iconst 0, 12, 0, 0, 0), (12, .putfield 227, 15, 10, 11, 0), (15, .aload_n 0, 16, 0, 0, 0), (16, .iconst 1, 17, 0, 0, 0), (17, .putfield 243, 20, 10, 12, 4), (20, .iconst 0, 21, 0, 0, 0), (21, .istore 4, 23, 0, 0, 0), (23, .iconst 0, 24, 0, 0, 0), (24, .istore 5, 26, 0, 0, 0), (26, .iload 5, 28, 0, 0, 0), (28, .iload_n 3, 29, 0, 0, 0), (29, .if_icmp .ge 51, 32, 80, 0, 0), (32, .iload 4, 34, 0, 0, 0), (34, .ifCond .ne 46, 37, 80, 0, 0), (37, .aload_n 0, 38, 0, 0, 0), (38, .getfield 215, 41, 10, 9, 0), (41, .istore 6, 43, 0, 0, 0), (43, .aload_n 0, 44, 0, 0, 0), (44, .getfield 218, 47, 10, 10, 0), (47, .istore 7, 49, 0, 0, 0), (49, .aload_n 0, 50, 0, 0, 0), (50, .aload_n 0, 51, 0, 0, 0), (51, .aload_n 1, 52, 0, 0, 0), (52, .invokevirtual 374, 55, 93, 1, 102), (55, .aload_n 2, 56, 0, 0, 0), (56, .iload 5, 58, 0, 0, 0), (58, .invokevirtual 378, 61, 27, 1, 41), (61, .invokevirtual 381, 64, 94, 2, 101), (64, .istore 4, 66, 0, 0, 0), (66, .aload_n 0, 67, 0, 0, 0), (67, .iload 6, 69, 0, 0, 0), (69, .iload 7, 71, 0, 0, 0), (71, .invokevirtual 233, 74, 95, 2, 100), (74, .iinc 5 1, 77, 0, 0, 0), (77, .goto (-51), 80, 26, 63, 1), (80, .iload 4, 82, 0, 0, 0), (82, .ireturn, 83, 0, 0, 0)]
def t93 : List ag_I := [(0, .aload_n 1, 1, 0, 0, 0), (1, .aload_n 1, 2, 0, 0, 0), (2, .aload_n 0, 3, 0, 0, 0), (3, .getfield 215, 6, 10, 9, 0), (6, .aload_n 0, 7, 0, 0, 0), (7, .getfield 227, 10, 10, 11, 0), (10, .invokevirtual 266, 13, 14, 2, 21), (13, .invokevirtual 270, 16, 15, 1, 22), (16, .astore_n 2, 17, 0, 0, 0), (17, .aload_n 2, 18, 0, 0, 0), (18, .ifnull 8, 21, 26, 0, 0), (21, .aload_n 2, 22, 0, 0, 0), (22, .getfield 276, 25, 5, 0, 1), (25, .areturn, 26, 0, 0, 0), (26, .aload_n 0, 27, 0, 0, 0), (27, .getfield 51, 30, 10, 7, 1), (30, .iconst 0, 31, 0, 0, 0), (31, .putfield 124, 34, 0, 3, 0), (34, .aload_n 0, 35, 0, 0, 0), (35, .getfield 51, 38, 10, 7, 1), (38, .iconst 0, 39, 0, 0, 0), (39, .aload_n 0, 40, 0, 0, 0), (40, .getfield 215, 43, 10, 9, 0), (43, .aload_n 0, 44, 0, 0, 0), (44, .getfield 218, 47, 10, 10, 0), (47, .iconst 1, 48, 0, 0, 0), (48, .invokevirtual 385, 51, 1, 4, 0), (51, .aload_n 0, 52, 0, 0, 0), (52, .getfield 51, 55, 10, 7, 1), (55, .areturn, 56, 0, 0, 0)]
def t94 : List ag_I := [(0, .bipush 110, 2, 0, 0, 0), (2, .istore_n 3, 3, 0, 0, 0), (3, .iconst 0, 4, 0, 0, 0), (4, .istore 4, 6, 0, 0, 0), (6, .iload 4, 8, 0, 0, 0), (8, .aload_n 1, 9, 0, 0, 0), (9, .getfield 124, 12, 0, 3, 0), (12, .if_icmp .ge 102, 15, 114, 0, 0), (15, .aload_n 1, 16, 0, 0, 0), (16, .iload 4, 18, 0, 0, 0), (18, .invokevirtual 389, 21, 3, 1, 1), (21, .istore 5, 23, 0, 0, 0), (23, .aload_n 0, 24, 0, 0, 0), (24, .iload 5, 26, 0, 0, 0), (26, .invokevirtual 156, 29, 83, 1, 102), (29, .astore 6, 31, 0, 0, 0), (31, .aload 6, 33, 0, 0, 0), (33, .invokevirtual 260, 36, 35, 0, 71), (36, .istore 7, 38, 0, 0, 0), (38, .aload 6, 40, 0, 0, 0), (40, .aload_n 1, 41, 0, 0, 0), (41, .iload 4, 43, 0, 0, 0), (43, .invokevirtual 392, 46, 4, 1, 1), (46, .iload 7, 48, 0, 0, 0), (48, .iload_n 2, 49, 0, 0, 0), (49, .invokevirtual 395, 52, 39, 3, 71), (52, .istore_n 3, 53, 0, 0, 0), (53, .iload_n 3, 54, 0, 0, 0), (54, .ifCond .ne 54, 57, 108, 0, 0), (57, .aload_n 0, 58, 0, 0, 0), (58, .iload 5, 60, 0, 0, 0), (60, .putfield 215, 63, 10, 9, 0), (63, .aload_n 0, 64, 0, 0, 0), (64, .iload 7, 66, 0, 0, 0), (66, .putfield 218, 69, 10, 10, 0), (69, .aload_n 0, 70, 0, 0, 0), (70, .aload 6, 72, 0, 0, 0), (72, .getfield 170, 75, 7, 1, 1), (75, .bipush 12, 77, 0, 0, 0), (77, .invokevirtual 202, 80, 12, 1, 11), (80, .putfield 227, 83, 10, 11, 0), (83, .aload_n 0, 84, 0, 0, 0), (84, .aload 6, 86, 0, 0, 0), (86, .getfield 170, 89, 7, 1, 1), (89, .bipush 7, 91, 0, 0, 0), (91, .invokevirtual 174, 94, 10, 1, 11), (94, .iconst 1, 95, 0, 0, 0), (95, .if_icmp .ne 7, 98, 102, 0, 0), (98, .iconst 1, 99, 0, 0, 0), (99, .goto 4, 102, 103, 0, 0), (102, .iconst 0, 103, 0, 0, 0), (103, .putfield 243, 106, 10, 12, 4), (106, .iconst 0, 107, 0, 0, 0), (107, .ireturn, 108, 0, 0, 0), (108, .iinc 4 1, 111, 0, 0, 0), (111, .goto (-105), 114, 6, 31, 1), (114, .iload_n 3, 115, 0, 0, 0), (115, .ireturn, 116, 0, 0, 0)]
def t95 : List ag_I := [(0, .iload_n 1, 1, 0, 0, 0), (1, .iload_n 2, 2, 0, 0, 0), (2, .invokestatic 399, 5, 82, 2, 1), (5, .ifCond .ne 12, 8, 17, 0, 0), (8, .aload_n 0, 9, 0, 0, 0), (9, .iload_n 1, 10, 0, 0, 0), (10, .invokevirtual 156, 13, 83, 1, 102), (13, .iload_n 2, 14, 0, 0, 0), (14, .invokevirtual 403, 17, 44, 1, 70), (17, .return_, 18, 0, 0, 0)]
def t96 : List ag_I := [(0, .iconst 0, 1, 0, 0, 0), (1, .istore_n 2, 2, 0, 0, 0), (2, .iload_n 2, 3, 0, 0, 0), (3, .aload_n 1, 4, 0, 0, 0), (4, .getfield 124, 7, 0, 3, 0), (7, .if_icmp .ge 26, 10, 33, 0, 0), (10, .aload_n 0, 11, 0, 0, 0), (11, .aload_n 1, 12, 0, 0, 0), (12, .iload_n 2, 13, 0, 0, 0), (13, .invokevirtual 389, 16, 3, 1, 1), (16, .invokevirtual 156, 19, 83, 1, 102), (19, .aload_n 1, 20, 0, 0, 0), (20, .iload_n 2, 21, 0, 0, 0), (21, .invokevirtual 392, 24, 4, 1, 1), (24, .invokevirtual 403, 27, 44, 1, 70), (27, .iinc 2 1, 30, 0, 0, 0), (30, .goto (-28), 33, 2, 7, 1), (33, .return_, 34, 0, 0, 0)]
def t97 : List ag_I := [(0, .aload_n 0, 1, 0, 0, 0), (1, .getfield 215, 4, 10, 9, 0), (4, .aload_n 0, 5, 0, 0, 0), (5, .getfield 218, 8, 10, 10, 0), (8, .invokestatic 399, 11, 82, 2, 1), (11, .ifCond .eq 21, 14, 32, 0, 0), (14, .aload_n 0, 15, 0, 0, 0), (15, .aload_n 0, 16, 0, 0, 0), (16, .getfield 215, 19, 10, 9, 0), (19, .invokevirtual 156, 22, 83, 1, 102), (22, .aload_n 0, 23, 0, 0, 0), (23, .getfield 218, 26, 10, 10, 0), (26, .invokevirtual 406, 29, 38, 1, 71), (29, .goto 7, 32, 36, 0, 0), (32, .aload_n 0, 33, 0, 0, 0), (33, .getfield 218, 36, 10, 10, 0), (36, .ireturn, 37, 0, 0, 0)]
def t98 : List ag_I := [(0, .aload_n 2, 1, 0, 0, 0), (1, .getfield 115, 4, 3, 0, 1), (4, .astore_n 3, 5, 0, 0, 0), (5, .aload_n 3, 6, 0, 0, 0), (6, .iconst 0, 7, 0, 0, 0), (7, .putfield 124, 10, 0, 3, 0), (10, .aload_n 1, 11, 0, 0, 0), (11, .aload_n 0, 12, 0, 0, 0), (12, .getfield 215, 15, 10, 9, 0), (15, .aload_n 0, 16, 0, 0, 0), (16, .getfield 227, 19, 10, 11, 0), (19, .invokevirtual 266, 22, 14, 2, 21), (22, .ifCond .ge 20, 25, 42, 0, 0), (25, .aload_n 3, 26, 0, 0, 0), (26, .iconst 0, 27, 0, 0, 0), (27, .aload_n 0, 28, 0, 0, 0), (28, .getfield 215, 31, 10, 9, 0), (31, .aload_n 0, 32, 0, 0, 0), (32, .invokevirtual 248, 35, 97, 0, 101), (35, .iconst 0, 36, 0, 0, 0), (36, .invokevirtual 385, 39, 1, 4, 0), (39, .goto 25, 42, 64, 0, 0), (42, .aload_n 0, 43, 0, 0, 0), (43, .aload_n 0, 44, 0, 0, 0), (44, .aload_n 1, 45, 0, 0, 0), (45, .invokevirtual 374, 48, 93, 1, 102), (48, .aload_n 3, 49, 0, 0, 0), (49, .invokevirtual 409, 52, 99, 2, 100), (52, .aload_n 0, 53, 0, 0, 0), (53, .aload_n 0, 54, 0, 0, 0), (54, .getfield 215, 57, 10, 9, 0), (57, .aload_n 0, 58, 0, 0, 0), (58, .getfield 218, 61, 10, 10, 0), (61, .invokevirtual 233, 64, 95, 2, 100), (64, .aload_n 2, 65, 0, 0, 0), (65, .aload_n 3, 66, 0, 0, 0), (66, .getfield 124, 69, 0, 3, 0), (69, .putfield 184, 72, 3, 2, 0), (72, .return_, 73, 0, 0, 0)]
def t99 : List ag_I := [(0, .iconst 0, 1, 0, 0, 0), (1, .istore_n 3, 2, 0, 0, 0), (2, .iload_n 3, 3, 0, 0, 0), (3, .aload_n 1, 4, 0, 0, 0), (4, .getfield 124, 7, 0, 3, 0), (7, .if_icmp .ge 45, 10, 52, 0, 0), (10, .aload_n 1, 11, 0, 0, 0), (11, .iload_n 3, 12, 0, 0, 0), (12, .invokevirtual 389, 15, 3, 1, 1), (15, .istore 4, 17, 0, 0, 0), (17, .aload_n 2, 18, 0, 0, 0), (18, .aload_n 2, 19, 0, 0, 0), (19, .getfield 124, 22, 0, 3, 0), (22, .iload 4, 24, 0, 0, 0), (24, .aload_n 0, 25, 0, 0, 0), (25, .iload 4, 27, 0, 0, 0), (27, .invokevirtual 156, 30, 83, 1, 102), (30, .aload_n 1, 31, 0, 0, 0), (31, .iload_n 3, 32, 0, 0, 0), (32, .invokevirtual 392, 35, 4, 1, 1), (35, .invokevirtual 406, 38, 38, 1, 71), (38, .aload_n 1, 39, 0, 0, 0), (39, .iload_n 3, 40, 0, 0, 0), (40, .invokevirtual 413, 43, 5, 1, 1), (43, .invokevirtual 385, 46, 1, 4, 0), (46, .iinc 3 1, 49, 0, 0, 0), (49, .goto (-47), 52, 2, 15, 1), (52, .return_, 53, 0, 0, 0)]
def t100 : List ag_I := [(0, .iconst 0, 1, 0, 0, 0), (1, .istore_n 3, 2, 0, 0, 0), (2, .aload_n 1, 3, 0, 0, 0), (3, .getfield 124, 6, 0, 3, 0), (6, .istore 4, 8, 0, 0, 0), (8, .iconst 0, 9, 0, 0, 0), (9, .istore 5, 11, 0, 0, 0), (11, .iconst 0, 12, 0, 0, 0), (12, .istore 6, 14, 0, 0, 0), (14, .iload 6, 16, 0, 0, 0), (16, .iload 4, 18, 0, 0, 0), (18, .if_icmp .ge 67, 21, 85, 0, 0), (21, .aload_n 1, 22, 0, 0, 0), (22, .iload 5, 24, 0, 0, 0), (24, .invokevirtual 389, 27, 3, 1, 1), (27, .istore 7, 29, 0, 0, 0), (29, .aload_n 1, 30, 0, 0, 0), (30, .iload 5, 32, 0, 0, 0), (32, .invokevirtual 392, 35, 4, 1, 1), (35, .istore 8, 37, 0, 0, 0), (37, .aload_n 0, 38, 0, 0, 0), (38, .iload 7, 40, 0, 0, 0), (40, .invokevirtual 156, 43, 83, 1, 102), (43, .iload 8, 45, 0, 0, 0), (45, .iload_n 2, 46, 0, 0, 0), (46, .invokevirtual 416, 49, 40, 2, 71), (49, .istore 9, 51, 0, 0, 0), (51, .iload 9, 53, 0, 0, 0), (53, .ifCond .ne 9, 56, 62, 0, 0), (56, .iinc 5 1, 59, 0, 0, 0), (59, .goto 20, 62, 79, 0, 0), (62, .iload 9, 64, 0, 0, 0), (64, .istore_n 3, 65, 0, 0, 0), (65, .aload_n 0, 66, 0, 0, 0), (66, .iload 7, 68, 0, 0, 0), (68, .iload 8, 70, 0, 0, 0), (70, .invokevirtual 233, 73, 95, 2, 100), (73, .aload_n 1, 74, 0, 0, 0), (74, .iload 5, 76, 0, 0, 0), (76, .invokevirtual 419, 79, 2, 1, 0), (79, .iinc 6 1, 82, 0, 0, 0), (82, .goto (-68), 85, 14, 127, 1), (85, .iload_n 3, 86, 0, 0, 0), (86, .ireturn, 87, 0, 0, 0)]
def t101 : List ag_I := [(0, .aload_n 0, 1, 0, 0, 0), (1, .aload_n 1, 2, 0, 0, 0), (2, .invokevirtual 374, 5, 93, 1, 102), (5, .astore 4, 7, 0, 0, 0), (7, .aload 4, 9, 0, 0, 0), (9, .invokevirtual 422, 12, 6, 0, 1), (12, .istore 5, 14, 0, 0, 0), (14, .iload 5, 16, 0, 0, 0), (16, .ifCond .ge 26, 19, 42, 0, 0), (19, .aload_n 0, 20, 0, 0, 0), (20, .aload_n 0, 21, 0, 0, 0), (21, .getfield 215, 24, 10, 9, 0), (24, .aload_n 0, 25, 0, 0, 0), (25, .getfield 218, 28, 10, 10, 0), (28, .invokevirtual 233, 31, 95, 2, 100), (31, .new 135, 34, 3, 0, 9), (42, .aload 4, 44, 0, 0, 0), (44, .iload 5, 46, 0, 0, 0), (46, .invokevirtual 389, 49, 3, 1, 1), (49, .istore 6, 51, 0, 0, 0), (51, .aload_n 0, 52, 0, 0, 0), (52, .iload 6, 54, 0, 0, 0), (54, .invokevirtual 156, 57, 83, 1, 102), (57, .aload 4, 59, 0, 0, 0), (59, .iload 5, 61, 0, 0, 0), (61, .invokevirtual 392, 64, 4, 1, 1), (64, .invokevirtual 406, 67, 38, 1, 71), (67, .istore 7, 69, 0, 0, 0), (69, .aload_n 0, 70, 0, 0, 0), (70, .aload_n 0, 71, 0, 0, 0), (71, .getfield 215, 74, 10, 9, 0), (74, .aload_n 0, 75, 0, 0, 0), (75, .getfield 218, 78, 10, 10, 0), (78, .invokevirtual 233, 81, 95, 2, 100), (81, .aload_n 0, 82, 0, 0, 0), (82, .iload 6, 84, 0, 0, 0), (84, .invokevirtual 156, 87, 83, 1, 102), (87, .iload 7, 89, 0, 0, 0), (89, .aload_n 0, 90, 0, 0, 0), (90, .getfield 41, 93, 10, 5, 1), (93, .aload_n 0, 94, 0, 0, 0), (94, .getfield 41, 97, 10, 5, 1), (97, .getfield 104, 100, 4, 1, 0), (100, .iconst 1, 101, 0, 0, 0), (101, .isub, 102, 0, 0, 0), (102, .invokevirtual 378, 105, 27, 1, 41), (105, .iload_n 3, 106, 0, 0, 0), (106, .invokevirtual 427, 109, 41, 3, 71), (109, .istore 8, 111, 0, 0, 0), (111, .iload 8, 113, 0, 0, 0), (113, .ifCond .eq 16, 116, 129, 0, 0), (116, .aload_n 0, 117, 0, 0, 0), (117, .iload 6, 119, 0, 0, 0), (119, .iload 7, 121, 0, 0, 0), (121, .invokevirtual 233, 124, 95, 2, 100), (124, .iload 8, 126, 0, 0, 0), (126, .invokestatic 430, 129, 90, 1, 0), (129, .aload_n 0, 130, 0, 0, 0), (130, .iload 6, 132, 0, 0, 0), (132, .invokevirtual 156, 135, 83, 1, 102), (135, .iload 7, 137, 0, 0, 0), (137, .iload_n 3, 138, 0, 0, 0), (138, .ifCond .eq 7, 141, 145, 0, 0), (141, .iconst 0, 142, 0, 0, 0), (142, .goto 4, 145, 146, 0, 0), (145, .iconst 2, 146, 0, 0, 0), (146, .invokevirtual 416, 149, 40, 2, 71), (149, .pop, 150, 0, 0, 0), (150, .aload_n 2, 151, 0, 0, 0), (151, .getfield 115, 154, 3, 0, 1), (154, .iconst 0, 155, 0, 0, 0), (155, .putfield 124, 158, 0, 3, 0), (158, .aload_n 2, 159, 0, 0, 0), (159, .getfield 115, 162, 3, 0, 1), (162, .iconst 0, 163, 0, 0, 0), (163, .iload 6, 165, 0, 0, 0), (165, .iload 7, 167, 0, 0, 0), (167, .iconst 0, 168, 0, 0, 0), (168, .invokevirtual 385, 171, 1, 4, 0), (171, .aload_n 2, 172, 0, 0, 0), (172, .iconst 1, 173, 0, 0, 0), (173, .putfield 184, 176, 3, 2, 0), (176, .return_, 177, 0, 0, 0)]
def t102 : List ag_I := [(0, .aload_n 0, 1, 0, 0, 0), (1, .aload_n 1, 2, 0, 0, 0), (2, .getfield 115, 5, 3, 0, 1), (5, .invokevirtual 281, 8, 96, 1, 100), (8, .aload_n 1, 9, 0, 0, 0), (9, .iconst 0, 10, 0, 0, 0), (10, .putfield 311, 13, 3, 1, 4), (13, .return_, 14, 0, 0, 0)]
def t103 : List ag_I := [(0, .aload_n 0, 1, 0, 0, 0), (1, .aload_n 1, 2, 0, 0, 0), (2, .aload_n 0, 3, 0, 0, 0), (3, .getfield 41, 6, 10, 5, 1), (6, .aload_n 0, 7, 0, 0, 0), (7, .getfield 41, 10, 10, 5, 1), (10, .getfield 104, 13, 4, 1, 0), (13, .invokevirtual 367, 16, 92, 3, 101), (16, .istore 5, 18, 0, 0, 0), (18, .iload 5, 20, 0, 0, 0), (20, .ifCond .eq 14, 23, 34, 0, 0), (23, .aload_n 0, 24, 0, 0, 0), (24, .iload_n 2, 25, 0, 0, 0), (25, .iload_n 3, 26, 0, 0, 0), (26, .invokevirtual 233, 29, 95, 2, 100), (29, .iload 5, 31, 0, 0, 0), (31, .invokestatic 371, 34, 88, 1, 0), (34, .aload_n 1, 35, 0, 0, 0), (35, .aload_n 1, 36, 0, 0, 0), (36, .aload_n 0, 37, 0, 0, 0), (37, .getfield 215, 40, 10, 9, 0), (40, .aload_n 0, 41, 0, 0, 0), (41, .getfield 227, 44, 10, 11, 0), (44, .invokevirtual 266, 47, 14, 2, 21), (47, .invokevirtual 270, 50, 15, 1, 22), (50, .astore 6, 52, 0, 0, 0), (52, .iload 4, 54, 0, 0, 0), (54, .iconst 4, 55, 0, 0, 0), (55, .irem, 56, 0, 0, 0), (56, .ifCond .ne 7, 59, 63, 0, 0), (59, .iconst 1, 60, 0, 0, 0), (60, .goto 4, 63, 64, 0, 0), (63, .iconst 0, 64, 0, 0, 0), (64, .istore 7, 66, 0, 0, 0), (66, .aload 6, 68, 0, 0, 0), (68, .ifnonnull 19, 71, 87, 0, 0), (71, .aload_n 1, 72, 0, 0, 0), (72, .getfield 288, 75, 2, 1, 0), (75, .iconst 4, 76, 0, 0, 0), (76, .if_icmp .lt 7, 79, 83, 0, 0), (79, .iconst 1, 80, 0, 0, 0), (80, .goto 29, 83, 109, 0, 0), (83, .iconst 0, 84, 0, 0, 0), (84, .goto 25, 87, 109, 0, 0), (87, .iload 7, 89, 0, 0, 0), (89, .ifCond .ne 19, 92, 108, 0, 0), (92, .aload 6, 94, 0, 0, 0), (94, .getfield 276, 97, 5, 0, 1), (97, .getfield 124, 100, 0, 3, 0), (100, .iconst 3, 101, 0, 0, 0), (101, .if_icmp .lt 7, 104, 108, 0, 0), (104, .iconst 1, 105, 0, 0, 0), (105, .goto 4, 108, 109, 0, 0), (108, .iconst 0, 109, 0, 0, 0), (109, .istore 8, 111, 0, 0, 0), (111, .aload_n 0, 112, 0, 0, 0), (112, .getfield 243, 115, 10, 12, 0), (115, .ifCond .eq 8, 118, 123, 0, 0), (118, .iload 8, 120, 0, 0, 0), (120, .ifCond .eq 28, 123, 148, 0, 0), (123, .aload_n 0, 124, 0, 0, 0), (124, .aload_n 0, 125, 0, 0, 0), (125, .getfield 215, 128, 10, 9, 0), (128, .aload_n 0, 129, 0, 0, 0), (129, .getfield 218, 132, 10, 10, 0), (132, .invokevirtual 233, 135, 95, 2, 100), (135, .aload_n 0, 136, 0, 0, 0), (136, .iload_n 2, 137, 0, 0, 0), (137, .iload_n 3, 138, 0, 0, 0), (138, .invokevirtual 233, 141, 95, 2, 100), (141, .aload_n 0, 142, 0, 0, 0), (142, .getfield 243, 145, 10, 12, 0), (145, .invokestatic 433, 148, 104, 1, 0), (148, .aload 6, 150, 0, 0, 0), (150, .ifnonnull 13, 153, 163, 0, 0), (153, .aload_n 0, 154, 0, 0, 0), (154, .aload_n 1, 155, 0, 0, 0), (155, .iload 7, 157, 0, 0, 0), (157, .invokevirtual 437, 160, 105, 2, 102), (160, .goto 11, 163, 171, 0, 0), (163, .aload_n 0, 164, 0, 0, 0), (164, .aload 6, 166, 0, 0, 0), (166, .iload 7, 168, 0, 0, 0), (168, .invokevirtual 441, 171, 106, 2, 102), (171, .astore 9, 173, 0, 0, 0), (173, .aload 9, 175, 0, 0, 0), (175, .iload 4, 177, 0, 0, 0), (177, .iconst 4, 178, 0, 0, 0), (178, .irem, 179, 0, 0, 0), (179, .iconst 1, 180, 0, 0, 0), (180, .if_icmp .ne 7, 183, 187, 0, 0), (183, .iconst 0, 184, 0, 0, 0), (184, .goto 8, 187, 192, 0, 0), (187, .aload 9, 189, 0, 0, 0), (189, .getfield 124, 192, 0, 3, 0), (192, .iload_n 2, 193, 0, 0, 0), (193, .iload_n 3, 194, 0, 0, 0), (194, .iload 4, 196, 0, 0, 0), (196, .iconst 4, 197, 0, 0, 0), (197, .idiv, 198, 0, 0, 0), (198, .iconst 1, 199, 0, 0, 0), (199, .if_icmp .ne 7, 202, 206, 0, 0), (202, .iconst 1, 203, 0, 0, 0), (203, .goto 4, 206, 207, 0, 0), (206, .iconst 0, 207, 0, 0, 0), (207, .invokevirtual 385, 210, 1, 4, 0), (210, .aload 9, 212, 0, 0, 0), (212, .getfield 124, 215, 0, 3, 0), (215, .ireturn, 216, 0, 0, 0)]
def t104 : List ag_I := [(0, .iload_n 0, 1, 0, 0, 0), (1, .ifCond .eq 14, 4, 15, 0, 0), (4, .new 69, 7, 1, 0, 9), (15, .new 135, 18, 3, 0, 9)]
def t105 : List ag_I := [(0, .aload_n 1, 1, 0, 0, 0), (1, .aload_n 0, 2, 0, 0, 0), (2, .getfield 215, 5, 10, 9, 0), (5, .aload_n 0, 6, 0, 0, 0), (6, .getfield 227, 9, 10, 11, 0), (9, .invokevirtual 449, 12, 16, 2, 22), (12, .astore_n 3, 13, 0, 0, 0), (13, .iload_n 2, 14, 0, 0, 0), (14, .ifCond .eq 18, 17, 32, 0, 0), (17, .aload_n 0, 18, 0, 0, 0), (18, .aload_n 0, 19, 0, 0, 0), (19, .getfield 215, 22, 10, 9, 0), (22, .aload_n 0, 23, 0, 0, 0), (23, .getfield 218, 26, 10, 10, 0), (26, .invokevirtual 233, 29, 95, 2, 100), (29, .goto 17, 32, 46, 0, 0), (32, .aload_n 3, 33, 0, 0, 0), (33, .iconst 0, 34, 0, 0, 0), (34, .aload_n 0, 35, 0, 0, 0), (35, .getfield 215, 38, 10, 9, 0), (38, .aload_n 0, 39, 0, 0, 0), (39, .invokevirtual 248, 42, 97, 0, 101), (42, .iconst 1, 43, 0, 0, 0), (43, .invokevirtual 385, 46, 1, 4, 0), (46, .aload_n 3, 47, 0, 0, 0), (47, .areturn, 48, 0, 0, 0)]
def t106 : List ag_I := [(0, .iload_n 2, 1, 0, 0, 0), (1, .ifCond .eq 19, 4, 20, 0, 0), (4, .aload_n 0, 5, 0, 0, 0), (5, .aload_n 1, 6, 0, 0, 0), (6, .getfield 276, 9, 5, 0, 1), (9, .invokevirtual 281, 12, 96, 1, 100), (12, .aload_n 1, 13, 0, 0, 0), (13, .getfield 276, 16, 5, 0, 1), (16, .iconst 0, 17, 0, 0, 0), (17, .putfield 124, 20, 0, 3, 0), (20, .aload_n 0, 21, 0, 0, 0), (21, .aload_n 0, 22, 0, 0, 0), (22, .getfield 215, 25, 10, 9, 0), (25, .aload_n 0, 26, 0, 0, 0), (26, .getfield 218, 29, 10, 10, 0), (29, .invokevirtual 233, 32, 95, 2, 100), (32, .aload_n 1, 33, 0, 0, 0), (33, .getfield 276, 36, 5, 0, 1), (36, .areturn, 37, 0, 0, 0)]
def t107 : List ag_I := [(0, .iconst 0, 1, 0, 0, 0), (1, .istore_n 1, 2, 0, 0, 0), (2, .iload_n 1, 3, 0, 0, 0), (3, .iconst 4, 4, 0, 0, 0), (4, .if_icmp .ge 23, 7, 27, 0, 0), (7, .aload_n 0, 8, 0, 0, 0), (8, .getfield 24, 11, 10, 2, 1), (11, .iload_n 1, 12, 0, 0, 0), (12, .aaload, 13, 105, 0, 0), (13, .getfield 57, 16, 6, 1, 1), (16, .ifnonnull 5, 19, 21, 0, 0), (19, .iload_n 1, 20, 0, 0, 0), (20, .ireturn, 21, 0, 0, 0), (21, .iinc 1 1, 24, 0, 0, 0), (24, .goto (-22), 27, 2, 3, 1), (27, .iconst (-1), 28, 0, 0, 0), (28, .ireturn, 29, 0, 0, 0)]
def t108 : List ag_I := [(0, .iconst 0, 1, 0, 0, 0), (1, .istore_n 1, 2, 0, 0, 0), (2, .iconst 0, 3, 0, 0, 0), (3, .istore_n 2, 4, 0, 0, 0), (4, .iload_n 2, 5, 0, 0, 0), (5, .iconst 4, 6, 0, 0, 0), (6, .if_icmp .ge 24, 9, 30, 0, 0), (9, .aload_n 0, 10, 0, 0, 0), (10, .getfield 24, 13, 10, 2, 1), (13, .iload_n 2, 14, 0, 0, 0), (14, .aaload, 15, 105, 0, 0), (15, .getfield 57, 18, 6, 1, 1), (18, .ifnull 6, 21, 24, 0, 0), (21, .iinc 1 1, 24, 0, 0, 0), (24, .iinc 2 1, 27, 0, 0, 0), (27, .goto (-23), 30, 4, 7, 1), (30, .iload_n 1, 31, 0, 0, 0), (31, .ireturn, 32, 0, 0, 0)]
def t109 : List ag_I := [(0, .iconst 0, 1, 0, 0, 0), (1, .istore_n 1, 2, 0, 0, 0), (2, .iload_n 1, 3, 0, 0, 0), (3, .iconst 4, 4, 0, 0, 0), (4, .if_icmp .ge 28, 7, 32, 0, 0), (7, .aload_n 0, 8, 0, 0, 0), (8, .getfield 18, 11, 10, 1, 1), (11, .iload_n 1, 12, 0, 0, 0), (12, .aaload, 13, 104, 0, 0), (13, .getfield 61, 16, 2, 2, 0), (16, .ifCond .ne 10, 19, 26, 0, 0), (19, .aload_n 0, 20, 0, 0, 0), (20, .getfield 18, 23, 10, 1, 1), (23, .iload_n 1, 24, 0, 0, 0), (24, .aaload, 25, 104, 0, 0), (25, .areturn, 26, 0, 0, 0), (26, .iinc 1 1, 29, 0, 0, 0), (29, .goto (-27), 32, 2, 3, 1), (32, .aconst_null, 33, 0, 0, 0), (33, .areturn, 34, 0, 0, 0)]
def t110 : List ag_I := [(0, .aload_n 2, 1, 0, 0, 0), (1, .iconst 0, 2, 0, 0, 0), (2, .putfield 288, 5, 2, 1, 0), (5, .iconst 0, 6, 0, 0, 0), (6, .istore_n 3, 7, 0, 0, 0), (7, .iload_n 3, 8, 0, 0, 0), (8, .aload_n 1, 9, 0, 0, 0), (9, .getfield 288, 12, 2, 1, 0), (12, .if_icmp .ge 44, 15, 56, 0, 0), (15, .aload_n 1, 16, 0, 0, 0), (16, .iload_n 3, 17, 0, 0, 0), (17, .invokevirtual 270, 20, 15, 1, 22), (20, .astore 4, 22, 0, 0, 0), (22, .aload 4, 24, 0, 0, 0), (24, .ifnull 26, 27, 50, 0, 0), (27, .aload_n 0, 28, 0, 0, 0), (28, .aload 4, 30, 0, 0, 0), (30, .getfield 276, 33, 5, 0, 1), (33, .aload_n 2, 34, 0, 0, 0), (34, .aload 4, 36, 0, 0, 0), (36, .getfield 453, 39, 5, 1, 0), (39, .aload 4, 41, 0, 0, 0), (41, .getfield 456, 44, 5, 2, 0), (44, .invokevirtual 449, 47, 16, 2, 22), (47, .invokevirtual 409, 50, 99, 2, 100), (50, .iinc 3 1, 53, 0, 0, 0), (53, .goto (-46), 56, 7, 15, 1), (56, .return_, 57, 0, 0, 0)]
def t111 : List ag_I := [(0, .iconst 0, 1, 0, 0, 0), (1, .istore_n 2, 2, 0, 0, 0), (2, .iload_n 2, 3, 0, 0, 0), (3, .aload_n 1, 4, 0, 0, 0), (4, .getfield 288, 7, 2, 1, 0), (7, .if_icmp .ge 27, 10, 34, 0, 0), (10, .aload_n 1, 11, 0, 0, 0), (11, .iload_n 2, 12, 0, 0, 0), (12, .invokevirtual 270, 15, 15, 1, 22), (15, .astore_n 3, 16, 0, 0, 0), (16, .aload_n 3, 17, 0, 0, 0), (17, .ifnull 11, 20, 28, 0, 0), (20, .aload_n 0, 21, 0, 0, 0), (21, .aload_n 3, 22, 0, 0, 0), (22, .getfield 276, 25, 5, 0, 1), (25, .invokevirtual 281, 28, 96, 1, 100), (28, .iinc 2 1, 31, 0, 0, 0), (31, .goto (-29), 34, 2, 7, 1), (34, .aload_n 1, 35, 0, 0, 0), (35, .iconst 0, 36, 0, 0, 0), (36, .putfield 288, 39, 2, 1, 0), (39, .return_, 40, 0, 0, 0)]
def t112 : List ag_I := [(0, .aload_n 0, 1, 0, 0, 0), (1, .invokespecial 1, 4, 0, 0, 9), (4, .aload_n 0, 5, 0, 0, 0), (5, .bipush 24, 7, 0, 0, 0), (7, .newarray .char, 9, 101, 0, 0), (9, .putfield 7, 12, 11, 1, 1), (12, .aload_n 0, 13, 0, 0, 0), (13, .bipush 24, 15, 0, 0, 0), (15, .newarray .char, 17, 101, 0, 0), (17, .putfield 13, 20, 11, 3, 1), (20, .aload_n 0, 21, 0, 0, 0), (21, .bipush 12, 23, 0, 0, 0), (23, .newarray .int, 25, 100, 0, 0), (25, .putfield 16, 28, 11, 5, 1), (28, .aload_n 0, 29, 0, 0, 0), (29, .iconst 2, 30, 0, 0, 0), (30, .newarray .int, 32, 100, 0, 0), (32, .putfield 20, 35, 11, 6, 1), (35, .aload_n 0, 36, 0, 0, 0), (36, .sipush 600, 39, 0, 0, 0), (39, .newarray .boolean, 41, 102, 0, 0), (41, .putfield 23, 44, 11, 7, 1), (44, .aload_n 0, 45, 0, 0, 0), (45, .sipush 600, 48, 0, 0, 0), (48, .newarray .boolean, 50, 102, 0, 0), (50, .putfield 27, 53, 11, 8, 1), (53, .aload_n 0, 54, 0, 0, 0), (54, .sipush 600, 57, 0, 0, 0), (57, .newarray .int, 59, 100, 0, 0), (59, .putfield 30, 62, 11, 9, 1), (62, .aload_n 0, 63, 0, 0, 0), (63, .sipush 600, 66, 0, 0, 0), (66, .newarray .int, 68, 100, 0, 0), (68, .putfield 33, 71, 11, 10, 1), (71, .aload_n 0, 72, 0, 0, 0), (72, .sipush 600, 75, 0, 0, 0), (75, .newarray .int, 77, 100, 0, 0), (77, .putfield 36, 80, 11, 11, 1), (80, .aload_n 0, 81, 0, 0, 0), (81, .sipush 600, 84, 0, 0, 0), (84, .newarray .int, 86, 100, 0, 0), (86, .putfield 39, 89, 11, 12, 1), (89, .aload_n 0, 90, 0, 0, 0), (90, .sipush 4800, 93, 0, 0, 0), (93, .newarray .int, 95, 100, 0, 0), (95, .putfield 42, 98, 11, 13, 1), (98, .aload_n 0, 99, 0, 0, 0), (99, .sipush 400, 102, 0, 0, 0), (102, .newarray .int, 104, 100, 0, 0), (104, .putfield 45, 107, 11, 14, 1), (107, .aload_n 0, 108, 0, 0, 0), (108, .iconst 2, 109, 0, 0, 0), (109, .newarray .int, 111, 100, 0, 0), (111, .putfield 48, 114, 11, 15, 1), (114, .aload_n 0, 115, 0, 0, 0), (115, .bipush 40, 117, 0, 0, 0), (117, .newarray .int, 119, 100, 0, 0), (119, .putfield 51, 122, 11, 16, 1), (122, .aload_n 0, 123, 0, 0, 0), (123, .bipush 24, 125, 0, 0, 0), (125, .newarray .int, 127, 100, 0, 0), (127, .putfield 54, 130, 11, 18, 1), (130, .aload_n 0, 131, 0, 0, 0), (131, .iconst 4, 132, 0, 0, 0), (132, .newarray .int, 134, 100, 0, 0), (134, .putfield 57, 137, 11, 22, 1), (137, .aload_n 0, 138, 0, 0, 0), (138, .bipush 16, 140, 0, 0, 0), (140, .newarray .int, 142, 100, 0, 0), (142, .putfield 60, 145, 11, 23, 1), (145, .aload_n 0, 146, 0, 0, 0), (146, .bipush 16, 148, 0, 0, 0), (148, .newarray .int, 150, 100, 0, 0), (150, .putfield 63, 153, 11, 24, 1), (153, .aload_n 0, 154, 0, 0, 0), (154, .bipush 16, 156, 0, 0, 0), (156, .newarray .int, 158, 100, 0, 0), (158, .putfield 66, 161, 11, 25, 1), (161, .aload_n 0, 162, 0, 0, 0), (162, .bipush 48, 164, 0, 0, 0), (164, .newarray .int, 166, 100, 0, 0), (166, .putfield 69, 169, 11, 26, 1), (169, .aload_n 0, 170, 0, 0, 0), (170, .bipush 48, 172, 0, 0, 0), (172, .newarray .int, 174, 100, 0, 0), (174, .putfield 72, 177, 11, 27, 1), (177, .aload_n 0, 178, 0, 0, 0), (178, .bipush 48, 180, 0, 0, 0), (180, .newarray .boolean, 182, 102, 0, 0), (182, .putfield 75, 185, 11, 28, 1), (185, .aload_n 0, 186, 0, 0, 0), (186, .iconst 4, 187, 0, 0, 0), (187, .newarray .boolean, 189, 102, 0, 0), (189, .putfield 78, 192, 11, 29, 1), (192, .aload_n 0, 193, 0, 0, 0), (193, .iconst 4, 194, 0, 0, 0), (194, .newarray .int, 196, 100, 0, 0), (196, .putfield 81, 199, 11, 30, 1), (199, .aload_n 0, 200, 0, 0, 0), (200, .bipush 20, 202, 0, 0, 0), (202, .newarray .int, 204, 100, 0, 0), (204, .putfield 84, 207, 11, 31, 1), (207, .aload_n 0, 208, 0, 0, 0), (208, .bipush 20, 210, 0, 0, 0), (210, .newarray .boolean, 212, 102, 0, 0), (212, .putfield 87, 215, 11, 32, 1), (215, .aload_n 0, 216, 0, 0, 0), (216, .bipush 60, 218, 0, 0, 0), (218, .newarray .int, 220, 100, 0, 0), (220, .putfield 90, 223, 11, 33, 1), (223, .aload_n 0, 224, 0, 0, 0), (224, .bipush 60, 226, 0, 0, 0), (226, .newarray .int, 228, 100, 0, 0), (228, .putfield 93, 231, 11, 34, 1), (231, .aload_n 0, 232, 0, 0, 0), (232, .bipush 20, 234, 0, 0, 0), (234, .newarray .int, 236, 100, 0, 0), (236, .putfield 96, 239, 11, 35, 1), (239, .aload_n 0, 240, 0, 0, 0), (240, .bipush 20, 242, 0, 0, 0), (242, .newarray .int, 244, 100, 0, 0), (244, .putfield 99, 247, 11, 36, 1), (247, .aload_n 0, 248, 0, 0, 0), (248, .bipush 20, 250, 0, 0, 0), (250, .newarray .int, 252, 100, 0, 0), (252, .putfield 102, 255, 11, 37, 1), (255, .aload_n 0, 256, 0, 0, 0), (256, .getfield 78, 259, 11, 29, 1), (259, .iconst 0, 260, 0, 0, 0), (260, .iconst 1, 261, 0, 0, 0), (261, .bastore, 262, 0, 0, 0), (262, .iconst 0, 263, 0, 0, 0), (263, .istore_n 1, 264, 0, 0, 0), (264, .iload_n 1, 265, 0, 0, 0), (265, .iconst 2, 266, 0, 0, 0), (266, .if_icmp .ge 66, 269, 332, 0, 0), (269, .aload_n 0, 270, 0, 0, 0), (270, .getfield 23, 273, 11, 7, 1), (273, .sipush 300, 276, 0, 0, 0), (276, .iload_n 1, 277, 0, 0, 0), (277, .imul, 278, 0, 0, 0), (278, .iconst 1, 279, 0, 0, 0), (279, .bastore, 280, 0, 0, 0), (280, .aload_n 0, 281, 0, 0, 0), (281, .getfield 27, 284, 11, 8, 1), (284, .sipush 300, 287, 0, 0, 0), (287, .iload_n 1, 288, 0, 0, 0), (288, .imul, 289, 0, 0, 0), (289, .iconst 1, 290, 0, 0, 0), (290, .bastore, 291, 0, 0, 0), (291, .aload_n 0, 292, 0, 0, 0), (292, .getfield 30, 295, 11, 9, 1), (295, .sipush 300, 298, 0, 0, 0), (298, .iload_n 1, 299, 0, 0, 0), (299, .imul, 300, 0, 0, 0), (300, .iconst (-1), 301, 0, 0, 0), (301, .iastore, 302, 0, 0, 0), (302, .aload_n 0, 303, 0, 0, 0), (303, .getfield 33, 306, 11, 10, 1), (306, .sipush 300, 309, 0, 0, 0), (309, .iload_n 1, 310, 0, 0, 0), (310, .imul, 311, 0, 0, 0), (311, .iconst (-1), 312, 0, 0, 0), (312, .iastore, 313, 0, 0, 0), (313, .aload_n 0, 314, 0, 0, 0), (314, .getfield 20, 317, 11, 6, 1), (317, .iload_n 1, 318, 0, 0, 0), (318, .iconst 1, 319, 0, 0, 0), (319, .iastore, 320, 0, 0, 0), (320, .aload_n 0, 321, 0, 0, 0), (321, .iload_n 1, 322, 0, 0, 0), (322, .iconst 0, 323, 0, 0, 0), (323, .invokevirtual 105, 326, 123, 2, 110), (326, .iinc 1 1, 329, 0, 0, 0), (329, .goto (-65), 332, 264, 3, 1), (332, .return_, 333, 0, 0, 0)]
def t113 : List ag_I := [(0, .aload_n 0, 1, 0, 0, 0), (1, .getfield 109, 4, 11, 41, 0), (4, .ireturn, 5, 0, 0, 0)]
def t114 : List ag_I := [(0, .iload_n 0, 1, 0, 0, 0), (1, .iload_n 1, 2, 0, 0, 0), (2, .if_icmp .lt 8, 5, 10, 0, 0), (5, .iload_n 0, 6, 0, 0, 0), (6, .iload_n 2, 7, 0, 0, 0), (7, .if_icmp .le 7, 10, 14, 0, 0), (10, .iconst 1, 11, 0, 0, 0), (11, .goto 4, 14, 15, 0, 0), (14, .iconst 0, 15, 0, 0, 0), (15, .ireturn, 16, 0, 0, 0)]
def t115 : List ag_I := [(0, .iconst 0, 1, 0, 0, 0), (1, .istore_n 3, 2, 0, 0, 0), (2, .iload_n 3, 3, 0, 0, 0), (3, .iload_n 2, 4, 0, 0, 0), (4, .if_icmp .ge 38, 7, 42, 0, 0), (7, .aload_n 0, 8, 0, 0, 0), (8, .getfield 51, 11, 11, 16, 1), (11, .aload_n 0, 12, 0, 0, 0), (12, .getfield 113, 15, 11, 17, 0), (15, .iload_n 1, 16, 0, 0, 0), (16, .bipush 8, 18, 0, 0, 0), (18, .iload_n 3, 19, 0, 0, 0), (19, .imul, 20, 0, 0, 0), (20, .iushr, 21, 0, 0, 0), (21, .sipush 255, 24, 0, 0, 0), (24, .iand, 25, 0, 0, 0), (25, .iastore, 26, 0, 0, 0), (26, .aload_n 0, 27, 0, 0, 0), (27, .dup, 28, 0, 0, 0), (28, .getfield 113, 31, 11, 17, 0), (31, .iconst 1, 32, 0, 0, 0), (32, .iadd, 33, 0, 0, 0), (33, .putfield 113, 36, 11, 17, 0), (36, .iinc 3 1, 39, 0, 0, 0), (39, .goto (-37), 42, 2, 15, 1), (42, .return_, 43, 0, 0, 0)]
def t116 : List ag_I := [(0, .iconst 0, 1, 0, 0, 0), (1, .istore_n 3, 2, 0, 0, 0), (2, .iload_n 3, 3, 0, 0, 0), (3, .iload_n 2, 4, 0, 0, 0), (4, .if_icmp .ge 38, 7, 42, 0, 0), (7, .aload_n 0, 8, 0, 0, 0), (8, .getfield 54, 11, 11, 18, 1), (11, .aload_n 0, 12, 0, 0, 0), (12, .getfield 116, 15, 11, 19, 0), (15, .iload_n 1, 16, 0, 0, 0), (16, .bipush 8, 18, 0, 0, 0), (18, .iload_n 3, 19, 0, 0, 0), (19, .imul, 20, 0, 0, 0), (20, .iushr, 21, 0, 0, 0), (21, .sipush 255, 24, 0, 0, 0), (24, .iand, 25, 0, 0, 0), (25, .iastore, 26, 0, 0, 0), (26, .aload_n 0, 27, 0, 0, 0), (27, .dup, 28, 0, 0, 0), (28, .getfield 116, 31, 11, 19, 0), (31, .iconst 1, 32, 0, 0, 0), (32, .iadd, 33, 0, 0, 0), (33, .putfield 116, 36, 11, 19, 0), (36, .iinc 3 1, 39, 0, 0, 0), (39, .goto (-37), 42, 2, 15, 1), (42, .return_, 43, 0, 0, 0)]
def t117 : List ag_I := [(0, .aload_n 0, 1, 0, 0, 0), (1, .iconst 4, 2, 0, 0, 0), (2, .putfield 113, 5, 11, 17, 0), (5, .aload_n 0, 6, 0, 0, 0), (6, .iload_n 2, 7, 0, 0, 0), (7, .iconst 1, 8, 0, 0, 0), (8, .invokevirtual 119, 11, 115, 2, 110), (11, .aload_n 0, 12, 0, 0, 0), (12, .iconst 1, 13, 0, 0, 0), (13, .iconst 2, 14, 0, 0, 0), (14, .invokevirtual 119, 17, 115, 2, 110), (17, .aload_n 0, 18, 0, 0, 0), (18, .iload_n 3, 19, 0, 0, 0), (19, .iconst 4, 20, 0, 0, 0), (20, .invokevirtual 119, 23, 115, 2, 110), (23, .aload_n 0, 24, 0, 0, 0), (24, .getfield 48, 27, 11, 15, 1), (27, .iload_n 1, 28, 0, 0, 0), (28, .dup2, 29, 0, 0, 0), (29, .iaload, 30, 0, 0, 0), (30, .iconst 1, 31, 0, 0, 0), (31, .iadd, 32, 0, 0, 0), (32, .iastore, 33, 0, 0, 0), (33, .aload_n 0, 34, 0, 0, 0), (34, .iconst 0, 35, 0, 0, 0), (35, .putfield 122, 38, 11, 20, 0), (38, .aload_n 0, 39, 0, 0, 0), (39, .iconst 4, 40, 0, 0, 0), (40, .putfield 116, 43, 11, 19, 0), (43, .aload_n 0, 44, 0, 0, 0), (44, .iload_n 2, 45, 0, 0, 0), (45, .iconst 1, 46, 0, 0, 0), (46, .iadd, 47, 0, 0, 0), (47, .iconst 1, 48, 0, 0, 0), (48, .invokevirtual 125, 51, 116, 2, 110), (51, .aload_n 0, 52, 0, 0, 0), (52, .iconst 1, 53, 0, 0, 0), (53, .iconst 2, 54, 0, 0, 0), (54, .invokevirtual 125, 57, 116, 2, 110), (57, .return_, 58, 0, 0, 0)]
def t118 : List ag_I := [(0, .aload_n 0, 1, 0, 0, 0), (1, .iload_n 1, 2, 0, 0, 0), (2, .putfield 122, 5, 11, 20, 0), (5, .aload_n 0, 6, 0, 0, 0), (6, .iconst 4, 7, 0, 0, 0), (7, .putfield 116, 10, 11, 19, 0), (10, .aload_n 0, 11, 0, 0, 0), (11, .bipush 107, 13, 0, 0, 0), (13, .iconst 1, 14, 0, 0, 0), (14, .invokevirtual 125, 17, 116, 2, 110), (17, .aload_n 0, 18, 0, 0, 0), (18, .iconst 1, 19, 0, 0, 0), (19, .iconst 2, 20, 0, 0, 0), (20, .invokevirtual 125, 23, 116, 2, 110), (23, .aload_n 0, 24, 0, 0, 0), (24, .iconst 1, 25, 0, 0, 0), (25, .iconst 2, 26, 0, 0, 0), (26, .invokevirtual 125, 29, 116, 2, 110), (29, .aload_n 0, 30, 0, 0, 0), (30, .iload_n 1, 31, 0, 0, 0), (31, .iconst 1, 32, 0, 0, 0), (32, .invokevirtual 125, 35, 116, 2, 110), (35, .return_, 36, 0, 0, 0)]
def t119 : List ag_I := [(0, .aload_n 0, 1, 0, 0, 0), (1, .aload_n 0, 2, 0, 0, 0), (2, .getfield 27, 5, 11, 8, 1), (5, .iload_n 1, 6, 0, 0, 0), (6, .baload, 7, 0, 0, 0), (7, .ifCond .eq 7, 10, 14, 0, 0), (10, .iconst 1, 11, 0, 0, 0), (11, .goto 4, 14, 15, 0, 0), (14, .iconst 0, 15, 0, 0, 0), (15, .iconst 1, 16, 0, 0, 0), (16, .invokevirtual 125, 19, 116, 2, 110), (19, .aload_n 0, 20, 0, 0, 0), (20, .aload_n 0, 21, 0, 0, 0), (21, .getfield 39, 24, 11, 12, 1), (24, .iload_n 1, 25, 0, 0, 0), (25, .iaload, 26, 0, 0, 0), (26, .iconst 4, 27, 0, 0, 0), (27, .invokevirtual 125, 30, 116, 2, 110), (30, .aload_n 0, 31, 0, 0, 0), (31, .iload_n 1, 32, 0, 0, 0), (32, .sipush 300, 35, 0, 0, 0), (35, .irem, 36, 0, 0, 0), (36, .iconst 4, 37, 0, 0, 0), (37, .invokevirtual 125, 40, 116, 2, 110), (40, .return_, 41, 0, 0, 0)]
def t120 : List ag_I := [(0, .iconst 0, 1, 0, 0, 0), (1, .istore_n 1, 2, 0, 0, 0), (2, .iload_n 1, 3, 0, 0, 0), (3, .iconst 4, 4, 0, 0, 0), (4, .if_icmp .ge 47, 7, 51, 0, 0), (7, .aload_n 0, 8, 0, 0, 0), (8, .getfield 51, 11, 11, 16, 1), (11, .iload_n 1, 12, 0, 0, 0), (12, .aload_n 0, 13, 0, 0, 0), (13, .getfield 113, 16, 11, 17, 0), (16, .bipush 8, 18, 0, 0, 0), (18, .iload_n 1, 19, 0, 0, 0), (19, .imul, 20, 0, 0, 0), (20, .iushr, 21, 0, 0, 0), (21, .sipush 255, 24, 0, 0, 0), (24, .iand, 25, 0, 0, 0), (25, .iastore, 26, 0, 0, 0), (26, .aload_n 0, 27, 0, 0, 0), (27, .getfield 54, 30, 11, 18, 1), (30, .iload_n 1, 31, 0, 0, 0), (31, .aload_n 0, 32, 0, 0, 0), (32, .getfield 116, 35, 11, 19, 0), (35, .bipush 8, 37, 0, 0, 0), (37, .iload_n 1, 38, 0, 0, 0), (38, .imul, 39, 0, 0, 0), (39, .iushr, 40, 0, 0, 0), (40, .sipush 255, 43, 0, 0, 0), (43, .iand, 44, 0, 0, 0), (44, .iastore, 45, 0, 0, 0), (45, .iinc 1 1, 48, 0, 0, 0), (48, .goto (-46), 51, 2, 3, 1), (51, .return_, 52, 0, 0, 0)]
def t121 : List ag_I := [(0, .sipush 300, 3, 0, 0, 0), (3, .iload_n 1, 4, 0, 0, 0), (4, .imul, 5, 0, 0, 0), (5, .aload_n 0, 6, 0, 0, 0), (6, .getfield 45, 9, 11, 14, 1), (9, .sipush 200, 12, 0, 0, 0), (12, .iload_n 1, 13, 0, 0, 0), (13, .imul, 14, 0, 0, 0), (14, .iload_n 2, 15, 0, 0, 0), (15, .iadd, 16, 0, 0, 0), (16, .iaload, 17, 0, 0, 0), (17, .iadd, 18, 0, 0, 0), (18, .iconst 1, 19, 0, 0, 0), (19, .isub, 20, 0, 0, 0), (20, .ireturn, 21, 0, 0, 0)]
def t122 : List ag_I := [(0, .iconst 0, 1, 0, 0, 0), (1, .istore_n 2, 2, 0, 0, 0), (2, .aload_n 0, 3, 0, 0, 0), (3, .getfield 45, 6, 11, 14, 1), (6, .sipush 200, 9, 0, 0, 0), (9, .iload_n 1, 10, 0, 0, 0), (10, .imul, 11, 0, 0, 0), (11, .iload_n 2, 12, 0, 0, 0), (12, .iadd, 13, 0, 0, 0), (13, .iaload, 14, 0, 0, 0), (14, .ifCond .eq 9, 17, 23, 0, 0), (17, .iinc 2 1, 20, 0, 0, 0), (20, .goto (-18), 23, 2, 7, 1), (23, .iload_n 2, 24, 0, 0, 0), (24, .ireturn, 25, 0, 0, 0)]
def t123 : List ag_I := [(0, .aload_n 0, 1, 0, 0, 0), (1, .iload_n 1, 2, 0, 0, 0), (2, .bipush 104, 4, 0, 0, 0), (4, .iload_n 2, 5, 0, 0, 0), (5, .invokevirtual 128, 8, 117, 3, 110), (8, .aload_n 0, 9, 0, 0, 0), (9, .getfield 45, 12, 11, 14, 1), (12, .sipush 200, 15, 0, 0, 0), (15, .iload_n 1, 16, 0, 0, 0), (16, .imul, 17, 0, 0, 0), (17, .iload_n 2, 18, 0, 0, 0), (18, .iadd, 19, 0, 0, 0), (19, .iconst 1, 20, 0, 0, 0), (20, .iastore, 21, 0, 0, 0), (21, .aload_n 0, 22, 0, 0, 0), (22, .sipush 300, 25, 0, 0, 0), (25, .iload_n 1, 26, 0, 0, 0), (26, .imul, 27, 0, 0, 0), (27, .invokevirtual 132, 30, 119, 1, 110), (30, .aload_n 0, 31, 0, 0, 0), (31, .invokevirtual 136, 34, 120, 0, 110), (34, .return_, 35, 0, 0, 0)]
def t124 : List ag_I := [(0, .sipush 300, 3, 0, 0, 0), (3, .iload_n 1, 4, 0, 0, 0), (4, .imul, 5, 0, 0, 0), (5, .istore 4, 7, 0, 0, 0), (7, .iload 4, 9, 0, 0, 0), (9, .sipush 300, 12, 0, 0, 0), (12, .iload_n 1, 13, 0, 0, 0), (13, .imul, 14, 0, 0, 0), (14, .aload_n 0, 15, 0, 0, 0), (15, .getfield 20, 18, 11, 6, 1), (18, .iload_n 1, 19, 0, 0, 0), (19, .iaload, 20, 0, 0, 0), (20, .iadd, 21, 0, 0, 0), (21, .if_icmp .ge 44, 24, 65, 0, 0), (24, .aload_n 0, 25, 0, 0, 0), (25, .getfield 23, 28, 11, 7, 1), (28, .iload 4, 30, 0, 0, 0), (30, .baload, 31, 0, 0, 0), (31, .ifCond .eq 28, 34, 59, 0, 0), (34, .aload_n 0, 35, 0, 0, 0), (35, .getfield 33, 38, 11, 10, 1), (38, .iload 4, 40, 0, 0, 0), (40, .iaload, 41, 0, 0, 0), (41, .iload_n 2, 42, 0, 0, 0), (42, .if_icmp .ne 17, 45, 59, 0, 0), (45, .aload_n 0, 46, 0, 0, 0), (46, .getfield 30, 49, 11, 9, 1), (49, .iload 4, 51, 0, 0, 0), (51, .iaload, 52, 0, 0, 0), (52, .iload_n 3, 53, 0, 0, 0), (53, .if_icmp .ne 6, 56, 59, 0, 0), (56, .iload 4, 58, 0, 0, 0), (58, .ireturn, 59, 0, 0, 0), (59, .iinc 4 1, 62, 0, 0, 0), (62, .goto (-55), 65, 7, 31, 1), (65, .iconst (-1), 66, 0, 0, 0), (66, .ireturn, 67, 0, 0, 0)]
def t125 : List ag_I := [(0, .aload_n 0, 1, 0, 0, 0), (1, .aload_n 0, 2, 0, 0, 0), (2, .iload_n 1, 3, 0, 0, 0), (3, .invokevirtual 139, 6, 122, 1, 111), (6, .putfield 143, 9, 11, 40, 0), (9, .aload_n 0, 10, 0, 0, 0), (10, .iload_n 1, 11, 0, 0, 0), (11, .iload_n 2, 12, 0, 0, 0), (12, .invokevirtual 146, 15, 121, 2, 111), (15, .istore 4, 17, 0, 0, 0), (17, .aload_n 0, 18, 0, 0, 0), (18, .iload_n 1, 19, 0, 0, 0), (19, .bipush 110, 21, 0, 0, 0), (21, .iload_n 2, 22, 0, 0, 0), (22, .invokevirtual 128, 25, 117, 3, 110), (25, .aload_n 0, 26, 0, 0, 0), (26, .aload_n 0, 27, 0, 0, 0), (27, .getfield 143, 30, 11, 40, 0), (30, .iconst 4, 31, 0, 0, 0), (31, .invokevirtual 119, 34, 115, 2, 110), (34, .aload_n 0, 35, 0, 0, 0), (35, .iload_n 3, 36, 0, 0, 0), (36, .ifCond .ge 7, 39, 43, 0, 0), (39, .iconst 0, 40, 0, 0, 0), (40, .goto 4, 43, 44, 0, 0), (43, .iconst 1, 44, 0, 0, 0), (44, .iconst 2, 45, 0, 0, 0), (45, .invokevirtual 119, 48, 115, 2, 110), (48, .iload_n 3, 49, 0, 0, 0), (49, .ifCond .lt 18, 52, 67, 0, 0), (52, .aload_n 0, 53, 0, 0, 0), (53, .iconst 1, 54, 0, 0, 0), (54, .iconst 2, 55, 0, 0, 0), (55, .invokevirtual 119, 58, 115, 2, 110), (58, .aload_n 0, 59, 0, 0, 0), (59, .bipush 97, 61, 0, 0, 0), (61, .iload_n 3, 62, 0, 0, 0), (62, .iadd, 63, 0, 0, 0), (63, .iconst 1, 64, 0, 0, 0), (64, .invokevirtual 119, 67, 115, 2, 110), (67, .iload_n 3, 68, 0, 0, 0), (68, .ifCond .ge 33, 71, 101, 0, 0), (71, .aload_n 0, 72, 0, 0, 0), (72, .getfield 45, 75, 11, 14, 1), (75, .sipush 200, 78, 0, 0, 0), (78, .iload_n 1, 79, 0, 0, 0), (79, .imul, 80, 0, 0, 0), (80, .aload_n 0, 81, 0, 0, 0), (81, .getfield 143, 84, 11, 40, 0), (84, .iadd, 85, 0, 0, 0), (85, .aload_n 0, 86, 0, 0, 0), (86, .getfield 45, 89, 11, 14, 1), (89, .sipush 200, 92, 0, 0, 0), (92, .iload_n 1, 93, 0, 0, 0), (93, .imul, 94, 0, 0, 0), (94, .iload_n 2, 95, 0, 0, 0), (95, .iadd, 96, 0, 0, 0), (96, .iaload, 97, 0, 0, 0), (97, .iastore, 98, 0, 0, 0), (98, .goto 94, 101, 192, 0, 0), (101, .aload_n 0, 102, 0, 0, 0), (102, .getfield 23, 105, 11, 7, 1), (105, .iload 4, 107, 0, 0, 0), (107, .baload, 108, 0, 0, 0), (108, .ifCond .ne 12, 111, 120, 0, 0), (111, .aload_n 0, 112, 0, 0, 0), (112, .bipush 110, 114, 0, 0, 0), (114, .invokevirtual 150, 117, 118, 1, 110), (117, .goto 75, 120, 192, 0, 0), (120, .aload_n 0, 121, 0, 0, 0), (121, .getfield 27, 124, 11, 8, 1), (124, .iload 4, 126, 0, 0, 0), (126, .baload, 127, 0, 0, 0), (127, .ifCond .ne 12, 130, 139, 0, 0), (130, .aload_n 0, 131, 0, 0, 0), (131, .bipush 100, 133, 0, 0, 0), (133, .invokevirtual 150, 136, 118, 1, 110), (136, .goto 56, 139, 192, 0, 0), (139, .aload_n 0, 140, 0, 0, 0), (140, .iload_n 1, 141, 0, 0, 0), (141, .iload 4, 143, 0, 0, 0), (143, .iload_n 3, 144, 0, 0, 0), (144, .invokevirtual 153, 147, 124, 3, 111), (147, .istore 5, 149, 0, 0, 0), (149, .iload 5, 151, 0, 0, 0), (151, .ifCond .ge 12, 154, 163, 0, 0), (154, .aload_n 0, 155, 0, 0, 0), (155, .bipush 110, 157, 0, 0, 0), (157, .invokevirtual 150, 160, 118, 1, 110), (160, .goto 32, 163, 192, 0, 0), (163, .aload_n 0, 164, 0, 0, 0), (164, .getfield 45, 167, 11, 14, 1), (167, .sipush 200, 170, 0, 0, 0), (170, .iload_n 1, 171, 0, 0, 0), (171, .imul, 172, 0, 0, 0), (172, .aload_n 0, 173, 0, 0, 0), (173, .getfield 143, 176, 11, 40, 0), (176, .iadd, 177, 0, 0, 0), (177, .iload 5, 179, 0, 0, 0), (179, .sipush 300, 182, 0, 0, 0), (182, .irem, 183, 0, 0, 0), (183, .iconst 1, 184, 0, 0, 0), (184, .iadd, 185, 0, 0, 0), (185, .iastore, 186, 0, 0, 0), (186, .aload_n 0, 187, 0, 0, 0), (187, .iload 5, 189, 0, 0, 0), (189, .invokevirtual 132, 192, 119, 1, 110), (192, .aload_n 0, 193, 0, 0, 0), (193, .invokevirtual 136, 196, 120, 0, 110), (196, .return_, 197, 0, 0, 0)]
def t126 : List ag_I := [(0, .aload_n 0, 1, 0, 0, 0), (1, .iload_n 1, 2, 0, 0, 0), (2, .iload_n 2, 3, 0, 0, 0), (3, .invokevirtual 146, 6, 121, 2, 111), (6, .istore 4, 8, 0, 0, 0), (8, .aload_n 0, 9, 0, 0, 0), (9, .iload_n 1, 10, 0, 0, 0), (10, .bipush 112, 12, 0, 0, 0), (12, .iload_n 2, 13, 0, 0, 0), (13, .invokevirtual 128, 16, 117, 3, 110), (16, .aload_n 0, 17, 0, 0, 0), (17, .iload_n 3, 18, 0, 0, 0), (18, .iconst 1, 19, 0, 0, 0), (19, .invokevirtual 119, 22, 115, 2, 110), (22, .aload_n 0, 23, 0, 0, 0), (23, .getfield 23, 26, 11, 7, 1), (26, .iload 4, 28, 0, 0, 0), (28, .baload, 29, 0, 0, 0), (29, .ifCond .ne 12, 32, 41, 0, 0), (32, .aload_n 0, 33, 0, 0, 0), (33, .bipush 110, 35, 0, 0, 0), (35, .invokevirtual 150, 38, 118, 1, 110), (38, .goto 32, 41, 70, 0, 0), (41, .aload_n 0, 42, 0, 0, 0), (42, .getfield 27, 45, 11, 8, 1), (45, .iload 4, 47, 0, 0, 0), (47, .baload, 48, 0, 0, 0), (48, .ifCond .eq 16, 51, 64, 0, 0), (51, .iload_n 3, 52, 0, 0, 0), (52, .ifCond .eq 12, 55, 64, 0, 0), (55, .aload_n 0, 56, 0, 0, 0), (56, .bipush 112, 58, 0, 0, 0), (58, .invokevirtual 150, 61, 118, 1, 110), (61, .goto 9, 64, 70, 0, 0), (64, .aload_n 0, 65, 0, 0, 0), (65, .iload 4, 67, 0, 0, 0), (67, .invokevirtual 132, 70, 119, 1, 110), (70, .aload_n 0, 71, 0, 0, 0), (71, .invokevirtual 136, 74, 120, 0, 110), (74, .return_, 75, 0, 0, 0)]
def t127 : List ag_I := [(0, .iconst 0, 1, 0, 0, 0), (1, .istore_n 2, 2, 0, 0, 0), (2, .sipush 300, 5, 0, 0, 0), (5, .iload_n 1, 6, 0, 0, 0), (6, .imul, 7, 0, 0, 0), (7, .istore_n 3, 8, 0, 0, 0), (8, .iload_n 3, 9, 0, 0, 0), (9, .sipush 300, 12, 0, 0, 0), (12, .iload_n 1, 13, 0, 0, 0), (13, .imul, 14, 0, 0, 0), (14, .aload_n 0, 15, 0, 0, 0), (15, .getfield 20, 18, 11, 6, 1), (18, .iload_n 1, 19, 0, 0, 0), (19, .iaload, 20, 0, 0, 0), (20, .iadd, 21, 0, 0, 0), (21, .if_icmp .ge 26, 24, 47, 0, 0), (24, .aload_n 0, 25, 0, 0, 0), (25, .getfield 23, 28, 11, 7, 1), (28, .iload_n 3, 29, 0, 0, 0), (29, .baload, 30, 0, 0, 0), (30, .ifCond .eq 9, 33, 39, 0, 0), (33, .iload_n 2, 34, 0, 0, 0), (34, .iconst 1, 35, 0, 0, 0), (35, .iadd, 36, 0, 0, 0), (36, .goto 4, 39, 40, 0, 0), (39, .iload_n 2, 40, 0, 0, 0), (40, .istore_n 2, 41, 0, 0, 0), (41, .iinc 3 1, 44, 0, 0, 0), (44, .goto (-36), 47, 8, 15, 1), (47, .iload_n 2, 48, 0, 0, 0), (48, .ireturn, 49, 0, 0, 0)]
def t128 : List ag_I := [(0, .aload_n 0, 1, 0, 0, 0), (1, .iload_n 1, 2, 0, 0, 0), (2, .iload_n 2, 3, 0, 0, 0), (3, .invokevirtual 146, 6, 121, 2, 111), (6, .istore 5, 8, 0, 0, 0), (8, .aload_n 0, 9, 0, 0, 0), (9, .iload_n 1, 10, 0, 0, 0), (10, .bipush 114, 12, 0, 0, 0), (12, .iload_n 2, 13, 0, 0, 0), (13, .invokevirtual 128, 16, 117, 3, 110), (16, .aload_n 0, 17, 0, 0, 0), (17, .iconst 1, 18, 0, 0, 0), (18, .iconst 2, 19, 0, 0, 0), (19, .invokevirtual 119, 22, 115, 2, 110), (22, .aload_n 0, 23, 0, 0, 0), (23, .bipush 97, 25, 0, 0, 0), (25, .iload_n 3, 26, 0, 0, 0), (26, .iadd, 27, 0, 0, 0), (27, .iconst 1, 28, 0, 0, 0), (28, .invokevirtual 119, 31, 115, 2, 110), (31, .aload_n 0, 32, 0, 0, 0), (32, .iload 4, 34, 0, 0, 0), (34, .ifCond .eq 7, 37, 41, 0, 0), (37, .iconst 1, 38, 0, 0, 0), (38, .goto 4, 41, 42, 0, 0), (41, .iconst 0, 42, 0, 0, 0), (42, .iconst 1, 43, 0, 0, 0), (43, .invokevirtual 119, 46, 115, 2, 110), (46, .aload_n 0, 47, 0, 0, 0), (47, .getfield 23, 50, 11, 7, 1), (50, .iload 5, 52, 0, 0, 0), (52, .baload, 53, 0, 0, 0), (53, .ifCond .ne 12, 56, 65, 0, 0), (56, .aload_n 0, 57, 0, 0, 0), (57, .bipush 110, 59, 0, 0, 0), (59, .invokevirtual 150, 62, 118, 1, 110), (62, .goto 145, 65, 207, 0, 0), (65, .aload_n 0, 66, 0, 0, 0), (66, .getfield 27, 69, 11, 8, 1), (69, .iload 5, 71, 0, 0, 0), (71, .baload, 72, 0, 0, 0), (72, .ifCond .ne 12, 75, 84, 0, 0), (75, .aload_n 0, 76, 0, 0, 0), (76, .bipush 100, 78, 0, 0, 0), (78, .invokevirtual 150, 81, 118, 1, 110), (81, .goto 126, 84, 207, 0, 0), (84, .aload_n 0, 85, 0, 0, 0), (85, .iload_n 1, 86, 0, 0, 0), (86, .iload 5, 88, 0, 0, 0), (88, .iload_n 3, 89, 0, 0, 0), (89, .invokevirtual 153, 92, 124, 3, 111), (92, .ifCond .lt 12, 95, 104, 0, 0), (95, .aload_n 0, 96, 0, 0, 0), (96, .bipush 120, 98, 0, 0, 0), (98, .invokevirtual 150, 101, 118, 1, 110), (101, .goto 106, 104, 207, 0, 0), (104, .aload_n 0, 105, 0, 0, 0), (105, .iload_n 1, 106, 0, 0, 0), (106, .invokevirtual 157, 109, 127, 1, 111), (109, .bipush 20, 111, 0, 0, 0), (111, .if_icmp .ne 12, 114, 123, 0, 0), (114, .aload_n 0, 115, 0, 0, 0), (115, .bipush 102, 117, 0, 0, 0), (117, .invokevirtual 150, 120, 118, 1, 110), (120, .goto 87, 123, 207, 0, 0), (123, .sipush 300, 126, 0, 0, 0), (126, .iload_n 1, 127, 0, 0, 0), (127, .imul, 128, 0, 0, 0), (128, .aload_n 0, 129, 0, 0, 0), (129, .getfield 20, 132, 11, 6, 1), (132, .iload_n 1, 133, 0, 0, 0), (133, .iaload, 134, 0, 0, 0), (134, .iadd, 135, 0, 0, 0), (135, .istore 6, 137, 0, 0, 0), (137, .aload_n 0, 138, 0, 0, 0), (138, .getfield 20, 141, 11, 6, 1), (141, .iload_n 1, 142, 0, 0, 0), (142, .dup2, 143, 0, 0, 0), (143, .iaload, 144, 0, 0, 0), (144, .iconst 1, 145, 0, 0, 0), (145, .iadd, 146, 0, 0, 0), (146, .iastore, 147, 0, 0, 0), (147, .aload_n 0, 148, 0, 0, 0), (148, .getfield 23, 151, 11, 7, 1), (151, .iload 6, 153, 0, 0, 0), (153, .iconst 1, 154, 0, 0, 0), (154, .bastore, 155, 0, 0, 0), (155, .aload_n 0, 156, 0, 0, 0), (156, .getfield 27, 159, 11, 8, 1), (159, .iload 6, 161, 0, 0, 0), (161, .iload 4, 163, 0, 0, 0), (163, .bastore, 164, 0, 0, 0), (164, .aload_n 0, 165, 0, 0, 0), (165, .getfield 30, 168, 11, 9, 1), (168, .iload 6, 170, 0, 0, 0), (170, .iload_n 3, 171, 0, 0, 0), (171, .iastore, 172, 0, 0, 0), (172, .aload_n 0, 173, 0, 0, 0), (173, .getfield 33, 176, 11, 10, 1), (176, .iload 6, 178, 0, 0, 0), (178, .iload 5, 180, 0, 0, 0), (180, .iastore, 181, 0, 0, 0), (181, .aload_n 0, 182, 0, 0, 0), (182, .getfield 45, 185, 11, 14, 1), (185, .sipush 200, 188, 0, 0, 0), (188, .iload_n 1, 189, 0, 0, 0), (189, .imul, 190, 0, 0, 0), (190, .iload_n 2, 191, 0, 0, 0), (191, .iadd, 192, 0, 0, 0), (192, .iload 6, 194, 0, 0, 0), (194, .sipush 300, 197, 0, 0, 0), (197, .irem, 198, 0, 0, 0), (198, .iconst 1, 199, 0, 0, 0), (199, .iadd, 200, 0, 0, 0), (200, .iastore, 201, 0, 0, 0), (201, .aload_n 0, 202, 0, 0, 0), (202, .iload 6, 204, 0, 0, 0), (204, .invokevirtual 132, 207, 119, 1, 110), (207, .aload_n 0, 208, 0, 0, 0), (208, .invokevirtual 136, 211, 120, 0, 110), (211, .return_, 212, 0, 0, 0)]
def t129 : List ag_I := [(0, .iload_n 3, 1, 0, 0, 0), (1, .istore 4, 3, 0, 0, 0), (3, .sipush 300, 6, 0, 0, 0), (6, .iload_n 1, 7, 0, 0, 0), (7, .imul, 8, 0, 0, 0), (8, .istore 5, 10, 0, 0, 0), (10, .iload 5, 12, 0, 0, 0), (12, .sipush 300, 15, 0, 0, 0), (15, .iload_n 1, 16, 0, 0, 0), (16, .imul, 17, 0, 0, 0), (17, .aload_n 0, 18, 0, 0, 0), (18, .getfield 20, 21, 11, 6, 1), (21, .iload_n 1, 22, 0, 0, 0), (22, .iaload, 23, 0, 0, 0), (23, .iadd, 24, 0, 0, 0), (24, .if_icmp .ge 49, 27, 73, 0, 0), (27, .aload_n 0, 28, 0, 0, 0), (28, .getfield 23, 31, 11, 7, 1), (31, .iload 5, 33, 0, 0, 0), (33, .baload, 34, 0, 0, 0), (34, .ifCond .eq 33, 37, 67, 0, 0), (37, .aload_n 0, 38, 0, 0, 0), (38, .getfield 33, 41, 11, 10, 1), (41, .iload 5, 43, 0, 0, 0), (43, .iaload, 44, 0, 0, 0), (44, .iload_n 2, 45, 0, 0, 0), (45, .if_icmp .ne 22, 48, 67, 0, 0), (48, .iload 4, 50, 0, 0, 0), (50, .ifCond .ne 14, 53, 64, 0, 0), (53, .bipush 97, 55, 0, 0, 0), (55, .aload_n 0, 56, 0, 0, 0), (56, .getfield 30, 59, 11, 9, 1), (59, .iload 5, 61, 0, 0, 0), (61, .iaload, 62, 0, 0, 0), (62, .iadd, 63, 0, 0, 0), (63, .ireturn, 64, 0, 0, 0), (64, .iinc 4 (-1), 67, 0, 0, 0), (67, .iinc 5 1, 70, 0, 0, 0), (70, .goto (-60), 73, 10, 55, 1), (73, .iconst (-1), 74, 0, 0, 0), (74, .ireturn, 75, 0, 0, 0)]
def t130 : List ag_I := [(0, .aload_n 0, 1, 0, 0, 0), (1, .iload_n 1, 2, 0, 0, 0), (2, .iload_n 2, 3, 0, 0, 0), (3, .invokevirtual 146, 6, 121, 2, 111), (6, .istore 4, 8, 0, 0, 0), (8, .aload_n 0, 9, 0, 0, 0), (9, .iload_n 1, 10, 0, 0, 0), (10, .bipush 116, 12, 0, 0, 0), (12, .iload_n 2, 13, 0, 0, 0), (13, .invokevirtual 128, 16, 117, 3, 110), (16, .aload_n 0, 17, 0, 0, 0), (17, .iload_n 3, 18, 0, 0, 0), (18, .iconst 4, 19, 0, 0, 0), (19, .invokevirtual 119, 22, 115, 2, 110), (22, .aload_n 0, 23, 0, 0, 0), (23, .iconst (-1), 24, 0, 0, 0), (24, .putfield 160, 27, 11, 21, 0), (27, .aload_n 0, 28, 0, 0, 0), (28, .getfield 23, 31, 11, 7, 1), (31, .iload 4, 33, 0, 0, 0), (33, .baload, 34, 0, 0, 0), (34, .ifCond .ne 12, 37, 46, 0, 0), (37, .aload_n 0, 38, 0, 0, 0), (38, .bipush 110, 40, 0, 0, 0), (40, .invokevirtual 150, 43, 118, 1, 110), (43, .goto 88, 46, 131, 0, 0), (46, .aload_n 0, 47, 0, 0, 0), (47, .aload_n 0, 48, 0, 0, 0), (48, .getfield 27, 51, 11, 8, 1), (51, .iload 4, 53, 0, 0, 0), (53, .baload, 54, 0, 0, 0), (54, .ifCond .eq 14, 57, 68, 0, 0), (57, .aload_n 0, 58, 0, 0, 0), (58, .iload_n 1, 59, 0, 0, 0), (59, .iload 4, 61, 0, 0, 0), (61, .iload_n 3, 62, 0, 0, 0), (62, .invokevirtual 163, 65, 129, 3, 111), (65, .goto 30, 68, 95, 0, 0), (68, .iload_n 3, 69, 0, 0, 0), (69, .aload_n 0, 70, 0, 0, 0), (70, .getfield 36, 73, 11, 11, 1), (73, .iload 4, 75, 0, 0, 0), (75, .iaload, 76, 0, 0, 0), (76, .if_icmp .ge 18, 79, 94, 0, 0), (79, .aload_n 0, 80, 0, 0, 0), (80, .getfield 42, 83, 11, 13, 1), (83, .bipush 8, 85, 0, 0, 0), (85, .iload 4, 87, 0, 0, 0), (87, .imul, 88, 0, 0, 0), (88, .iload_n 3, 89, 0, 0, 0), (89, .iadd, 90, 0, 0, 0), (90, .iaload, 91, 0, 0, 0), (91, .goto 4, 94, 95, 0, 0), (94, .iconst (-1), 95, 0, 0, 0), (95, .putfield 160, 98, 11, 21, 0), (98, .aload_n 0, 99, 0, 0, 0), (99, .aload_n 0, 100, 0, 0, 0), (100, .getfield 160, 103, 11, 21, 0), (103, .ifCond .ge 7, 106, 110, 0, 0), (106, .iconst 0, 107, 0, 0, 0), (107, .goto 4, 110, 111, 0, 0), (110, .iconst 1, 111, 0, 0, 0), (111, .iconst 2, 112, 0, 0, 0), (112, .invokevirtual 125, 115, 116, 2, 110), (115, .aload_n 0, 116, 0, 0, 0), (116, .getfield 160, 119, 11, 21, 0), (119, .ifCond .lt 12, 122, 131, 0, 0), (122, .aload_n 0, 123, 0, 0, 0), (123, .aload_n 0, 124, 0, 0, 0), (124, .getfield 160, 127, 11, 21, 0), (127, .iconst 1, 128, 0, 0, 0), (128, .invokevirtual 125, 131, 116, 2, 110), (131, .aload_n 0, 132, 0, 0, 0), (132, .invokevirtual 136, 135, 120, 0, 110), (135, .return_, 136, 0, 0, 0)]
def t131 : List ag_I := [(0, .aload_n 0, 1, 0, 0, 0), (1, .iload_n 1, 2, 0, 0, 0), (2, .iload_n 2, 3, 0, 0, 0), (3, .invokevirtual 146, 6, 121, 2, 111), (6, .istore 5, 8, 0, 0, 0), (8, .aload_n 0, 9, 0, 0, 0), (9, .iload_n 1, 10, 0, 0, 0), (10, .bipush 118, 12, 0, 0, 0), (12, .iload_n 2, 13, 0, 0, 0), (13, .invokevirtual 128, 16, 117, 3, 110), (16, .aload_n 0, 17, 0, 0, 0), (17, .iload_n 3, 18, 0, 0, 0), (18, .iconst 4, 19, 0, 0, 0), (19, .invokevirtual 119, 22, 115, 2, 110), (22, .aload_n 0, 23, 0, 0, 0), (23, .iload 4, 25, 0, 0, 0), (25, .iconst 1, 26, 0, 0, 0), (26, .invokevirtual 119, 29, 115, 2, 110), (29, .aload_n 0, 30, 0, 0, 0), (30, .getfield 23, 33, 11, 7, 1), (33, .iload 5, 35, 0, 0, 0), (35, .baload, 36, 0, 0, 0), (36, .ifCond .ne 12, 39, 48, 0, 0), (39, .aload_n 0, 40, 0, 0, 0), (40, .bipush 110, 42, 0, 0, 0), (42, .invokevirtual 150, 45, 118, 1, 110), (45, .goto 94, 48, 139, 0, 0), (48, .iload_n 3, 49, 0, 0, 0), (49, .bipush 8, 51, 0, 0, 0), (51, .if_icmp .ne 12, 54, 63, 0, 0), (54, .aload_n 0, 55, 0, 0, 0), (55, .bipush 102, 57, 0, 0, 0), (57, .invokevirtual 150, 60, 118, 1, 110), (60, .goto 79, 63, 139, 0, 0), (63, .aload_n 0, 64, 0, 0, 0), (64, .getfield 42, 67, 11, 13, 1), (67, .bipush 8, 69, 0, 0, 0), (69, .iload 5, 71, 0, 0, 0), (71, .imul, 72, 0, 0, 0), (72, .iload_n 3, 73, 0, 0, 0), (73, .iadd, 74, 0, 0, 0), (74, .iload 4, 76, 0, 0, 0), (76, .iastore, 77, 0, 0, 0), (77, .aload_n 0, 78, 0, 0, 0), (78, .getfield 36, 81, 11, 11, 1), (81, .iload 5, 83, 0, 0, 0), (83, .iload_n 3, 84, 0, 0, 0), (84, .aload_n 0, 85, 0, 0, 0), (85, .getfield 36, 88, 11, 11, 1), (88, .iload 5, 90, 0, 0, 0), (90, .iaload, 91, 0, 0, 0), (91, .if_icmp .ne 9, 94, 100, 0, 0), (94, .iload_n 3, 95, 0, 0, 0), (95, .iconst 1, 96, 0, 0, 0), (96, .iadd, 97, 0, 0, 0), (97, .goto 10, 100, 107, 0, 0), (100, .aload_n 0, 101, 0, 0, 0), (101, .getfield 36, 104, 11, 11, 1), (104, .iload 5, 106, 0, 0, 0), (106, .iaload, 107, 0, 0, 0), (107, .iastore, 108, 0, 0, 0), (108, .aload_n 0, 109, 0, 0, 0), (109, .getfield 39, 112, 11, 12, 1), (112, .iload 5, 114, 0, 0, 0), (114, .dup2, 115, 0, 0, 0), (115, .iaload, 116, 0, 0, 0), (116, .iconst 1, 117, 0, 0, 0), (117, .iadd, 118, 0, 0, 0), (118, .iastore, 119, 0, 0, 0), (119, .aload_n 0, 120, 0, 0, 0), (120, .aload_n 0, 121, 0, 0, 0), (121, .getfield 36, 124, 11, 11, 1), (124, .iload 5, 126, 0, 0, 0), (126, .iaload, 127, 0, 0, 0), (127, .putfield 160, 130, 11, 21, 0), (130, .aload_n 0, 131, 0, 0, 0), (131, .aload_n 0, 132, 0, 0, 0), (132, .getfield 160, 135, 11, 21, 0), (135, .iconst 4, 136, 0, 0, 0), (136, .invokevirtual 125, 139, 116, 2, 110), (139, .aload_n 0, 140, 0, 0, 0), (140, .invokevirtual 136, 143, 120, 0, 110), (143, .return_, 144, 0, 0, 0)]
def t132 : List ag_I := [(0, .iload_n 1, 1, 0, 0, 0), (1, .ifCond .ne 8, 4, 9, 0, 0), (4, .iload_n 2, 5, 0, 0, 0), (5, .ifCond .ne 4, 8, 9, 0, 0), (8, .return_, 9, 0, 0, 0), (9, .aload_n 0, 10, 0, 0, 0), (10, .iload_n 1, 11, 0, 0, 0), (11, .bipush 120, 13, 0, 0, 0), (13, .iload_n 2, 14, 0, 0, 0), (14, .invokevirtual 128, 17, 117, 3, 110), (17, .aload_n 0, 18, 0, 0, 0), (18, .getfield 45, 21, 11, 14, 1), (21, .sipush 200, 24, 0, 0, 0), (24, .iload_n 1, 25, 0, 0, 0), (25, .imul, 26, 0, 0, 0), (26, .iload_n 2, 27, 0, 0, 0), (27, .iadd, 28, 0, 0, 0), (28, .iconst 0, 29, 0, 0, 0), (29, .iastore, 30, 0, 0, 0), (30, .aload_n 0, 31, 0, 0, 0), (31, .invokevirtual 136, 34, 120, 0, 110), (34, .return_, 35, 0, 0, 0)]
def t133 : List ag_I := [(0, .aload_n 0, 1, 0, 0, 0), (1, .iload_n 1, 2, 0, 0, 0), (2, .iload_n 2, 3, 0, 0, 0), (3, .invokevirtual 146, 6, 121, 2, 111), (6, .istore_n 3, 7, 0, 0, 0), (7, .aload_n 0, 8, 0, 0, 0), (8, .iload_n 1, 9, 0, 0, 0), (9, .bipush 122, 11, 0, 0, 0), (11, .iload_n 2, 12, 0, 0, 0), (12, .invokevirtual 128, 15, 117, 3, 110), (15, .aload_n 0, 16, 0, 0, 0), (16, .getfield 23, 19, 11, 7, 1), (19, .iload_n 3, 20, 0, 0, 0), (20, .baload, 21, 0, 0, 0), (21, .ifCond .ne 12, 24, 33, 0, 0), (24, .aload_n 0, 25, 0, 0, 0), (25, .bipush 110, 27, 0, 0, 0), (27, .invokevirtual 150, 30, 118, 1, 110), (30, .goto 47, 33, 77, 0, 0), (33, .iload_n 3, 34, 0, 0, 0), (34, .sipush 300, 37, 0, 0, 0), (37, .iload_n 1, 38, 0, 0, 0), (38, .imul, 39, 0, 0, 0), (39, .if_icmp .eq 22, 42, 61, 0, 0), (42, .aload_n 0, 43, 0, 0, 0), (43, .getfield 27, 46, 11, 8, 1), (46, .iload_n 3, 47, 0, 0, 0), (47, .baload, 48, 0, 0, 0), (48, .ifCond .eq 22, 51, 70, 0, 0), (51, .aload_n 0, 52, 0, 0, 0), (52, .iload_n 1, 53, 0, 0, 0), (53, .iload_n 3, 54, 0, 0, 0), (54, .iconst 0, 55, 0, 0, 0), (55, .invokevirtual 163, 58, 129, 3, 111), (58, .ifCond .lt 12, 61, 70, 0, 0), (61, .aload_n 0, 62, 0, 0, 0), (62, .bipush 112, 64, 0, 0, 0), (64, .invokevirtual 150, 67, 118, 1, 110), (67, .goto 10, 70, 77, 0, 0), (70, .aload_n 0, 71, 0, 0, 0), (71, .getfield 23, 74, 11, 7, 1), (74, .iload_n 3, 75, 0, 0, 0), (75, .iconst 0, 76, 0, 0, 0), (76, .bastore, 77, 0, 0, 0), (77, .aload_n 0, 78, 0, 0, 0), (78, .getfield 45, 81, 11, 14, 1), (81, .sipush 200, 84, 0, 0, 0), (84, .iload_n 1, 85, 0, 0, 0), (85, .imul, 86, 0, 0, 0), (86, .iload_n 2, 87, 0, 0, 0), (87, .iadd, 88, 0, 0, 0), (88, .iconst 0, 89, 0, 0, 0), (89, .iastore, 90, 0, 0, 0), (90, .aload_n 0, 91, 0, 0, 0), (91, .invokevirtual 136, 94, 120, 0, 110), (94, .return_, 95, 0, 0, 0)]
def t134 : List ag_I := [(0, .aload_n 0, 1, 0, 0, 0), (1, .iload_n 1, 2, 0, 0, 0), (2, .iload_n 2, 3, 0, 0, 0), (3, .invokevirtual 146, 6, 121, 2, 111), (6, .istore_n 3, 7, 0, 0, 0), (7, .aload_n 0, 8, 0, 0, 0), (8, .iload_n 1, 9, 0, 0, 0), (9, .bipush 124, 11, 0, 0, 0), (11, .iload_n 2, 12, 0, 0, 0), (12, .invokevirtual 128, 15, 117, 3, 110), (15, .aload_n 0, 16, 0, 0, 0), (16, .getfield 23, 19, 11, 7, 1), (19, .iload_n 3, 20, 0, 0, 0), (20, .baload, 21, 0, 0, 0), (21, .ifCond .ne 12, 24, 33, 0, 0), (24, .aload_n 0, 25, 0, 0, 0), (25, .bipush 110, 27, 0, 0, 0), (27, .invokevirtual 150, 30, 118, 1, 110), (30, .goto 8, 33, 38, 0, 0), (33, .aload_n 0, 34, 0, 0, 0), (34, .iload_n 3, 35, 0, 0, 0), (35, .invokevirtual 132, 38, 119, 1, 110), (38, .aload_n 0, 39, 0, 0, 0), (39, .invokevirtual 136, 42, 120, 0, 110), (42, .return_, 43, 0, 0, 0)]
def t135 : List ag_I := [(0, .aload_n 0, 1, 0, 0, 0), (1, .aload_n 0, 2, 0, 0, 0), (2, .getfield 166, 5, 11, 0, 0), (5, .bipush 24, 7, 0, 0, 0), (7, .if_icmp .ne 7, 10, 14, 0, 0), (10, .iconst 1, 11, 0, 0, 0), (11, .goto 4, 14, 15, 0, 0), (14, .iconst 0, 15, 0, 0, 0), (15, .putfield 109, 18, 11, 41, 0), (18, .aload_n 0, 19, 0, 0, 0), (19, .getfield 109, 22, 11, 41, 0), (22, .ifCond .eq 5, 25, 27, 0, 0), (25, .iconst 0, 26, 0, 0, 0), (26, .ireturn, 27, 0, 0, 0), (27, .aload_n 0, 28, 0, 0, 0), (28, .getfield 7, 31, 11, 1, 1), (31, .aload_n 0, 32, 0, 0, 0), (32, .getfield 166, 35, 11, 0, 0), (35, .iload_n 1, 36, 0, 0, 0), (36, .castore, 37, 0, 0, 0), (37, .aload_n 0, 38, 0, 0, 0), (38, .dup, 39, 0, 0, 0), (39, .getfield 166, 42, 11, 0, 0), (42, .iconst 1, 43, 0, 0, 0), (43, .iadd, 44, 0, 0, 0), (44, .putfield 166, 47, 11, 0, 0), (47, .aload_n 0, 48, 0, 0, 0), (48, .getfield 166, 51, 11, 0, 0), (51, .ireturn, 52, 0, 0, 0)]
def t136 : List ag_I := [(0, .aload_n 0, 1, 0, 0, 0), (1, .iconst 0, 2, 0, 0, 0), (2, .putfield 109, 5, 11, 41, 0), (5, .iconst 0, 6, 0, 0, 0), (6, .istore_n 1, 7, 0, 0, 0), (7, .iload_n 1, 8, 0, 0, 0), (8, .aload_n 0, 9, 0, 0, 0), (9, .getfield 166, 12, 11, 0, 0), (12, .if_icmp .ge 21, 15, 33, 0, 0), (15, .aload_n 0, 16, 0, 0, 0), (16, .getfield 13, 19, 11, 3, 1), (19, .iload_n 1, 20, 0, 0, 0), (20, .aload_n 0, 21, 0, 0, 0), (21, .getfield 7, 24, 11, 1, 1), (24, .iload_n 1, 25, 0, 0, 0), (25, .caload, 26, 0, 0, 0), (26, .castore, 27, 0, 0, 0), (27, .iinc 1 1, 30, 0, 0, 0), (30, .goto (-23), 33, 7, 3, 1), (33, .aload_n 0, 34, 0, 0, 0), (34, .aload_n 0, 35, 0, 0, 0), (35, .getfield 166, 38, 11, 0, 0), (38, .putfield 169, 41, 11, 2, 0), (41, .aload_n 0, 42, 0, 0, 0), (42, .iconst 0, 43, 0, 0, 0), (43, .putfield 166, 46, 11, 0, 0), (46, .aload_n 0, 47, 0, 0, 0), (47, .getfield 169, 50, 11, 2, 0), (50, .ireturn, 51, 0, 0, 0)]
def t137 : List ag_I := [(0, .iload_n 1, 1, 0, 0, 0), (1, .ifCond .eq 10, 4, 11, 0, 0), (4, .aload_n 0, 5, 0, 0, 0), (5, .getfield 169, 8, 11, 2, 0), (8, .goto 7, 11, 15, 0, 0), (11, .aload_n 0, 12, 0, 0, 0), (12, .getfield 166, 15, 11, 0, 0), (15, .istore_n 3, 16, 0, 0, 0), (16, .iload_n 2, 17, 0, 0, 0), (17, .iload_n 3, 18, 0, 0, 0), (18, .if_icmp .lt 7, 21, 25, 0, 0), (21, .iconst (-1), 22, 0, 0, 0), (22, .goto 22, 25, 44, 0, 0), (25, .iload_n 1, 26, 0, 0, 0), (26, .ifCond .eq 12, 29, 38, 0, 0), (29, .aload_n 0, 30, 0, 0, 0), (30, .getfield 13, 33, 11, 3, 1), (33, .iload_n 2, 34, 0, 0, 0), (34, .caload, 35, 0, 0, 0), (35, .goto 9, 38, 44, 0, 0), (38, .aload_n 0, 39, 0, 0, 0), (39, .getfield 7, 42, 11, 1, 1), (42, .iload_n 2, 43, 0, 0, 0), (43, .caload, 44, 0, 0, 0), (44, .ireturn, 45, 0, 0, 0)]
def t138 : List ag_I := [(0, .iload_n 1, 1, 0, 0, 0), (1, .ifCond .eq 10, 4, 11, 0, 0), (4, .aload_n 0, 5, 0, 0, 0), (5, .getfield 169, 8, 11, 2, 0), (8, .goto 7, 11, 15, 0, 0), (11, .aload_n 0, 12, 0, 0, 0), (12, .getfield 166, 15, 11, 0, 0), (15, .istore_n 2, 16, 0, 0, 0), (16, .aload_n 0, 17, 0, 0, 0), (17, .iconst 0, 18, 0, 0, 0), (18, .putfield 172, 21, 11, 4, 0), (21, .iload_n 2, 22, 0, 0, 0), (22, .iconst 1, 23, 0, 0, 0), (23, .if_icmp .ne 20, 26, 43, 0, 0), (26, .aload_n 0, 27, 0, 0, 0), (27, .iload_n 1, 28, 0, 0, 0), (28, .iconst 0, 29, 0, 0, 0), (29, .invokevirtual 175, 32, 137, 2, 111), (32, .bipush 47, 34, 0, 0, 0), (34, .if_icmp .ne 7, 37, 41, 0, 0), (37, .iconst 1, 38, 0, 0, 0), (38, .goto 4, 41, 42, 0, 0), (41, .iconst 0, 42, 0, 0, 0), (42, .ireturn, 43, 0, 0, 0), (43, .iconst 0, 44, 0, 0, 0), (44, .istore_n 3, 45, 0, 0, 0), (45, .iload_n 3, 46, 0, 0, 0), (46, .iload_n 2, 47, 0, 0, 0), (47, .if_icmp .ge 132, 50, 179, 0, 0), (50, .aload_n 0, 51, 0, 0, 0), (51, .iload_n 1, 52, 0, 0, 0), (52, .iload_n 3, 53, 0, 0, 0), (53, .iconst 1, 54, 0, 0, 0), (54, .iadd, 55, 0, 0, 0), (55, .invokevirtual 175, 58, 137, 2, 111), (58, .istore 4, 60, 0, 0, 0), (60, .iload 4, 62, 0, 0, 0), (62, .bipush 46, 64, 0, 0, 0), (64, .if_icmp .ne 20, 67, 84, 0, 0), (67, .aload_n 0, 68, 0, 0, 0), (68, .iload_n 1, 69, 0, 0, 0), (69, .iload_n 3, 70, 0, 0, 0), (70, .iconst 2, 71, 0, 0, 0), (71, .iadd, 72, 0, 0, 0), (72, .invokevirtual 175, 75, 137, 2, 111), (75, .bipush 46, 77, 0, 0, 0), (77, .if_icmp .ne 7, 80, 84, 0, 0), (80, .iconst 1, 81, 0, 0, 0), (81, .goto 4, 84, 85, 0, 0), (84, .iconst 0, 85, 0, 0, 0), (85, .istore 5, 87, 0, 0, 0), (87, .aload_n 0, 88, 0, 0, 0), (88, .iload_n 1, 89, 0, 0, 0), (89, .iload_n 3, 90, 0, 0, 0), (90, .invokevirtual 175, 93, 137, 2, 111), (93, .bipush 47, 95, 0, 0, 0), (95, .if_icmp .ne 20, 98, 115, 0, 0), (98, .iload 5, 100, 0, 0, 0), (100, .ifCond .ne 17, 103, 117, 0, 0), (103, .iload 4, 105, 0, 0, 0), (105, .bipush 97, 107, 0, 0, 0), (107, .bipush 104, 109, 0, 0, 0), (109, .invokestatic 179, 112, 114, 3, 1), (112, .ifCond .eq 5, 115, 117, 0, 0), (115, .iconst 0, 116, 0, 0, 0), (116, .ireturn, 117, 0, 0, 0), (117, .iload 5, 119, 0, 0, 0), (119, .ifCond .eq 30, 122, 149, 0, 0), (122, .aload_n 0, 123, 0, 0, 0), (123, .aload_n 0, 124, 0, 0, 0), (124, .getfield 172, 127, 11, 4, 0), (127, .ifCond .le 12, 130, 139, 0, 0), (130, .aload_n 0, 131, 0, 0, 0), (131, .getfield 172, 134, 11, 4, 0), (134, .iconst 1, 135, 0, 0, 0), (135, .isub, 136, 0, 0, 0), (136, .goto 4, 139, 140, 0, 0), (139, .iconst 0, 140, 0, 0, 0), (140, .putfield 172, 143, 11, 4, 0), (143, .iinc 3 3, 146, 0, 0, 0), (146, .goto 30, 149, 176, 0, 0), (149, .aload_n 0, 150, 0, 0, 0), (150, .getfield 16, 153, 11, 5, 1), (153, .aload_n 0, 154, 0, 0, 0), (154, .getfield 172, 157, 11, 4, 0), (157, .iload 4, 159, 0, 0, 0), (159, .bipush 97, 161, 0, 0, 0), (161, .isub, 162, 0, 0, 0), (162, .iastore, 163, 0, 0, 0), (163, .aload_n 0, 164, 0, 0, 0), (164, .dup, 165, 0, 0, 0), (165, .getfield 172, 168, 11, 4, 0), (168, .iconst 1, 169, 0, 0, 0), (169, .iadd, 170, 0, 0, 0), (170, .putfield 172, 173, 11, 4, 0), (173, .iinc 3 2, 176, 0, 0, 0), (176, .goto (-131), 179, 45, 15, 1), (179, .iload_n 2, 180, 0, 0, 0), (180, .ifCond .le 7, 183, 187, 0, 0), (183, .iconst 1, 184, 0, 0, 0), (184, .goto 4, 187, 188, 0, 0), (187, .iconst 0, 188, 0, 0, 0), (188, .ireturn, 189, 0, 0, 0)]
def t139 : List ag_I := [(0, .aload_n 0, 1, 0, 0, 0), (1, .iconst 0, 2, 0, 0, 0), (2, .putfield 166, 5, 11, 0, 0), (5, .aload_n 0, 6, 0, 0, 0), (6, .iconst 0, 7, 0, 0, 0), (7, .putfield 169, 10, 11, 2, 0), (10, .return_, 11, 0, 0, 0)]
def t140 : List ag_I := [(0, .iconst 4, 1, 0, 0, 0), (1, .aload_n 0, 2, 0, 0, 0), (2, .getfield 81, 5, 11, 30, 1), (5, .iload_n 1, 6, 0, 0, 0), (6, .iaload, 7, 0, 0, 0), (7, .imul, 8, 0, 0, 0), (8, .istore 4, 10, 0, 0, 0), (10, .iload 4, 12, 0, 0, 0), (12, .istore 5, 14, 0, 0, 0), (14, .iload 5, 16, 0, 0, 0), (16, .iload 4, 18, 0, 0, 0), (18, .aload_n 0, 19, 0, 0, 0), (19, .getfield 57, 22, 11, 22, 1), (22, .aload_n 0, 23, 0, 0, 0), (23, .getfield 81, 26, 11, 30, 1), (26, .iload_n 1, 27, 0, 0, 0), (27, .iaload, 28, 0, 0, 0), (28, .iaload, 29, 0, 0, 0), (29, .iadd, 30, 0, 0, 0), (30, .if_icmp .ge 47, 33, 77, 0, 0), (33, .aload_n 0, 34, 0, 0, 0), (34, .getfield 60, 37, 11, 23, 1), (37, .iload 5, 39, 0, 0, 0), (39, .iaload, 40, 0, 0, 0), (40, .iload_n 2, 41, 0, 0, 0), (41, .if_icmp .ne 30, 44, 71, 0, 0), (44, .aload_n 0, 45, 0, 0, 0), (45, .getfield 63, 48, 11, 24, 1), (48, .iload 5, 50, 0, 0, 0), (50, .iaload, 51, 0, 0, 0), (51, .aload_n 0, 52, 0, 0, 0), (52, .getfield 45, 55, 11, 14, 1), (55, .sipush 200, 58, 0, 0, 0), (58, .iload_n 2, 59, 0, 0, 0), (59, .imul, 60, 0, 0, 0), (60, .iload_n 3, 61, 0, 0, 0), (61, .iadd, 62, 0, 0, 0), (62, .iaload, 63, 0, 0, 0), (63, .iconst 1, 64, 0, 0, 0), (64, .isub, 65, 0, 0, 0), (65, .if_icmp .ne 6, 68, 71, 0, 0), (68, .iload 5, 70, 0, 0, 0), (70, .ireturn, 71, 0, 0, 0), (71, .iinc 5 1, 74, 0, 0, 0), (74, .goto (-60), 77, 14, 63, 1), (77, .iconst (-1), 78, 0, 0, 0), (78, .ireturn, 79, 0, 0, 0)]
def t141 : List ag_I := [(0, .aload_n 0, 1, 0, 0, 0), (1, .iconst 0, 2, 0, 0, 0), (2, .putfield 183, 5, 11, 38, 0), (5, .aload_n 0, 6, 0, 0, 0), (6, .iconst 0, 7, 0, 0, 0), (7, .putfield 186, 10, 11, 39, 0), (10, .iconst 0, 11, 0, 0, 0), (11, .istore_n 3, 12, 0, 0, 0), (12, .iload_n 3, 13, 0, 0, 0), (13, .iload_n 2, 14, 0, 0, 0), (14, .if_icmp .ge 202, 17, 216, 0, 0), (17, .aload_n 0, 18, 0, 0, 0), (18, .iload_n 1, 19, 0, 0, 0), (19, .aload_n 0, 20, 0, 0, 0), (20, .getfield 183, 23, 11, 38, 0), (23, .aload_n 0, 24, 0, 0, 0), (24, .getfield 186, 27, 11, 39, 0), (27, .invokevirtual 189, 30, 140, 3, 111), (30, .istore 4, 32, 0, 0, 0), (32, .iload 4, 34, 0, 0, 0), (34, .ifCond .ge 7, 37, 41, 0, 0), (37, .iconst 1, 38, 0, 0, 0), (38, .goto 10, 41, 48, 0, 0), (41, .aload_n 0, 42, 0, 0, 0), (42, .getfield 66, 45, 11, 25, 1), (45, .iload 4, 47, 0, 0, 0), (47, .iaload, 48, 0, 0, 0), (48, .istore 5, 50, 0, 0, 0), (50, .aload_n 0, 51, 0, 0, 0), (51, .getfield 183, 54, 11, 38, 0), (54, .istore 6, 56, 0, 0, 0), (56, .iconst 0, 57, 0, 0, 0), (57, .istore 7, 59, 0, 0, 0), (59, .iconst 0, 60, 0, 0, 0), (60, .istore 8, 62, 0, 0, 0), (62, .iload 8, 64, 0, 0, 0), (64, .iload 5, 66, 0, 0, 0), (66, .if_icmp .ge 90, 69, 156, 0, 0), (69, .iload 7, 71, 0, 0, 0), (71, .ifCond .ne 85, 74, 156, 0, 0), (74, .iload 4, 76, 0, 0, 0), (76, .ifCond .ge 10, 79, 86, 0, 0), (79, .aload_n 0, 80, 0, 0, 0), (80, .getfield 183, 83, 11, 38, 0), (83, .goto 15, 86, 98, 0, 0), (86, .aload_n 0, 87, 0, 0, 0), (87, .getfield 69, 90, 11, 26, 1), (90, .iconst 3, 91, 0, 0, 0), (91, .iload 4, 93, 0, 0, 0), (93, .imul, 94, 0, 0, 0), (94, .iload 8, 96, 0, 0, 0), (96, .iadd, 97, 0, 0, 0), (97, .iaload, 98, 0, 0, 0), (98, .istore 6, 100, 0, 0, 0), (100, .aload_n 0, 101, 0, 0, 0), (101, .iload 6, 103, 0, 0, 0), (103, .iload 4, 105, 0, 0, 0), (105, .ifCond .ge 10, 108, 115, 0, 0), (108, .aload_n 0, 109, 0, 0, 0), (109, .getfield 186, 112, 11, 39, 0), (112, .goto 15, 115, 127, 0, 0), (115, .aload_n 0, 116, 0, 0, 0), (116, .getfield 72, 119, 11, 27, 1), (119, .iconst 3, 120, 0, 0, 0), (120, .iload 4, 122, 0, 0, 0), (122, .imul, 123, 0, 0, 0), (123, .iload 8, 125, 0, 0, 0), (125, .iadd, 126, 0, 0, 0), (126, .iaload, 127, 0, 0, 0), (127, .aload_n 0, 128, 0, 0, 0), (128, .getfield 16, 131, 11, 5, 1), (131, .iload_n 3, 132, 0, 0, 0), (132, .iaload, 133, 0, 0, 0), (133, .invokevirtual 192, 136, 125, 3, 110), (136, .aload_n 0, 137, 0, 0, 0), (137, .getfield 122, 140, 11, 20, 0), (140, .ifCond .ne 7, 143, 147, 0, 0), (143, .iconst 1, 144, 0, 0, 0), (144, .goto 4, 147, 148, 0, 0), (147, .iconst 0, 148, 0, 0, 0), (148, .istore 7, 150, 0, 0, 0), (150, .iinc 8 1, 153, 0, 0, 0), (153, .goto (-91), 156, 62, 511, 1), (156, .aload_n 0, 157, 0, 0, 0), (157, .getfield 122, 160, 11, 20, 0), (160, .istore 8, 162, 0, 0, 0), (162, .aload_n 0, 163, 0, 0, 0), (163, .getfield 143, 166, 11, 40, 0), (166, .istore 9, 168, 0, 0, 0), (168, .aload_n 0, 169, 0, 0, 0), (169, .aload_n 0, 170, 0, 0, 0), (170, .getfield 183, 173, 11, 38, 0), (173, .aload_n 0, 174, 0, 0, 0), (174, .getfield 186, 177, 11, 39, 0), (177, .invokevirtual 195, 180, 132, 2, 110), (180, .iload 7, 182, 0, 0, 0), (182, .ifCond .ne 16, 185, 198, 0, 0), (185, .iload 8, 187, 0, 0, 0), (187, .bipush 100, 189, 0, 0, 0), (189, .if_icmp .ne 7, 192, 196, 0, 0), (192, .iconst 2, 193, 0, 0, 0), (193, .goto 4, 196, 197, 0, 0), (196, .iconst 1, 197, 0, 0, 0), (197, .ireturn, 198, 0, 0, 0), (198, .aload_n 0, 199, 0, 0, 0), (199, .iload 6, 201, 0, 0, 0), (201, .putfield 183, 204, 11, 38, 0), (204, .aload_n 0, 205, 0, 0, 0), (205, .iload 9, 207, 0, 0, 0), (207, .putfield 186, 210, 11, 39, 0), (210, .iinc 3 1, 213, 0, 0, 0), (213, .goto (-201), 216, 12, 15, 1), (216, .iconst 0, 217, 0, 0, 0), (217, .ireturn, 218, 0, 0, 0)]
def t142 : List ag_I := [(0, .aload_n 0, 1, 0, 0, 0), (1, .getfield 27, 4, 11, 8, 1), (4, .aload_n 0, 5, 0, 0, 0), (5, .aload_n 0, 6, 0, 0, 0), (6, .getfield 183, 9, 11, 38, 0), (9, .aload_n 0, 10, 0, 0, 0), (10, .getfield 186, 13, 11, 39, 0), (13, .invokevirtual 146, 16, 121, 2, 111), (16, .baload, 17, 0, 0, 0), (17, .ireturn, 18, 0, 0, 0)]
def t143 : List ag_I := [(0, .aload_n 0, 1, 0, 0, 0), (1, .getfield 183, 4, 11, 38, 0), (4, .ifCond .ne 25, 7, 29, 0, 0), (7, .aload_n 0, 8, 0, 0, 0), (8, .getfield 186, 11, 11, 39, 0), (11, .ifCond .ne 18, 14, 29, 0, 0), (14, .aload_n 0, 15, 0, 0, 0), (15, .iconst 0, 16, 0, 0, 0), (16, .iconst 0, 17, 0, 0, 0), (17, .iconst (-1), 18, 0, 0, 0), (18, .invokevirtual 192, 21, 125, 3, 110), (21, .aload_n 0, 22, 0, 0, 0), (22, .aload_n 0, 23, 0, 0, 0), (23, .getfield 143, 26, 11, 40, 0), (26, .putfield 186, 29, 11, 39, 0), (29, .return_, 30, 0, 0, 0)]
def t144 : List ag_I := [(0, .iload_n 1, 1, 0, 0, 0), (1, .ifCond .lt 21, 4, 22, 0, 0), (4, .iload_n 1, 5, 0, 0, 0), (5, .iconst 4, 6, 0, 0, 0), (6, .if_icmp .ge 16, 9, 22, 0, 0), (9, .aload_n 0, 10, 0, 0, 0), (10, .getfield 78, 13, 11, 29, 1), (13, .iload_n 1, 14, 0, 0, 0), (14, .baload, 15, 0, 0, 0), (15, .ifCond .eq 7, 18, 22, 0, 0), (18, .iconst 1, 19, 0, 0, 0), (19, .goto 4, 22, 23, 0, 0), (22, .iconst 0, 23, 0, 0, 0), (23, .ireturn, 24, 0, 0, 0)]
def t145 : List ag_I := [(0, .aload_n 0, 1, 0, 0, 0), (1, .iload_n 1, 2, 0, 0, 0), (2, .invokevirtual 198, 5, 144, 1, 111), (5, .ifCond .eq 29, 8, 34, 0, 0), (8, .iload_n 2, 9, 0, 0, 0), (9, .ifCond .lt 25, 12, 34, 0, 0), (12, .iload_n 2, 13, 0, 0, 0), (13, .iconst 5, 14, 0, 0, 0), (14, .if_icmp .ge 20, 17, 34, 0, 0), (17, .aload_n 0, 18, 0, 0, 0), (18, .getfield 84, 21, 11, 31, 1), (21, .iconst 5, 22, 0, 0, 0), (22, .iload_n 1, 23, 0, 0, 0), (23, .imul, 24, 0, 0, 0), (24, .iload_n 2, 25, 0, 0, 0), (25, .iadd, 26, 0, 0, 0), (26, .iaload, 27, 0, 0, 0), (27, .ifCond .le 7, 30, 34, 0, 0), (30, .iconst 1, 31, 0, 0, 0), (31, .goto 4, 34, 35, 0, 0), (34, .iconst 0, 35, 0, 0, 0), (35, .ireturn, 36, 0, 0, 0)]
def t146 : List ag_I := [(0, .iconst 0, 1, 0, 0, 0), (1, .istore_n 2, 2, 0, 0, 0), (2, .iconst 0, 3, 0, 0, 0), (3, .istore_n 3, 4, 0, 0, 0), (4, .iload_n 3, 5, 0, 0, 0), (5, .iconst 5, 6, 0, 0, 0), (6, .if_icmp .ge 30, 9, 36, 0, 0), (9, .aload_n 0, 10, 0, 0, 0), (10, .getfield 84, 13, 11, 31, 1), (13, .iconst 5, 14, 0, 0, 0), (14, .iload_n 1, 15, 0, 0, 0), (15, .imul, 16, 0, 0, 0), (16, .iload_n 3, 17, 0, 0, 0), (17, .iadd, 18, 0, 0, 0), (18, .iaload, 19, 0, 0, 0), (19, .ifCond .le 9, 22, 28, 0, 0), (22, .iload_n 2, 23, 0, 0, 0), (23, .iconst 1, 24, 0, 0, 0), (24, .iadd, 25, 0, 0, 0), (25, .goto 4, 28, 29, 0, 0), (28, .iload_n 2, 29, 0, 0, 0), (29, .istore_n 2, 30, 0, 0, 0), (30, .iinc 3 1, 33, 0, 0, 0), (33, .goto (-29), 36, 4, 15, 1), (36, .iload_n 2, 37, 0, 0, 0), (37, .ireturn, 38, 0, 0, 0)]
def t147 : List ag_I := [(0, .iconst 0, 1, 0, 0, 0), (1, .istore_n 2, 2, 0, 0, 0), (2, .iload_n 2, 3, 0, 0, 0), (3, .iconst 5, 4, 0, 0, 0), (4, .if_icmp .ge 22, 7, 26, 0, 0), (7, .aload_n 0, 8, 0, 0, 0), (8, .getfield 84, 11, 11, 31, 1), (11, .iconst 5, 12, 0, 0, 0), (12, .iload_n 1, 13, 0, 0, 0), (13, .imul, 14, 0, 0, 0), (14, .iload_n 2, 15, 0, 0, 0), (15, .iadd, 16, 0, 0, 0), (16, .iaload, 17, 0, 0, 0), (17, .ifCond .le 9, 20, 26, 0, 0), (20, .iinc 2 1, 23, 0, 0, 0), (23, .goto (-21), 26, 2, 7, 1), (26, .iload_n 2, 27, 0, 0, 0), (27, .ireturn, 28, 0, 0, 0)]
def t148 : List ag_I := [(0, .aload_n 0, 1, 0, 0, 0), (1, .getfield 90, 4, 11, 33, 1), (4, .iconst 3, 5, 0, 0, 0), (5, .iload_n 1, 6, 0, 0, 0), (6, .imul, 7, 0, 0, 0), (7, .aload_n 0, 8, 0, 0, 0), (8, .getfield 84, 11, 11, 31, 1), (11, .iload_n 1, 12, 0, 0, 0), (12, .iaload, 13, 0, 0, 0), (13, .iadd, 14, 0, 0, 0), (14, .iload_n 2, 15, 0, 0, 0), (15, .iastore, 16, 0, 0, 0), (16, .aload_n 0, 17, 0, 0, 0), (17, .getfield 93, 20, 11, 34, 1), (20, .iconst 3, 21, 0, 0, 0), (21, .iload_n 1, 22, 0, 0, 0), (22, .imul, 23, 0, 0, 0), (23, .aload_n 0, 24, 0, 0, 0), (24, .getfield 84, 27, 11, 31, 1), (27, .iload_n 1, 28, 0, 0, 0), (28, .iaload, 29, 0, 0, 0), (29, .iadd, 30, 0, 0, 0), (30, .iload_n 3, 31, 0, 0, 0), (31, .iastore, 32, 0, 0, 0), (32, .aload_n 0, 33, 0, 0, 0), (33, .getfield 84, 36, 11, 31, 1), (36, .iload_n 1, 37, 0, 0, 0), (37, .dup2, 38, 0, 0, 0), (38, .iaload, 39, 0, 0, 0), (39, .iconst 1, 40, 0, 0, 0), (40, .iadd, 41, 0, 0, 0), (41, .iastore, 42, 0, 0, 0), (42, .return_, 43, 0, 0, 0)]
def t149 : List ag_I := [(0, .aload_n 0, 1, 0, 0, 0), (1, .iload_n 1, 2, 0, 0, 0), (2, .ifCond .ne 7, 5, 9, 0, 0), (5, .iconst 0, 6, 0, 0, 0), (6, .goto 32, 9, 38, 0, 0), (9, .iload_n 1, 10, 0, 0, 0), (10, .iconst 1, 11, 0, 0, 0), (11, .if_icmp .ne 7, 14, 18, 0, 0), (14, .iload_n 2, 15, 0, 0, 0), (15, .goto 23, 18, 38, 0, 0), (18, .iload_n 1, 19, 0, 0, 0), (19, .iconst 2, 20, 0, 0, 0), (20, .if_icmp .ne 7, 23, 27, 0, 0), (23, .iload_n 3, 24, 0, 0, 0), (24, .goto 14, 27, 38, 0, 0), (27, .iload_n 1, 28, 0, 0, 0), (28, .iconst 3, 29, 0, 0, 0), (29, .if_icmp .ne 8, 32, 37, 0, 0), (32, .iload 4, 34, 0, 0, 0), (34, .goto 4, 37, 38, 0, 0), (37, .iconst 1, 38, 0, 0, 0), (38, .putfield 109, 41, 11, 41, 0), (41, .aload_n 0, 42, 0, 0, 0), (42, .getfield 109, 45, 11, 41, 0), (45, .ireturn, 46, 0, 0, 0)]
def t150 : List ag_I := [(0, .aload_n 0, 1, 0, 0, 0), (1, .iload_n 1, 2, 0, 0, 0), (2, .aload_n 0, 3, 0, 0, 0), (3, .getfield 172, 6, 11, 4, 0), (6, .invokevirtual 202, 9, 141, 2, 111), (9, .istore 4, 11, 0, 0, 0), (11, .iload 4, 13, 0, 0, 0), (13, .ifCond .eq 6, 16, 19, 0, 0), (16, .iload 4, 18, 0, 0, 0), (18, .ireturn, 19, 0, 0, 0), (19, .aload_n 0, 20, 0, 0, 0), (20, .iload_n 1, 21, 0, 0, 0), (21, .aload_n 0, 22, 0, 0, 0), (22, .getfield 183, 25, 11, 38, 0), (25, .aload_n 0, 26, 0, 0, 0), (26, .getfield 186, 29, 11, 39, 0), (29, .invokevirtual 189, 32, 140, 3, 111), (32, .istore 5, 34, 0, 0, 0), (34, .aload_n 0, 35, 0, 0, 0), (35, .getfield 186, 38, 11, 39, 0), (38, .istore 6, 40, 0, 0, 0), (40, .aload_n 0, 41, 0, 0, 0), (41, .getfield 183, 44, 11, 38, 0), (44, .istore 7, 46, 0, 0, 0), (46, .iload 5, 48, 0, 0, 0), (48, .ifCond .ge 20, 51, 68, 0, 0), (51, .aload_n 0, 52, 0, 0, 0), (52, .invokevirtual 205, 55, 143, 0, 110), (55, .aload_n 0, 56, 0, 0, 0), (56, .iload_n 2, 57, 0, 0, 0), (57, .aload_n 0, 58, 0, 0, 0), (58, .getfield 183, 61, 11, 38, 0), (61, .aload_n 0, 62, 0, 0, 0), (62, .getfield 186, 65, 11, 39, 0), (65, .invokevirtual 208, 68, 148, 3, 110), (68, .iconst 0, 69, 0, 0, 0), (69, .istore 8, 71, 0, 0, 0), (71, .iload 5, 73, 0, 0, 0), (73, .ifCond .lt 71, 76, 144, 0, 0), (76, .iload 8, 78, 0, 0, 0), (78, .aload_n 0, 79, 0, 0, 0), (79, .getfield 66, 82, 11, 25, 1), (82, .iload 5, 84, 0, 0, 0), (84, .iaload, 85, 0, 0, 0), (85, .if_icmp .ge 59, 88, 144, 0, 0), (88, .aload_n 0, 89, 0, 0, 0), (89, .aload_n 0, 90, 0, 0, 0), (90, .getfield 69, 93, 11, 26, 1), (93, .iconst 3, 94, 0, 0, 0), (94, .iload 5, 96, 0, 0, 0), (96, .imul, 97, 0, 0, 0), (97, .iload 8, 99, 0, 0, 0), (99, .iadd, 100, 0, 0, 0), (100, .iaload, 101, 0, 0, 0), (101, .aload_n 0, 102, 0, 0, 0), (102, .getfield 72, 105, 11, 27, 1), (105, .iconst 3, 106, 0, 0, 0), (106, .iload 5, 108, 0, 0, 0), (108, .imul, 109, 0, 0, 0), (109, .iload 8, 111, 0, 0, 0), (111, .iadd, 112, 0, 0, 0), (112, .iaload, 113, 0, 0, 0), (113, .iconst (-1), 114, 0, 0, 0), (114, .invokevirtual 192, 117, 125, 3, 110), (117, .aload_n 0, 118, 0, 0, 0), (118, .iload_n 2, 119, 0, 0, 0), (119, .aload_n 0, 120, 0, 0, 0), (120, .getfield 69, 123, 11, 26, 1), (123, .iconst 3, 124, 0, 0, 0), (124, .iload 5, 126, 0, 0, 0), (126, .imul, 127, 0, 0, 0), (127, .iload 8, 129, 0, 0, 0), (129, .iadd, 130, 0, 0, 0), (130, .iaload, 131, 0, 0, 0), (131, .aload_n 0, 132, 0, 0, 0), (132, .getfield 143, 135, 11, 40, 0), (135, .invokevirtual 208, 138, 148, 3, 110), (138, .iinc 8 1, 141, 0, 0, 0), (141, .goto (-70), 144, 71, 493, 1), (144, .iload 5, 146, 0, 0, 0), (146, .ifCond .lt 11, 149, 157, 0, 0), (149, .aload_n 0, 150, 0, 0, 0), (150, .iload 7, 152, 0, 0, 0), (152, .iload 6, 154, 0, 0, 0), (154, .invokevirtual 195, 157, 132, 2, 110), (157, .aload_n 0, 158, 0, 0, 0), (158, .getfield 84, 161, 11, 31, 1), (161, .iload_n 2, 162, 0, 0, 0), (162, .iaload, 163, 0, 0, 0), (163, .istore 8, 165, 0, 0, 0), (165, .aload_n 0, 166, 0, 0, 0), (166, .getfield 87, 169, 11, 32, 1), (169, .iload_n 2, 170, 0, 0, 0), (170, .iload 8, 172, 0, 0, 0), (172, .iconst 1, 173, 0, 0, 0), (173, .if_icmp .ne 7, 176, 180, 0, 0), (176, .iconst 1, 177, 0, 0, 0), (177, .goto 4, 180, 181, 0, 0), (180, .iconst 0, 181, 0, 0, 0), (181, .bastore, 182, 0, 0, 0), (182, .iconst 0, 183, 0, 0, 0), (183, .istore 9, 185, 0, 0, 0), (185, .aload_n 0, 186, 0, 0, 0), (186, .getfield 84, 189, 11, 31, 1), (189, .iload_n 2, 190, 0, 0, 0), (190, .iconst 0, 191, 0, 0, 0), (191, .iastore, 192, 0, 0, 0), (192, .iconst 0, 193, 0, 0, 0), (193, .istore 10, 195, 0, 0, 0), (195, .iload 10, 197, 0, 0, 0), (197, .iload 8, 199, 0, 0, 0), (199, .if_icmp .ge 77, 202, 276, 0, 0), (202, .aload_n 0, 203, 0, 0, 0), (203, .getfield 90, 206, 11, 33, 1), (206, .iconst 3, 207, 0, 0, 0), (207, .iload_n 2, 208, 0, 0, 0), (208, .imul, 209, 0, 0, 0), (209, .iload 10, 211, 0, 0, 0), (211, .iadd, 212, 0, 0, 0), (212, .iaload, 213, 0, 0, 0), (213, .istore 11, 215, 0, 0, 0), (215, .aload_n 0, 216, 0, 0, 0), (216, .getfield 93, 219, 11, 34, 1), (219, .iconst 3, 220, 0, 0, 0), (220, .iload_n 2, 221, 0, 0, 0), (221, .imul, 222, 0, 0, 0), (222, .iload 10, 224, 0, 0, 0), (224, .iadd, 225, 0, 0, 0), (225, .iaload, 226, 0, 0, 0), (226, .istore 12, 228, 0, 0, 0), (228, .aload_n 0, 229, 0, 0, 0), (229, .iload 11, 231, 0, 0, 0), (231, .iload 12, 233, 0, 0, 0), (233, .iload_n 3, 234, 0, 0, 0), (234, .invokevirtual 211, 237, 126, 3, 110), (237, .aload_n 0, 238, 0, 0, 0), (238, .getfield 122, 241, 11, 20, 0), (241, .ifCond .ne 15, 244, 256, 0, 0), (244, .aload_n 0, 245, 0, 0, 0), (245, .iload_n 2, 246, 0, 0, 0), (246, .iload 11, 248, 0, 0, 0), (248, .iload 12, 250, 0, 0, 0), (250, .invokevirtual 208, 253, 148, 3, 110), (253, .goto 17, 256, 270, 0, 0), (256, .aload_n 0, 257, 0, 0, 0), (257, .getfield 122, 260, 11, 20, 0), (260, .istore 9, 262, 0, 0, 0), (262, .aload_n 0, 263, 0, 0, 0), (263, .iload 11, 265, 0, 0, 0), (265, .iload 12, 267, 0, 0, 0), (267, .invokevirtual 195, 270, 132, 2, 110), (270, .iinc 10 1, 273, 0, 0, 0), (273, .goto (-78), 276, 195, 1805, 1), (276, .aload_n 0, 277, 0, 0, 0), (277, .getfield 96, 280, 11, 35, 1), (280, .iload_n 2, 281, 0, 0, 0), (281, .iload_n 3, 282, 0, 0, 0), (282, .iastore, 283, 0, 0, 0), (283, .aload_n 0, 284, 0, 0, 0), (284, .getfield 99, 287, 11, 36, 1), (287, .iload_n 2, 288, 0, 0, 0), (288, .iconst 0, 289, 0, 0, 0), (289, .iastore, 290, 0, 0, 0), (290, .aload_n 0, 291, 0, 0, 0), (291, .getfield 102, 294, 11, 37, 1), (294, .iload_n 2, 295, 0, 0, 0), (295, .iconst 0, 296, 0, 0, 0), (296, .iastore, 297, 0, 0, 0), (297, .aload_n 0, 298, 0, 0, 0), (298, .getfield 84, 301, 11, 31, 1), (301, .iload_n 2, 302, 0, 0, 0), (302, .iaload, 303, 0, 0, 0), (303, .ifCond .le 7, 306, 310, 0, 0), (306, .iconst 0, 307, 0, 0, 0), (307, .goto 15, 310, 322, 0, 0), (310, .iload 9, 312, 0, 0, 0), (312, .bipush 112, 314, 0, 0, 0), (314, .if_icmp .ne 7, 317, 321, 0, 0), (317, .iconst 2, 318, 0, 0, 0), (318, .goto 4, 321, 322, 0, 0), (321, .iconst 1, 322, 0, 0, 0), (322, .ireturn, 323, 0, 0, 0)]
def t151 : List ag_I := [(0, .aload_n 0, 1, 0, 0, 0), (1, .iload_n 1, 2, 0, 0, 0), (2, .invokevirtual 198, 5, 144, 1, 111), (5, .ifCond .ne 10, 8, 15, 0, 0), (8, .aload_n 0, 9, 0, 0, 0), (9, .iconst 1, 10, 0, 0, 0), (10, .putfield 109, 13, 11, 41, 0), (13, .iconst 0, 14, 0, 0, 0), (14, .ireturn, 15, 0, 0, 0), (15, .aload_n 0, 16, 0, 0, 0), (16, .iconst 0, 17, 0, 0, 0), (17, .invokevirtual 214, 20, 138, 1, 111), (20, .ifCond .eq 16, 23, 36, 0, 0), (23, .iload_n 2, 24, 0, 0, 0), (24, .iconst 0, 25, 0, 0, 0), (25, .iconst 2, 26, 0, 0, 0), (26, .invokestatic 179, 29, 114, 3, 1), (29, .ifCond .ne 7, 32, 36, 0, 0), (32, .iconst 1, 33, 0, 0, 0), (33, .goto 4, 36, 37, 0, 0), (36, .iconst 0, 37, 0, 0, 0), (37, .istore_n 3, 38, 0, 0, 0), (38, .aload_n 0, 39, 0, 0, 0), (39, .invokevirtual 218, 42, 139, 0, 110), (42, .aload_n 0, 43, 0, 0, 0), (43, .iload_n 1, 44, 0, 0, 0), (44, .invokevirtual 221, 47, 147, 1, 111), (47, .istore 4, 49, 0, 0, 0), (49, .iload_n 3, 50, 0, 0, 0), (50, .ifCond .ne 7, 53, 57, 0, 0), (53, .iconst 4, 54, 0, 0, 0), (54, .goto 25, 57, 79, 0, 0), (57, .iload 4, 59, 0, 0, 0), (59, .iconst 5, 60, 0, 0, 0), (60, .if_icmp .ne 7, 63, 67, 0, 0), (63, .iconst 3, 64, 0, 0, 0), (64, .goto 15, 67, 79, 0, 0), (67, .aload_n 0, 68, 0, 0, 0), (68, .iload_n 1, 69, 0, 0, 0), (69, .iconst 5, 70, 0, 0, 0), (70, .iload_n 1, 71, 0, 0, 0), (71, .imul, 72, 0, 0, 0), (72, .iload 4, 74, 0, 0, 0), (74, .iadd, 75, 0, 0, 0), (75, .iload_n 2, 76, 0, 0, 0), (76, .invokevirtual 224, 79, 150, 3, 111), (79, .istore 5, 81, 0, 0, 0), (81, .aload_n 0, 82, 0, 0, 0), (82, .iload 5, 84, 0, 0, 0), (84, .iconst 3, 85, 0, 0, 0), (85, .iconst 4, 86, 0, 0, 0), (86, .iconst 2, 87, 0, 0, 0), (87, .invokevirtual 227, 90, 149, 4, 111), (90, .ifCond .ne 8, 93, 98, 0, 0), (93, .iload 4, 95, 0, 0, 0), (95, .goto 4, 98, 99, 0, 0), (98, .iconst 0, 99, 0, 0, 0), (99, .ireturn, 100, 0, 0, 0)]
def t152 : List ag_I := [(0, .aload_n 0, 1, 0, 0, 0), (1, .iload_n 1, 2, 0, 0, 0), (2, .aload_n 0, 3, 0, 0, 0), (3, .getfield 172, 6, 11, 4, 0), (6, .iconst 1, 7, 0, 0, 0), (7, .isub, 8, 0, 0, 0), (8, .invokevirtual 202, 11, 141, 2, 111), (11, .istore 4, 13, 0, 0, 0), (13, .iload 4, 15, 0, 0, 0), (15, .ifCond .eq 6, 18, 21, 0, 0), (18, .iload 4, 20, 0, 0, 0), (20, .ireturn, 21, 0, 0, 0), (21, .aload_n 0, 22, 0, 0, 0), (22, .iload_n 1, 23, 0, 0, 0), (23, .aload_n 0, 24, 0, 0, 0), (24, .getfield 183, 27, 11, 38, 0), (27, .aload_n 0, 28, 0, 0, 0), (28, .getfield 186, 31, 11, 39, 0), (31, .invokevirtual 189, 34, 140, 3, 111), (34, .istore 5, 36, 0, 0, 0), (36, .aload_n 0, 37, 0, 0, 0), (37, .getfield 183, 40, 11, 38, 0), (40, .istore 6, 42, 0, 0, 0), (42, .aload_n 0, 43, 0, 0, 0), (43, .getfield 186, 46, 11, 39, 0), (46, .istore 7, 48, 0, 0, 0), (48, .iconst 0, 49, 0, 0, 0), (49, .istore 8, 51, 0, 0, 0), (51, .iload 5, 53, 0, 0, 0), (53, .ifCond .lt 36, 56, 89, 0, 0), (56, .iload 8, 58, 0, 0, 0), (58, .aload_n 0, 59, 0, 0, 0), (59, .getfield 66, 62, 11, 25, 1), (62, .iload 5, 64, 0, 0, 0), (64, .iaload, 65, 0, 0, 0), (65, .if_icmp .ge 24, 68, 89, 0, 0), (68, .aload_n 0, 69, 0, 0, 0), (69, .getfield 75, 72, 11, 28, 1), (72, .iconst 3, 73, 0, 0, 0), (73, .iload 5, 75, 0, 0, 0), (75, .imul, 76, 0, 0, 0), (76, .iload 8, 78, 0, 0, 0), (78, .iadd, 79, 0, 0, 0), (79, .baload, 80, 0, 0, 0), (80, .ifCond .ne 9, 83, 89, 0, 0), (83, .iinc 8 1, 86, 0, 0, 0), (86, .goto (-35), 89, 51, 493, 1), (89, .iload 5, 91, 0, 0, 0), (91, .ifCond .lt 29, 94, 120, 0, 0), (94, .iload 8, 96, 0, 0, 0), (96, .aload_n 0, 97, 0, 0, 0), (97, .getfield 66, 100, 11, 25, 1), (100, .iload 5, 102, 0, 0, 0), (102, .iaload, 103, 0, 0, 0), (103, .if_icmp .ne 17, 106, 120, 0, 0), (106, .aload_n 0, 107, 0, 0, 0), (107, .aload_n 0, 108, 0, 0, 0), (108, .getfield 183, 111, 11, 38, 0), (111, .aload_n 0, 112, 0, 0, 0), (112, .getfield 186, 115, 11, 39, 0), (115, .invokevirtual 195, 118, 132, 2, 110), (118, .iconst 2, 119, 0, 0, 0), (119, .ireturn, 120, 0, 0, 0), (120, .iload 5, 122, 0, 0, 0), (122, .ifCond .ge 8, 125, 130, 0, 0), (125, .iload 6, 127, 0, 0, 0), (127, .goto 15, 130, 142, 0, 0), (130, .aload_n 0, 131, 0, 0, 0), (131, .getfield 69, 134, 11, 26, 1), (134, .iconst 3, 135, 0, 0, 0), (135, .iload 5, 137, 0, 0, 0), (137, .imul, 138, 0, 0, 0), (138, .iload 8, 140, 0, 0, 0), (140, .iadd, 141, 0, 0, 0), (141, .iaload, 142, 0, 0, 0), (142, .istore 6, 144, 0, 0, 0), (144, .aload_n 0, 145, 0, 0, 0), (145, .iload 6, 147, 0, 0, 0), (147, .iload 5, 149, 0, 0, 0), (149, .ifCond .ge 8, 152, 157, 0, 0), (152, .iload 7, 154, 0, 0, 0), (154, .goto 15, 157, 169, 0, 0), (157, .aload_n 0, 158, 0, 0, 0), (158, .getfield 72, 161, 11, 27, 1), (161, .iconst 3, 162, 0, 0, 0), (162, .iload 5, 164, 0, 0, 0), (164, .imul, 165, 0, 0, 0), (165, .iload 8, 167, 0, 0, 0), (167, .iadd, 168, 0, 0, 0), (168, .iaload, 169, 0, 0, 0), (169, .iconst (-1), 170, 0, 0, 0), (170, .invokevirtual 192, 173, 125, 3, 110), (173, .aload_n 0, 174, 0, 0, 0), (174, .getfield 143, 177, 11, 40, 0), (177, .istore 7, 179, 0, 0, 0), (179, .aload_n 0, 180, 0, 0, 0), (180, .aload_n 0, 181, 0, 0, 0), (181, .getfield 183, 184, 11, 38, 0), (184, .aload_n 0, 185, 0, 0, 0), (185, .getfield 186, 188, 11, 39, 0), (188, .invokevirtual 195, 191, 132, 2, 110), (191, .aload_n 0, 192, 0, 0, 0), (192, .iload 6, 194, 0, 0, 0), (194, .iload 7, 196, 0, 0, 0), (196, .aload_n 0, 197, 0, 0, 0), (197, .getfield 16, 200, 11, 5, 1), (200, .aload_n 0, 201, 0, 0, 0), (201, .getfield 172, 204, 11, 4, 0), (204, .iconst 1, 205, 0, 0, 0), (205, .isub, 206, 0, 0, 0), (206, .iaload, 207, 0, 0, 0), (207, .iload_n 3, 208, 0, 0, 0), (208, .invokevirtual 231, 211, 128, 4, 110), (211, .aload_n 0, 212, 0, 0, 0), (212, .getfield 122, 215, 11, 20, 0), (215, .ifCond .eq 41, 218, 256, 0, 0), (218, .aload_n 0, 219, 0, 0, 0), (219, .getfield 122, 222, 11, 20, 0), (222, .istore 9, 224, 0, 0, 0), (224, .aload_n 0, 225, 0, 0, 0), (225, .iload 6, 227, 0, 0, 0), (227, .iload 7, 229, 0, 0, 0), (229, .invokevirtual 195, 232, 132, 2, 110), (232, .iload 9, 234, 0, 0, 0), (234, .bipush 102, 236, 0, 0, 0), (236, .if_icmp .ne 7, 239, 243, 0, 0), (239, .iconst 3, 240, 0, 0, 0), (240, .goto 15, 243, 255, 0, 0), (243, .iload 9, 245, 0, 0, 0), (245, .bipush 110, 247, 0, 0, 0), (247, .if_icmp .ne 7, 250, 254, 0, 0), (250, .iconst 1, 251, 0, 0, 0), (251, .goto 4, 254, 255, 0, 0), (254, .iconst 2, 255, 0, 0, 0), (255, .ireturn, 256, 0, 0, 0), (256, .aload_n 0, 257, 0, 0, 0), (257, .iload 6, 259, 0, 0, 0), (259, .iload 7, 261, 0, 0, 0), (261, .iload_n 3, 262, 0, 0, 0), (262, .ifCond .eq 7, 265, 269, 0, 0), (265, .iconst 0, 266, 0, 0, 0), (266, .goto 4, 269, 270, 0, 0), (269, .iconst 2, 270, 0, 0, 0), (270, .invokevirtual 211, 273, 126, 3, 110), (273, .aload_n 0, 274, 0, 0, 0), (274, .getfield 87, 277, 11, 32, 1), (277, .iload_n 2, 278, 0, 0, 0), (278, .iconst 1, 279, 0, 0, 0), (279, .bastore, 280, 0, 0, 0), (280, .aload_n 0, 281, 0, 0, 0), (281, .iload_n 2, 282, 0, 0, 0), (282, .iload 6, 284, 0, 0, 0), (284, .iload 7, 286, 0, 0, 0), (286, .invokevirtual 208, 289, 148, 3, 110), (289, .aload_n 0, 290, 0, 0, 0), (290, .getfield 96, 293, 11, 35, 1), (293, .iload_n 2, 294, 0, 0, 0), (294, .iload_n 3, 295, 0, 0, 0), (295, .ifCond .eq 7, 298, 302, 0, 0), (298, .iconst 0, 299, 0, 0, 0), (299, .goto 4, 302, 303, 0, 0), (302, .iconst 2, 303, 0, 0, 0), (303, .iastore, 304, 0, 0, 0), (304, .aload_n 0, 305, 0, 0, 0), (305, .getfield 99, 308, 11, 36, 1), (308, .iload_n 2, 309, 0, 0, 0), (309, .iconst 0, 310, 0, 0, 0), (310, .iastore, 311, 0, 0, 0), (311, .aload_n 0, 312, 0, 0, 0), (312, .getfield 102, 315, 11, 37, 1), (315, .iload_n 2, 316, 0, 0, 0), (316, .iconst 0, 317, 0, 0, 0), (317, .iastore, 318, 0, 0, 0), (318, .iconst 0, 319, 0, 0, 0), (319, .ireturn, 320, 0, 0, 0)]
def t153 : List ag_I := [(0, .aload_n 0, 1, 0, 0, 0), (1, .iload_n 1, 2, 0, 0, 0), (2, .invokevirtual 198, 5, 144, 1, 111), (5, .ifCond .ne 10, 8, 15, 0, 0), (8, .aload_n 0, 9, 0, 0, 0), (9, .iconst 1, 10, 0, 0, 0), (10, .putfield 109, 13, 11, 41, 0), (13, .iconst 0, 14, 0, 0, 0), (14, .ireturn, 15, 0, 0, 0), (15, .aload_n 0, 16, 0, 0, 0), (16, .iconst 0, 17, 0, 0, 0), (17, .invokevirtual 214, 20, 138, 1, 111), (20, .istore_n 3, 21, 0, 0, 0), (21, .aload_n 0, 22, 0, 0, 0), (22, .invokevirtual 218, 25, 139, 0, 110), (25, .aload_n 0, 26, 0, 0, 0), (26, .iload_n 1, 27, 0, 0, 0), (27, .invokevirtual 221, 30, 147, 1, 111), (30, .istore 4, 32, 0, 0, 0), (32, .iload_n 3, 33, 0, 0, 0), (33, .ifCond .ne 7, 36, 40, 0, 0), (36, .iconst 4, 37, 0, 0, 0), (37, .goto 36, 40, 73, 0, 0), (40, .iload 4, 42, 0, 0, 0), (42, .iconst 5, 43, 0, 0, 0), (43, .if_icmp .ne 7, 46, 50, 0, 0), (46, .iconst 3, 47, 0, 0, 0), (47, .goto 26, 50, 73, 0, 0), (50, .aload_n 0, 51, 0, 0, 0), (51, .getfield 172, 54, 11, 4, 0), (54, .ifCond .ne 7, 57, 61, 0, 0), (57, .iconst 2, 58, 0, 0, 0), (58, .goto 15, 61, 73, 0, 0), (61, .aload_n 0, 62, 0, 0, 0), (62, .iload_n 1, 63, 0, 0, 0), (63, .iconst 5, 64, 0, 0, 0), (64, .iload_n 1, 65, 0, 0, 0), (65, .imul, 66, 0, 0, 0), (66, .iload 4, 68, 0, 0, 0), (68, .iadd, 69, 0, 0, 0), (69, .iload_n 2, 70, 0, 0, 0), (70, .invokevirtual 235, 73, 152, 3, 111), (73, .istore 5, 75, 0, 0, 0), (75, .aload_n 0, 76, 0, 0, 0), (76, .iload 5, 78, 0, 0, 0), (78, .iconst 3, 79, 0, 0, 0), (79, .iconst 4, 80, 0, 0, 0), (80, .iconst 2, 81, 0, 0, 0), (81, .invokevirtual 227, 84, 149, 4, 111), (84, .ifCond .ne 8, 87, 92, 0, 0), (87, .iload 4, 89, 0, 0, 0), (89, .goto 4, 92, 93, 0, 0), (92, .iconst 0, 93, 0, 0, 0), (93, .ireturn, 94, 0, 0, 0)]
def t154 : List ag_I := [(0, .aload_n 0, 1, 0, 0, 0), (1, .iload_n 1, 2, 0, 0, 0), (2, .iload_n 2, 3, 0, 0, 0), (3, .invokevirtual 239, 6, 145, 2, 111), (6, .ifCond .eq 11, 9, 17, 0, 0), (9, .iconst 5, 10, 0, 0, 0), (10, .iload_n 1, 11, 0, 0, 0), (11, .imul, 12, 0, 0, 0), (12, .iload_n 2, 13, 0, 0, 0), (13, .iadd, 14, 0, 0, 0), (14, .goto 4, 17, 18, 0, 0), (17, .iconst (-1), 18, 0, 0, 0), (18, .istore_n 3, 19, 0, 0, 0), (19, .aload_n 0, 20, 0, 0, 0), (20, .iload_n 3, 21, 0, 0, 0), (21, .ifCond .ge 7, 24, 28, 0, 0), (24, .iconst 1, 25, 0, 0, 0), (25, .goto 18, 28, 43, 0, 0), (28, .aload_n 0, 29, 0, 0, 0), (29, .getfield 96, 32, 11, 35, 1), (32, .iload_n 3, 33, 0, 0, 0), (33, .iaload, 34, 0, 0, 0), (34, .iconst 1, 35, 0, 0, 0), (35, .if_icmp .ne 7, 38, 42, 0, 0), (38, .iconst 2, 39, 0, 0, 0), (39, .goto 4, 42, 43, 0, 0), (42, .iconst 0, 43, 0, 0, 0), (43, .putfield 109, 46, 11, 41, 0), (46, .aload_n 0, 47, 0, 0, 0), (47, .getfield 109, 50, 11, 41, 0), (50, .ifCond .eq 5, 53, 55, 0, 0), (53, .iconst 0, 54, 0, 0, 0), (54, .ireturn, 55, 0, 0, 0), (55, .aload_n 0, 56, 0, 0, 0), (56, .aload_n 0, 57, 0, 0, 0), (57, .getfield 90, 60, 11, 33, 1), (60, .iconst 3, 61, 0, 0, 0), (61, .iload_n 3, 62, 0, 0, 0), (62, .imul, 63, 0, 0, 0), (63, .aload_n 0, 64, 0, 0, 0), (64, .getfield 99, 67, 11, 36, 1), (67, .iload_n 3, 68, 0, 0, 0), (68, .iaload, 69, 0, 0, 0), (69, .iadd, 70, 0, 0, 0), (70, .iaload, 71, 0, 0, 0), (71, .aload_n 0, 72, 0, 0, 0), (72, .getfield 93, 75, 11, 34, 1), (75, .iconst 3, 76, 0, 0, 0), (76, .iload_n 3, 77, 0, 0, 0), (77, .imul, 78, 0, 0, 0), (78, .aload_n 0, 79, 0, 0, 0), (79, .getfield 99, 82, 11, 36, 1), (82, .iload_n 3, 83, 0, 0, 0), (83, .iaload, 84, 0, 0, 0), (84, .iadd, 85, 0, 0, 0), (85, .iaload, 86, 0, 0, 0), (86, .aload_n 0, 87, 0, 0, 0), (87, .getfield 102, 90, 11, 37, 1), (90, .iload_n 3, 91, 0, 0, 0), (91, .iaload, 92, 0, 0, 0), (92, .invokevirtual 243, 95, 130, 3, 110), (95, .aload_n 0, 96, 0, 0, 0), (96, .getfield 160, 99, 11, 21, 0), (99, .ifCond .ge 75, 102, 174, 0, 0), (102, .aload_n 0, 103, 0, 0, 0), (103, .getfield 99, 106, 11, 36, 1), (106, .iload_n 3, 107, 0, 0, 0), (107, .iaload, 108, 0, 0, 0), (108, .iconst 1, 109, 0, 0, 0), (109, .iadd, 110, 0, 0, 0), (110, .aload_n 0, 111, 0, 0, 0), (111, .getfield 84, 114, 11, 31, 1), (114, .iload_n 3, 115, 0, 0, 0), (115, .iaload, 116, 0, 0, 0), (116, .if_icmp .ge 58, 119, 174, 0, 0), (119, .aload_n 0, 120, 0, 0, 0), (120, .getfield 99, 123, 11, 36, 1), (123, .iload_n 3, 124, 0, 0, 0), (124, .dup2, 125, 0, 0, 0), (125, .iaload, 126, 0, 0, 0), (126, .iconst 1, 127, 0, 0, 0), (127, .iadd, 128, 0, 0, 0), (128, .iastore, 129, 0, 0, 0), (129, .aload_n 0, 130, 0, 0, 0), (130, .getfield 102, 133, 11, 37, 1), (133, .iload_n 3, 134, 0, 0, 0), (134, .iconst 0, 135, 0, 0, 0), (135, .iastore, 136, 0, 0, 0), (136, .aload_n 0, 137, 0, 0, 0), (137, .aload_n 0, 138, 0, 0, 0), (138, .getfield 90, 141, 11, 33, 1), (141, .iconst 3, 142, 0, 0, 0), (142, .iload_n 3, 143, 0, 0, 0), (143, .imul, 144, 0, 0, 0), (144, .aload_n 0, 145, 0, 0, 0), (145, .getfield 99, 148, 11, 36, 1), (148, .iload_n 3, 149, 0, 0, 0), (149, .iaload, 150, 0, 0, 0), (150, .iadd, 151, 0, 0, 0), (151, .iaload, 152, 0, 0, 0), (152, .aload_n 0, 153, 0, 0, 0), (153, .getfield 93, 156, 11, 34, 1), (156, .iconst 3, 157, 0, 0, 0), (157, .iload_n 3, 158, 0, 0, 0), (158, .imul, 159, 0, 0, 0), (159, .aload_n 0, 160, 0, 0, 0), (160, .getfield 99, 163, 11, 36, 1), (163, .iload_n 3, 164, 0, 0, 0), (164, .iaload, 165, 0, 0, 0), (165, .iadd, 166, 0, 0, 0), (166, .iaload, 167, 0, 0, 0), (167, .iconst 0, 168, 0, 0, 0), (168, .invokevirtual 243, 171, 130, 3, 110), (171, .goto (-76), 174, 95, 9, 1), (174, .aload_n 0, 175, 0, 0, 0), (175, .getfield 102, 178, 11, 37, 1), (178, .iload_n 3, 179, 0, 0, 0), (179, .aload_n 0, 180, 0, 0, 0), (180, .getfield 160, 183, 11, 21, 0), (183, .ifCond .lt 14, 186, 197, 0, 0), (186, .aload_n 0, 187, 0, 0, 0), (187, .getfield 102, 190, 11, 37, 1), (190, .iload_n 3, 191, 0, 0, 0), (191, .iaload, 192, 0, 0, 0), (192, .iconst 1, 193, 0, 0, 0), (193, .iadd, 194, 0, 0, 0), (194, .goto 9, 197, 203, 0, 0), (197, .aload_n 0, 198, 0, 0, 0), (198, .getfield 102, 201, 11, 37, 1), (201, .iload_n 3, 202, 0, 0, 0), (202, .iaload, 203, 0, 0, 0), (203, .iastore, 204, 0, 0, 0), (204, .aload_n 0, 205, 0, 0, 0), (205, .aload_n 0, 206, 0, 0, 0), (206, .getfield 160, 209, 11, 21, 0), (209, .ifCond .ge 23, 212, 232, 0, 0), (212, .aload_n 0, 213, 0, 0, 0), (213, .getfield 122, 216, 11, 20, 0), (216, .ifCond .eq 16, 219, 232, 0, 0), (219, .aload_n 0, 220, 0, 0, 0), (220, .getfield 87, 223, 11, 32, 1), (223, .iload_n 3, 224, 0, 0, 0), (224, .baload, 225, 0, 0, 0), (225, .ifCond .eq 7, 228, 232, 0, 0), (228, .iconst 3, 229, 0, 0, 0), (229, .goto 4, 232, 233, 0, 0), (232, .iconst 0, 233, 0, 0, 0), (233, .putfield 109, 236, 11, 41, 0), (236, .aload_n 0, 237, 0, 0, 0), (237, .getfield 109, 240, 11, 41, 0), (240, .ifCond .ne 10, 243, 250, 0, 0), (243, .aload_n 0, 244, 0, 0, 0), (244, .getfield 160, 247, 11, 21, 0), (247, .goto 4, 250, 251, 0, 0), (250, .iconst 0, 251, 0, 0, 0), (251, .ireturn, 252, 0, 0, 0)]
def t155 : List ag_I := [(0, .aload_n 0, 1, 0, 0, 0), (1, .iload_n 1, 2, 0, 0, 0), (2, .iload_n 2, 3, 0, 0, 0), (3, .invokevirtual 239, 6, 145, 2, 111), (6, .ifCond .eq 22, 9, 28, 0, 0), (9, .iload_n 3, 10, 0, 0, 0), (10, .iconst 0, 11, 0, 0, 0), (11, .sipush 255, 14, 0, 0, 0), (14, .invokestatic 179, 17, 114, 3, 1), (17, .ifCond .ne 11, 20, 28, 0, 0), (20, .iconst 5, 21, 0, 0, 0), (21, .iload_n 1, 22, 0, 0, 0), (22, .imul, 23, 0, 0, 0), (23, .iload_n 2, 24, 0, 0, 0), (24, .iadd, 25, 0, 0, 0), (25, .goto 4, 28, 29, 0, 0), (28, .iconst (-1), 29, 0, 0, 0), (29, .istore 4, 31, 0, 0, 0), (31, .aload_n 0, 32, 0, 0, 0), (32, .iload 4, 34, 0, 0, 0), (34, .ifCond .ge 7, 37, 41, 0, 0), (37, .iconst 1, 38, 0, 0, 0), (38, .goto 18, 41, 56, 0, 0), (41, .aload_n 0, 42, 0, 0, 0), (42, .getfield 96, 45, 11, 35, 1), (45, .iload 4, 47, 0, 0, 0), (47, .iaload, 48, 0, 0, 0), (48, .ifCond .ne 7, 51, 55, 0, 0), (51, .iconst 4, 52, 0, 0, 0), (52, .goto 4, 55, 56, 0, 0), (55, .iconst 0, 56, 0, 0, 0), (56, .putfield 109, 59, 11, 41, 0), (59, .aload_n 0, 60, 0, 0, 0), (60, .getfield 109, 63, 11, 41, 0), (63, .ifCond .eq 5, 66, 68, 0, 0), (66, .iconst 0, 67, 0, 0, 0), (67, .ireturn, 68, 0, 0, 0), (68, .aload_n 0, 69, 0, 0, 0), (69, .aload_n 0, 70, 0, 0, 0), (70, .getfield 90, 73, 11, 33, 1), (73, .iconst 3, 74, 0, 0, 0), (74, .iload 4, 76, 0, 0, 0), (76, .imul, 77, 0, 0, 0), (77, .aload_n 0, 78, 0, 0, 0), (78, .getfield 99, 81, 11, 36, 1), (81, .iload 4, 83, 0, 0, 0), (83, .iaload, 84, 0, 0, 0), (84, .iadd, 85, 0, 0, 0), (85, .iaload, 86, 0, 0, 0), (86, .aload_n 0, 87, 0, 0, 0), (87, .getfield 93, 90, 11, 34, 1), (90, .iconst 3, 91, 0, 0, 0), (91, .iload 4, 93, 0, 0, 0), (93, .imul, 94, 0, 0, 0), (94, .aload_n 0, 95, 0, 0, 0), (95, .getfield 99, 98, 11, 36, 1), (98, .iload 4, 100, 0, 0, 0), (100, .iaload, 101, 0, 0, 0), (101, .iadd, 102, 0, 0, 0), (102, .iaload, 103, 0, 0, 0), (103, .aload_n 0, 104, 0, 0, 0), (104, .getfield 102, 107, 11, 37, 1), (107, .iload 4, 109, 0, 0, 0), (109, .iaload, 110, 0, 0, 0), (110, .iload_n 3, 111, 0, 0, 0), (111, .invokevirtual 246, 114, 131, 4, 110), (114, .aload_n 0, 115, 0, 0, 0), (115, .aload_n 0, 116, 0, 0, 0), (116, .getfield 122, 119, 11, 20, 0), (119, .ifCond .ne 7, 122, 126, 0, 0), (122, .iconst 0, 123, 0, 0, 0), (123, .goto 17, 126, 140, 0, 0), (126, .aload_n 0, 127, 0, 0, 0), (127, .getfield 122, 130, 11, 20, 0), (130, .bipush 102, 132, 0, 0, 0), (132, .if_icmp .ne 7, 135, 139, 0, 0), (135, .iconst 2, 136, 0, 0, 0), (136, .goto 4, 139, 140, 0, 0), (139, .iconst 3, 140, 0, 0, 0), (140, .putfield 109, 143, 11, 41, 0), (143, .aload_n 0, 144, 0, 0, 0), (144, .getfield 102, 147, 11, 37, 1), (147, .iload 4, 149, 0, 0, 0), (149, .aload_n 0, 150, 0, 0, 0), (150, .getfield 109, 153, 11, 41, 0), (153, .ifCond .ne 15, 156, 168, 0, 0), (156, .aload_n 0, 157, 0, 0, 0), (157, .getfield 102, 160, 11, 37, 1), (160, .iload 4, 162, 0, 0, 0), (162, .iaload, 163, 0, 0, 0), (163, .iconst 1, 164, 0, 0, 0), (164, .iadd, 165, 0, 0, 0), (165, .goto 10, 168, 175, 0, 0), (168, .aload_n 0, 169, 0, 0, 0), (169, .getfield 102, 172, 11, 37, 1), (172, .iload 4, 174, 0, 0, 0), (174, .iaload, 175, 0, 0, 0), (175, .iastore, 176, 0, 0, 0), (176, .aload_n 0, 177, 0, 0, 0), (177, .getfield 109, 180, 11, 41, 0), (180, .ifCond .ne 10, 183, 190, 0, 0), (183, .aload_n 0, 184, 0, 0, 0), (184, .getfield 160, 187, 11, 21, 0), (187, .goto 4, 190, 191, 0, 0), (190, .iconst 0, 191, 0, 0, 0), (191, .ireturn, 192, 0, 0, 0)]
def t156 : List ag_I := [(0, .iconst 0, 1, 0, 0, 0), (1, .istore_n 2, 2, 0, 0, 0), (2, .iload_n 2, 3, 0, 0, 0), (3, .aload_n 0, 4, 0, 0, 0), (4, .getfield 84, 7, 11, 31, 1), (7, .iload_n 1, 8, 0, 0, 0), (8, .iaload, 9, 0, 0, 0), (9, .if_icmp .ge 33, 12, 42, 0, 0), (12, .aload_n 0, 13, 0, 0, 0), (13, .aload_n 0, 14, 0, 0, 0), (14, .getfield 90, 17, 11, 33, 1), (17, .iconst 3, 18, 0, 0, 0), (18, .iload_n 1, 19, 0, 0, 0), (19, .imul, 20, 0, 0, 0), (20, .iload_n 2, 21, 0, 0, 0), (21, .iadd, 22, 0, 0, 0), (22, .iaload, 23, 0, 0, 0), (23, .aload_n 0, 24, 0, 0, 0), (24, .getfield 93, 27, 11, 34, 1), (27, .iconst 3, 28, 0, 0, 0), (28, .iload_n 1, 29, 0, 0, 0), (29, .imul, 30, 0, 0, 0), (30, .iload_n 2, 31, 0, 0, 0), (31, .iadd, 32, 0, 0, 0), (32, .iaload, 33, 0, 0, 0), (33, .invokevirtual 195, 36, 132, 2, 110), (36, .iinc 2 1, 39, 0, 0, 0), (39, .goto (-37), 42, 2, 7, 1), (42, .aload_n 0, 43, 0, 0, 0), (43, .getfield 84, 46, 11, 31, 1), (46, .iload_n 1, 47, 0, 0, 0), (47, .iconst 0, 48, 0, 0, 0), (48, .iastore, 49, 0, 0, 0), (49, .return_, 50, 0, 0, 0)]
def t157 : List ag_I := [(0, .aload_n 0, 1, 0, 0, 0), (1, .aload_n 0, 2, 0, 0, 0), (2, .iload_n 1, 3, 0, 0, 0), (3, .iload_n 2, 4, 0, 0, 0), (4, .invokevirtual 239, 7, 145, 2, 111), (7, .ifCond .eq 7, 10, 14, 0, 0), (10, .iconst 0, 11, 0, 0, 0), (11, .goto 4, 14, 15, 0, 0), (14, .iconst 1, 15, 0, 0, 0), (15, .putfield 109, 18, 11, 41, 0), (18, .aload_n 0, 19, 0, 0, 0), (19, .getfield 109, 22, 11, 41, 0), (22, .ifCond .eq 5, 25, 27, 0, 0), (25, .iconst 0, 26, 0, 0, 0), (26, .ireturn, 27, 0, 0, 0), (27, .aload_n 0, 28, 0, 0, 0), (28, .iconst 5, 29, 0, 0, 0), (29, .iload_n 1, 30, 0, 0, 0), (30, .imul, 31, 0, 0, 0), (31, .iload_n 2, 32, 0, 0, 0), (32, .iadd, 33, 0, 0, 0), (33, .invokevirtual 250, 36, 156, 1, 110), (36, .aload_n 0, 37, 0, 0, 0), (37, .iload_n 1, 38, 0, 0, 0), (38, .invokevirtual 253, 41, 146, 1, 111), (41, .ireturn, 42, 0, 0, 0)]
def t158 : List ag_I := [(0, .aload_n 0, 1, 0, 0, 0), (1, .iload_n 1, 2, 0, 0, 0), (2, .invokevirtual 198, 5, 144, 1, 111), (5, .ifCond .ne 10, 8, 15, 0, 0), (8, .aload_n 0, 9, 0, 0, 0), (9, .iconst 1, 10, 0, 0, 0), (10, .putfield 109, 13, 11, 41, 0), (13, .iconst 0, 14, 0, 0, 0), (14, .ireturn, 15, 0, 0, 0), (15, .aload_n 0, 16, 0, 0, 0), (16, .iconst 0, 17, 0, 0, 0), (17, .invokevirtual 214, 20, 138, 1, 111), (20, .istore_n 2, 21, 0, 0, 0), (21, .aload_n 0, 22, 0, 0, 0), (22, .invokevirtual 218, 25, 139, 0, 110), (25, .iload_n 2, 26, 0, 0, 0), (26, .ifCond .ne 7, 29, 33, 0, 0), (29, .iconst 4, 30, 0, 0, 0), (30, .goto 23, 33, 53, 0, 0), (33, .aload_n 0, 34, 0, 0, 0), (34, .getfield 172, 37, 11, 4, 0), (37, .ifCond .ne 7, 40, 44, 0, 0), (40, .iconst 2, 41, 0, 0, 0), (41, .goto 12, 44, 53, 0, 0), (44, .aload_n 0, 45, 0, 0, 0), (45, .iload_n 1, 46, 0, 0, 0), (46, .aload_n 0, 47, 0, 0, 0), (47, .getfield 172, 50, 11, 4, 0), (50, .invokevirtual 202, 53, 141, 2, 111), (53, .istore_n 3, 54, 0, 0, 0), (54, .iconst 0, 55, 0, 0, 0), (55, .istore 4, 57, 0, 0, 0), (57, .iload_n 3, 58, 0, 0, 0), (58, .ifCond .ne 63, 61, 121, 0, 0), (61, .aload_n 0, 62, 0, 0, 0), (62, .getfield 45, 65, 11, 14, 1), (65, .sipush 200, 68, 0, 0, 0), (68, .aload_n 0, 69, 0, 0, 0), (69, .getfield 183, 72, 11, 38, 0), (72, .imul, 73, 0, 0, 0), (73, .aload_n 0, 74, 0, 0, 0), (74, .getfield 186, 77, 11, 39, 0), (77, .iadd, 78, 0, 0, 0), (78, .iaload, 79, 0, 0, 0), (79, .iconst 1, 80, 0, 0, 0), (80, .isub, 81, 0, 0, 0), (81, .istore 4, 83, 0, 0, 0), (83, .aload_n 0, 84, 0, 0, 0), (84, .aload_n 0, 85, 0, 0, 0), (85, .getfield 183, 88, 11, 38, 0), (88, .aload_n 0, 89, 0, 0, 0), (89, .getfield 186, 92, 11, 39, 0), (92, .invokevirtual 256, 95, 133, 2, 110), (95, .aload_n 0, 96, 0, 0, 0), (96, .getfield 122, 99, 11, 20, 0), (99, .ifCond .ne 7, 102, 106, 0, 0), (102, .iconst 0, 103, 0, 0, 0), (103, .goto 17, 106, 120, 0, 0), (106, .aload_n 0, 107, 0, 0, 0), (107, .getfield 122, 110, 11, 20, 0), (110, .bipush 112, 112, 0, 0, 0), (112, .if_icmp .ne 7, 115, 119, 0, 0), (115, .iconst 2, 116, 0, 0, 0), (116, .goto 4, 119, 120, 0, 0), (119, .iconst 1, 120, 0, 0, 0), (120, .istore_n 3, 121, 0, 0, 0), (121, .aload_n 0, 122, 0, 0, 0), (122, .iload_n 3, 123, 0, 0, 0), (123, .iconst 2, 124, 0, 0, 0), (124, .iconst 3, 125, 0, 0, 0), (125, .iconst 0, 126, 0, 0, 0), (126, .invokevirtual 227, 129, 149, 4, 111), (129, .ifCond .ne 8, 132, 137, 0, 0), (132, .iload 4, 134, 0, 0, 0), (134, .goto 4, 137, 138, 0, 0), (137, .iconst 0, 138, 0, 0, 0), (138, .ireturn, 139, 0, 0, 0)]
def t159 : List ag_I := [(0, .aload_n 0, 1, 0, 0, 0), (1, .iload_n 1, 2, 0, 0, 0), (2, .invokevirtual 198, 5, 144, 1, 111), (5, .ifCond .ne 10, 8, 15, 0, 0), (8, .aload_n 0, 9, 0, 0, 0), (9, .iconst 1, 10, 0, 0, 0), (10, .putfield 109, 13, 11, 41, 0), (13, .iconst 0, 14, 0, 0, 0), (14, .ireturn, 15, 0, 0, 0), (15, .aload_n 0, 16, 0, 0, 0), (16, .iconst 0, 17, 0, 0, 0), (17, .invokevirtual 214, 20, 138, 1, 111), (20, .istore_n 2, 21, 0, 0, 0), (21, .aload_n 0, 22, 0, 0, 0), (22, .invokevirtual 218, 25, 139, 0, 110), (25, .iload_n 2, 26, 0, 0, 0), (26, .ifCond .ne 7, 29, 33, 0, 0), (29, .iconst 4, 30, 0, 0, 0), (30, .goto 12, 33, 42, 0, 0), (33, .aload_n 0, 34, 0, 0, 0), (34, .iload_n 1, 35, 0, 0, 0), (35, .aload_n 0, 36, 0, 0, 0), (36, .getfield 172, 39, 11, 4, 0), (39, .invokevirtual 202, 42, 141, 2, 111), (42, .istore_n 3, 43, 0, 0, 0), (43, .iconst 0, 44, 0, 0, 0), (44, .istore 4, 46, 0, 0, 0), (46, .iload_n 3, 47, 0, 0, 0), (47, .ifCond .ne 85, 50, 132, 0, 0), (50, .aload_n 0, 51, 0, 0, 0), (51, .aload_n 0, 52, 0, 0, 0), (52, .getfield 183, 55, 11, 38, 0), (55, .aload_n 0, 56, 0, 0, 0), (56, .getfield 186, 59, 11, 39, 0), (59, .invokevirtual 259, 62, 134, 2, 110), (62, .bipush 100, 64, 0, 0, 0), (64, .aload_n 0, 65, 0, 0, 0), (65, .getfield 183, 68, 11, 38, 0), (68, .imul, 69, 0, 0, 0), (69, .iconst 2, 70, 0, 0, 0), (70, .aload_n 0, 71, 0, 0, 0), (71, .getfield 45, 74, 11, 14, 1), (74, .sipush 200, 77, 0, 0, 0), (77, .aload_n 0, 78, 0, 0, 0), (78, .getfield 183, 81, 11, 38, 0), (81, .imul, 82, 0, 0, 0), (82, .aload_n 0, 83, 0, 0, 0), (83, .getfield 186, 86, 11, 39, 0), (86, .iadd, 87, 0, 0, 0), (87, .iaload, 88, 0, 0, 0), (88, .iconst 1, 89, 0, 0, 0), (89, .isub, 90, 0, 0, 0), (90, .imul, 91, 0, 0, 0), (91, .iadd, 92, 0, 0, 0), (92, .aload_n 0, 93, 0, 0, 0), (93, .invokevirtual 262, 96, 142, 0, 111), (96, .ifCond .eq 7, 99, 103, 0, 0), (99, .iconst 1, 100, 0, 0, 0), (100, .goto 4, 103, 104, 0, 0), (103, .iconst 0, 104, 0, 0, 0), (104, .iadd, 105, 0, 0, 0), (105, .istore 4, 107, 0, 0, 0), (107, .aload_n 0, 108, 0, 0, 0), (108, .getfield 122, 111, 11, 20, 0), (111, .ifCond .ne 7, 114, 118, 0, 0), (114, .iconst 0, 115, 0, 0, 0), (115, .goto 4, 118, 119, 0, 0), (118, .iconst 1, 119, 0, 0, 0), (119, .istore_n 3, 120, 0, 0, 0), (120, .aload_n 0, 121, 0, 0, 0), (121, .aload_n 0, 122, 0, 0, 0), (122, .getfield 183, 125, 11, 38, 0), (125, .aload_n 0, 126, 0, 0, 0), (126, .getfield 186, 129, 11, 39, 0), (129, .invokevirtual 195, 132, 132, 2, 110), (132, .aload_n 0, 133, 0, 0, 0), (133, .iload_n 3, 134, 0, 0, 0), (134, .iconst 2, 135, 0, 0, 0), (135, .iconst 3, 136, 0, 0, 0), (136, .iconst 0, 137, 0, 0, 0), (137, .invokevirtual 227, 140, 149, 4, 111), (140, .ifCond .ne 8, 143, 148, 0, 0), (143, .iload 4, 145, 0, 0, 0), (145, .goto 4, 148, 149, 0, 0), (148, .iconst 0, 149, 0, 0, 0), (149, .ireturn, 150, 0, 0, 0)]
def t160 : List ag_I := [(0, .iload_n 0, 1, 0, 0, 0), (1, .ifCond .lt 20, 4, 21, 0, 0), (4, .iload_n 0, 5, 0, 0, 0), (5, .bipush 7, 7, 0, 0, 0), (7, .if_icmp .ge 14, 10, 21, 0, 0), (10, .iload_n 0, 11, 0, 0, 0), (11, .iconst 4, 12, 0, 0, 0), (12, .irem, 13, 0, 0, 0), (13, .iconst 3, 14, 0, 0, 0), (14, .if_icmp .eq 7, 17, 21, 0, 0), (17, .iconst 1, 18, 0, 0, 0), (18, .goto 4, 21, 22, 0, 0), (21, .iconst 0, 22, 0, 0, 0), (22, .ireturn, 23, 0, 0, 0)]
def t161 : List ag_I := [(0, .aload_n 0, 1, 0, 0, 0), (1, .getfield 66, 4, 11, 25, 1), (4, .iload_n 1, 5, 0, 0, 0), (5, .iaload, 6, 0, 0, 0), (6, .istore 6, 8, 0, 0, 0), (8, .iload 6, 10, 0, 0, 0), (10, .iload_n 2, 11, 0, 0, 0), (11, .if_icmp .le 81, 14, 92, 0, 0), (14, .aload_n 0, 15, 0, 0, 0), (15, .getfield 69, 18, 11, 26, 1), (18, .iconst 3, 19, 0, 0, 0), (19, .iload_n 1, 20, 0, 0, 0), (20, .imul, 21, 0, 0, 0), (21, .iload 6, 23, 0, 0, 0), (23, .iadd, 24, 0, 0, 0), (24, .aload_n 0, 25, 0, 0, 0), (25, .getfield 69, 28, 11, 26, 1), (28, .iconst 3, 29, 0, 0, 0), (29, .iload_n 1, 30, 0, 0, 0), (30, .imul, 31, 0, 0, 0), (31, .iload 6, 33, 0, 0, 0), (33, .iadd, 34, 0, 0, 0), (34, .iconst 1, 35, 0, 0, 0), (35, .isub, 36, 0, 0, 0), (36, .iaload, 37, 0, 0, 0), (37, .iastore, 38, 0, 0, 0), (38, .aload_n 0, 39, 0, 0, 0), (39, .getfield 72, 42, 11, 27, 1), (42, .iconst 3, 43, 0, 0, 0), (43, .iload_n 1, 44, 0, 0, 0), (44, .imul, 45, 0, 0, 0), (45, .iload 6, 47, 0, 0, 0), (47, .iadd, 48, 0, 0, 0), (48, .aload_n 0, 49, 0, 0, 0), (49, .getfield 72, 52, 11, 27, 1), (52, .iconst 3, 53, 0, 0, 0), (53, .iload_n 1, 54, 0, 0, 0), (54, .imul, 55, 0, 0, 0), (55, .iload 6, 57, 0, 0, 0), (57, .iadd, 58, 0, 0, 0), (58, .iconst 1, 59, 0, 0, 0), (59, .isub, 60, 0, 0, 0), (60, .iaload, 61, 0, 0, 0), (61, .iastore, 62, 0, 0, 0), (62, .aload_n 0, 63, 0, 0, 0), (63, .getfield 75, 66, 11, 28, 1), (66, .iconst 3, 67, 0, 0, 0), (67, .iload_n 1, 68, 0, 0, 0), (68, .imul, 69, 0, 0, 0), (69, .iload 6, 71, 0, 0, 0), (71, .iadd, 72, 0, 0, 0), (72, .aload_n 0, 73, 0, 0, 0), (73, .getfield 75, 76, 11, 28, 1), (76, .iconst 3, 77, 0, 0, 0), (77, .iload_n 1, 78, 0, 0, 0), (78, .imul, 79, 0, 0, 0), (79, .iload 6, 81, 0, 0, 0), (81, .iadd, 82, 0, 0, 0), (82, .iconst 1, 83, 0, 0, 0), (83, .isub, 84, 0, 0, 0), (84, .baload, 85, 0, 0, 0), (85, .bastore, 86, 0, 0, 0), (86, .iinc 6 (-1), 89, 0, 0, 0), (89, .goto (-81), 92, 8, 127, 1), (92, .aload_n 0, 93, 0, 0, 0), (93, .getfield 69, 96, 11, 26, 1), (96, .iconst 3, 97, 0, 0, 0), (97, .iload_n 1, 98, 0, 0, 0), (98, .imul, 99, 0, 0, 0), (99, .iload_n 2, 100, 0, 0, 0), (100, .iadd, 101, 0, 0, 0), (101, .iload_n 3, 102, 0, 0, 0), (102, .iastore, 103, 0, 0, 0), (103, .aload_n 0, 104, 0, 0, 0), (104, .getfield 72, 107, 11, 27, 1), (107, .iconst 3, 108, 0, 0, 0), (108, .iload_n 1, 109, 0, 0, 0), (109, .imul, 110, 0, 0, 0), (110, .iload_n 2, 111, 0, 0, 0), (111, .iadd, 112, 0, 0, 0), (112, .iload 4, 114, 0, 0, 0), (114, .iastore, 115, 0, 0, 0), (115, .aload_n 0, 116, 0, 0, 0), (116, .getfield 75, 119, 11, 28, 1), (119, .iconst 3, 120, 0, 0, 0), (120, .iload_n 1, 121, 0, 0, 0), (121, .imul, 122, 0, 0, 0), (122, .iload_n 2, 123, 0, 0, 0), (123, .iadd, 124, 0, 0, 0), (124, .iload 5, 126, 0, 0, 0), (126, .bastore, 127, 0, 0, 0), (127, .aload_n 0, 128, 0, 0, 0), (128, .getfield 66, 131, 11, 25, 1), (131, .iload_n 1, 132, 0, 0, 0), (132, .dup2, 133, 0, 0, 0), (133, .iaload, 134, 0, 0, 0), (134, .iconst 1, 135, 0, 0, 0), (135, .iadd, 136, 0, 0, 0), (136, .iastore, 137, 0, 0, 0), (137, .return_, 138, 0, 0, 0)]
def t162 : List ag_I := [(0, .iconst 0, 1, 0, 0, 0), (1, .istore_n 2, 2, 0, 0, 0), (2, .iload_n 2, 3, 0, 0, 0), (3, .aload_n 0, 4, 0, 0, 0), (4, .getfield 66, 7, 11, 25, 1), (7, .iload_n 1, 8, 0, 0, 0), (8, .iaload, 9, 0, 0, 0), (9, .if_icmp .ge 33, 12, 42, 0, 0), (12, .aload_n 0, 13, 0, 0, 0), (13, .aload_n 0, 14, 0, 0, 0), (14, .getfield 69, 17, 11, 26, 1), (17, .iconst 3, 18, 0, 0, 0), (18, .iload_n 1, 19, 0, 0, 0), (19, .imul, 20, 0, 0, 0), (20, .iload_n 2, 21, 0, 0, 0), (21, .iadd, 22, 0, 0, 0), (22, .iaload, 23, 0, 0, 0), (23, .aload_n 0, 24, 0, 0, 0), (24, .getfield 72, 27, 11, 27, 1), (27, .iconst 3, 28, 0, 0, 0), (28, .iload_n 1, 29, 0, 0, 0), (29, .imul, 30, 0, 0, 0), (30, .iload_n 2, 31, 0, 0, 0), (31, .iadd, 32, 0, 0, 0), (32, .iaload, 33, 0, 0, 0), (33, .invokevirtual 195, 36, 132, 2, 110), (36, .iinc 2 1, 39, 0, 0, 0), (39, .goto (-37), 42, 2, 7, 1), (42, .aload_n 0, 43, 0, 0, 0), (43, .getfield 66, 46, 11, 25, 1), (46, .iload_n 1, 47, 0, 0, 0), (47, .iconst 0, 48, 0, 0, 0), (48, .iastore, 49, 0, 0, 0), (49, .return_, 50, 0, 0, 0)]
def t163 : List ag_I := [(0, .aload_n 0, 1, 0, 0, 0), (1, .iload_n 1, 2, 0, 0, 0), (2, .aload_n 0, 3, 0, 0, 0), (3, .getfield 172, 6, 11, 4, 0), (6, .invokevirtual 202, 9, 141, 2, 111), (9, .istore 5, 11, 0, 0, 0), (11, .iload 5, 13, 0, 0, 0), (13, .ifCond .ne 25, 16, 38, 0, 0), (16, .aload_n 0, 17, 0, 0, 0), (17, .invokevirtual 262, 20, 142, 0, 111), (20, .ifCond .ne 18, 23, 38, 0, 0), (23, .aload_n 0, 24, 0, 0, 0), (24, .aload_n 0, 25, 0, 0, 0), (25, .getfield 183, 28, 11, 38, 0), (28, .aload_n 0, 29, 0, 0, 0), (29, .getfield 186, 32, 11, 39, 0), (32, .invokevirtual 195, 35, 132, 2, 110), (35, .iconst 2, 36, 0, 0, 0), (36, .istore 5, 38, 0, 0, 0), (38, .iload 5, 40, 0, 0, 0), (40, .ifCond .eq 12, 43, 52, 0, 0), (43, .aload_n 0, 44, 0, 0, 0), (44, .iload_n 2, 45, 0, 0, 0), (45, .iload_n 3, 46, 0, 0, 0), (46, .invokevirtual 195, 49, 132, 2, 110), (49, .iload 5, 51, 0, 0, 0), (51, .ireturn, 52, 0, 0, 0), (52, .iconst 4, 53, 0, 0, 0), (53, .aload_n 0, 54, 0, 0, 0), (54, .getfield 81, 57, 11, 30, 1), (57, .iload_n 1, 58, 0, 0, 0), (58, .iaload, 59, 0, 0, 0), (59, .imul, 60, 0, 0, 0), (60, .istore 6, 62, 0, 0, 0), (62, .aload_n 0, 63, 0, 0, 0), (63, .iload_n 1, 64, 0, 0, 0), (64, .aload_n 0, 65, 0, 0, 0), (65, .getfield 183, 68, 11, 38, 0), (68, .aload_n 0, 69, 0, 0, 0), (69, .getfield 186, 72, 11, 39, 0), (72, .invokevirtual 189, 75, 140, 3, 111), (75, .istore 7, 77, 0, 0, 0), (77, .iload 7, 79, 0, 0, 0), (79, .ifCond .ge 7, 82, 86, 0, 0), (82, .iconst 1, 83, 0, 0, 0), (83, .goto 4, 86, 87, 0, 0), (86, .iconst 0, 87, 0, 0, 0), (87, .istore 8, 89, 0, 0, 0), (89, .iload 8, 91, 0, 0, 0), (91, .ifCond .eq 18, 94, 109, 0, 0), (94, .aload_n 0, 95, 0, 0, 0), (95, .getfield 57, 98, 11, 22, 1), (98, .aload_n 0, 99, 0, 0, 0), (99, .getfield 81, 102, 11, 30, 1), (102, .iload_n 1, 103, 0, 0, 0), (103, .iaload, 104, 0, 0, 0), (104, .iaload, 105, 0, 0, 0), (105, .iconst 4, 106, 0, 0, 0), (106, .if_icmp .eq 26, 109, 132, 0, 0), (109, .iload 8, 111, 0, 0, 0), (111, .ifCond .ne 41, 114, 152, 0, 0), (114, .aload_n 0, 115, 0, 0, 0), (115, .getfield 66, 118, 11, 25, 1), (118, .iload 7, 120, 0, 0, 0), (120, .iaload, 121, 0, 0, 0), (121, .iconst 3, 122, 0, 0, 0), (122, .if_icmp .ne 30, 125, 152, 0, 0), (125, .iload 4, 127, 0, 0, 0), (127, .iconst 4, 128, 0, 0, 0), (128, .irem, 129, 0, 0, 0), (129, .ifCond .eq 23, 132, 152, 0, 0), (132, .aload_n 0, 133, 0, 0, 0), (133, .aload_n 0, 134, 0, 0, 0), (134, .getfield 183, 137, 11, 38, 0), (137, .aload_n 0, 138, 0, 0, 0), (138, .getfield 186, 141, 11, 39, 0), (141, .invokevirtual 195, 144, 132, 2, 110), (144, .aload_n 0, 145, 0, 0, 0), (145, .iload_n 2, 146, 0, 0, 0), (146, .iload_n 3, 147, 0, 0, 0), (147, .invokevirtual 195, 150, 132, 2, 110), (150, .iconst 3, 151, 0, 0, 0), (151, .ireturn, 152, 0, 0, 0), (152, .iload 8, 154, 0, 0, 0), (154, .ifCond .eq 80, 157, 234, 0, 0), (157, .iload 6, 159, 0, 0, 0), (159, .aload_n 0, 160, 0, 0, 0), (160, .getfield 57, 163, 11, 22, 1), (163, .aload_n 0, 164, 0, 0, 0), (164, .getfield 81, 167, 11, 30, 1), (167, .iload_n 1, 168, 0, 0, 0), (168, .iaload, 169, 0, 0, 0), (169, .iaload, 170, 0, 0, 0), (170, .iadd, 171, 0, 0, 0), (171, .istore 7, 173, 0, 0, 0), (173, .aload_n 0, 174, 0, 0, 0), (174, .getfield 60, 177, 11, 23, 1), (177, .iload 7, 179, 0, 0, 0), (179, .aload_n 0, 180, 0, 0, 0), (180, .getfield 183, 183, 11, 38, 0), (183, .iastore, 184, 0, 0, 0), (184, .aload_n 0, 185, 0, 0, 0), (185, .getfield 63, 188, 11, 24, 1), (188, .iload 7, 190, 0, 0, 0), (190, .aload_n 0, 191, 0, 0, 0), (191, .getfield 45, 194, 11, 14, 1), (194, .sipush 200, 197, 0, 0, 0), (197, .aload_n 0, 198, 0, 0, 0), (198, .getfield 183, 201, 11, 38, 0), (201, .imul, 202, 0, 0, 0), (202, .aload_n 0, 203, 0, 0, 0), (203, .getfield 186, 206, 11, 39, 0), (206, .iadd, 207, 0, 0, 0), (207, .iaload, 208, 0, 0, 0), (208, .iconst 1, 209, 0, 0, 0), (209, .isub, 210, 0, 0, 0), (210, .iastore, 211, 0, 0, 0), (211, .aload_n 0, 212, 0, 0, 0), (212, .getfield 66, 215, 11, 25, 1), (215, .iload 7, 217, 0, 0, 0), (217, .iconst 0, 218, 0, 0, 0), (218, .iastore, 219, 0, 0, 0), (219, .aload_n 0, 220, 0, 0, 0), (220, .getfield 57, 223, 11, 22, 1), (223, .aload_n 0, 224, 0, 0, 0), (224, .getfield 81, 227, 11, 30, 1), (227, .iload_n 1, 228, 0, 0, 0), (228, .iaload, 229, 0, 0, 0), (229, .dup2, 230, 0, 0, 0), (230, .iaload, 231, 0, 0, 0), (231, .iconst 1, 232, 0, 0, 0), (232, .iadd, 233, 0, 0, 0), (233, .iastore, 234, 0, 0, 0), (234, .iload 4, 236, 0, 0, 0), (236, .iconst 4, 237, 0, 0, 0), (237, .irem, 238, 0, 0, 0), (238, .ifCond .ne 9, 241, 247, 0, 0), (241, .aload_n 0, 242, 0, 0, 0), (242, .iload 7, 244, 0, 0, 0), (244, .invokevirtual 266, 247, 162, 1, 110), (247, .iload 8, 249, 0, 0, 0), (249, .ifCond .eq 33, 252, 282, 0, 0), (252, .iload 4, 254, 0, 0, 0), (254, .iconst 4, 255, 0, 0, 0), (255, .irem, 256, 0, 0, 0), (256, .ifCond .eq 26, 259, 282, 0, 0), (259, .aload_n 0, 260, 0, 0, 0), (260, .invokevirtual 205, 263, 143, 0, 110), (263, .aload_n 0, 264, 0, 0, 0), (264, .iload 7, 266, 0, 0, 0), (266, .iconst 0, 267, 0, 0, 0), (267, .aload_n 0, 268, 0, 0, 0), (268, .getfield 183, 271, 11, 38, 0), (271, .aload_n 0, 272, 0, 0, 0), (272, .getfield 186, 275, 11, 39, 0), (275, .iconst 1, 276, 0, 0, 0), (276, .invokevirtual 269, 279, 161, 5, 110), (279, .goto 15, 282, 294, 0, 0), (282, .aload_n 0, 283, 0, 0, 0), (283, .aload_n 0, 284, 0, 0, 0), (284, .getfield 183, 287, 11, 38, 0), (287, .aload_n 0, 288, 0, 0, 0), (288, .getfield 186, 291, 11, 39, 0), (291, .invokevirtual 195, 294, 132, 2, 110), (294, .aload_n 0, 295, 0, 0, 0), (295, .iload 7, 297, 0, 0, 0), (297, .iload 4, 299, 0, 0, 0), (299, .iconst 4, 300, 0, 0, 0), (300, .irem, 301, 0, 0, 0), (301, .iconst 2, 302, 0, 0, 0), (302, .if_icmp .ne 13, 305, 315, 0, 0), (305, .aload_n 0, 306, 0, 0, 0), (306, .getfield 66, 309, 11, 25, 1), (309, .iload 7, 311, 0, 0, 0), (311, .iaload, 312, 0, 0, 0), (312, .goto 4, 315, 316, 0, 0), (315, .iconst 0, 316, 0, 0, 0), (316, .iload_n 2, 317, 0, 0, 0), (317, .iload_n 3, 318, 0, 0, 0), (318, .iload 4, 320, 0, 0, 0), (320, .iconst 4, 321, 0, 0, 0), (321, .idiv, 322, 0, 0, 0), (322, .iconst 1, 323, 0, 0, 0), (323, .if_icmp .ne 7, 326, 330, 0, 0), (326, .iconst 1, 327, 0, 0, 0), (327, .goto 4, 330, 331, 0, 0), (330, .iconst 0, 331, 0, 0, 0), (331, .invokevirtual 269, 334, 161, 5, 110), (334, .aload_n 0, 335, 0, 0, 0), (335, .aload_n 0, 336, 0, 0, 0), (336, .getfield 66, 339, 11, 25, 1), (339, .iload 7, 341, 0, 0, 0), (341, .iaload, 342, 0, 0, 0), (342, .putfield 160, 345, 11, 21, 0), (345, .iconst 0, 346, 0, 0, 0), (346, .ireturn, 347, 0, 0, 0)]
def t164 : List ag_I := [(0, .aload_n 0, 1, 0, 0, 0), (1, .iload_n 1, 2, 0, 0, 0), (2, .invokevirtual 198, 5, 144, 1, 111), (5, .ifCond .ne 10, 8, 15, 0, 0), (8, .aload_n 0, 9, 0, 0, 0), (9, .iconst 1, 10, 0, 0, 0), (10, .putfield 109, 13, 11, 41, 0), (13, .iconst 0, 14, 0, 0, 0), (14, .ireturn, 15, 0, 0, 0), (15, .aload_n 0, 16, 0, 0, 0), (16, .iconst 0, 17, 0, 0, 0), (17, .invokevirtual 214, 20, 138, 1, 111), (20, .ifCond .eq 22, 23, 42, 0, 0), (23, .aload_n 0, 24, 0, 0, 0), (24, .iconst 1, 25, 0, 0, 0), (25, .invokevirtual 214, 28, 138, 1, 111), (28, .ifCond .eq 14, 31, 42, 0, 0), (31, .iload_n 2, 32, 0, 0, 0), (32, .invokestatic 273, 35, 160, 1, 1), (35, .ifCond .eq 7, 38, 42, 0, 0), (38, .iconst 1, 39, 0, 0, 0), (39, .goto 4, 42, 43, 0, 0), (42, .iconst 0, 43, 0, 0, 0), (43, .istore_n 3, 44, 0, 0, 0), (44, .iload_n 3, 45, 0, 0, 0), (45, .ifCond .eq 15, 48, 60, 0, 0), (48, .aload_n 0, 49, 0, 0, 0), (49, .iload_n 1, 50, 0, 0, 0), (50, .aload_n 0, 51, 0, 0, 0), (51, .getfield 172, 54, 11, 4, 0), (54, .invokevirtual 202, 57, 141, 2, 111), (57, .goto 4, 60, 61, 0, 0), (60, .iconst 4, 61, 0, 0, 0), (61, .istore 4, 63, 0, 0, 0), (63, .iload 4, 65, 0, 0, 0), (65, .ifCond .ne 25, 68, 90, 0, 0), (68, .aload_n 0, 69, 0, 0, 0), (69, .invokevirtual 262, 72, 142, 0, 111), (72, .ifCond .ne 18, 75, 90, 0, 0), (75, .aload_n 0, 76, 0, 0, 0), (76, .aload_n 0, 77, 0, 0, 0), (77, .getfield 183, 80, 11, 38, 0), (80, .aload_n 0, 81, 0, 0, 0), (81, .getfield 186, 84, 11, 39, 0), (84, .invokevirtual 195, 87, 132, 2, 110), (87, .iconst 2, 88, 0, 0, 0), (88, .istore 4, 90, 0, 0, 0), (90, .iload 4, 92, 0, 0, 0), (92, .ifCond .ne 47, 95, 139, 0, 0), (95, .aload_n 0, 96, 0, 0, 0), (96, .invokevirtual 205, 99, 143, 0, 110), (99, .aload_n 0, 100, 0, 0, 0), (100, .getfield 183, 103, 11, 38, 0), (103, .istore 5, 105, 0, 0, 0), (105, .aload_n 0, 106, 0, 0, 0), (106, .getfield 186, 109, 11, 39, 0), (109, .istore 6, 111, 0, 0, 0), (111, .aload_n 0, 112, 0, 0, 0), (112, .iconst 0, 113, 0, 0, 0), (113, .invokevirtual 214, 116, 138, 1, 111), (116, .istore 7, 118, 0, 0, 0), (118, .iload 7, 120, 0, 0, 0), (120, .ifCond .eq 16, 123, 136, 0, 0), (123, .aload_n 0, 124, 0, 0, 0), (124, .iload_n 1, 125, 0, 0, 0), (125, .iload 5, 127, 0, 0, 0), (127, .iload 6, 129, 0, 0, 0), (129, .iload_n 2, 130, 0, 0, 0), (130, .invokevirtual 276, 133, 163, 4, 111), (133, .goto 4, 136, 137, 0, 0), (136, .iconst 4, 137, 0, 0, 0), (137, .istore 4, 139, 0, 0, 0), (139, .aload_n 0, 140, 0, 0, 0), (140, .invokevirtual 218, 143, 139, 0, 110), (143, .aload_n 0, 144, 0, 0, 0), (144, .iload 4, 146, 0, 0, 0), (146, .iconst 3, 147, 0, 0, 0), (147, .iconst 4, 148, 0, 0, 0), (148, .iconst 2, 149, 0, 0, 0), (149, .invokevirtual 227, 152, 149, 4, 111), (152, .ifCond .ne 10, 155, 162, 0, 0), (155, .aload_n 0, 156, 0, 0, 0), (156, .getfield 160, 159, 11, 21, 0), (159, .goto 4, 162, 163, 0, 0), (162, .iconst 0, 163, 0, 0, 0), (163, .ireturn, 164, 0, 0, 0)]
def t165 : List ag_I := [(0, .aload_n 0, 1, 0, 0, 0), (1, .iload_n 1, 2, 0, 0, 0), (2, .invokevirtual 198, 5, 144, 1, 111), (5, .ifCond .ne 10, 8, 15, 0, 0), (8, .aload_n 0, 9, 0, 0, 0), (9, .iconst 1, 10, 0, 0, 0), (10, .putfield 109, 13, 11, 41, 0), (13, .iconst 0, 14, 0, 0, 0), (14, .ireturn, 15, 0, 0, 0), (15, .aload_n 0, 16, 0, 0, 0), (16, .iconst 0, 17, 0, 0, 0), (17, .invokevirtual 214, 20, 138, 1, 111), (20, .ifCond .eq 23, 23, 43, 0, 0), (23, .iload_n 3, 24, 0, 0, 0), (24, .invokestatic 273, 27, 160, 1, 1), (27, .ifCond .eq 16, 30, 43, 0, 0), (30, .iload_n 2, 31, 0, 0, 0), (31, .iconst 0, 32, 0, 0, 0), (32, .iconst 1, 33, 0, 0, 0), (33, .invokestatic 179, 36, 114, 3, 1), (36, .ifCond .ne 7, 39, 43, 0, 0), (39, .iconst 1, 40, 0, 0, 0), (40, .goto 4, 43, 44, 0, 0), (43, .iconst 0, 44, 0, 0, 0), (44, .istore 4, 46, 0, 0, 0), (46, .aload_n 0, 47, 0, 0, 0), (47, .invokevirtual 218, 50, 139, 0, 110), (50, .iconst 4, 51, 0, 0, 0), (51, .istore 5, 53, 0, 0, 0), (53, .iload 4, 55, 0, 0, 0), (55, .ifCond .eq 28, 58, 83, 0, 0), (58, .aload_n 0, 59, 0, 0, 0), (59, .iload_n 2, 60, 0, 0, 0), (60, .invokevirtual 139, 63, 122, 1, 111), (63, .istore 6, 65, 0, 0, 0), (65, .aload_n 0, 66, 0, 0, 0), (66, .iload_n 2, 67, 0, 0, 0), (67, .iload 6, 69, 0, 0, 0), (69, .invokevirtual 105, 72, 123, 2, 110), (72, .aload_n 0, 73, 0, 0, 0), (73, .iload_n 1, 74, 0, 0, 0), (74, .iload_n 2, 75, 0, 0, 0), (75, .iload 6, 77, 0, 0, 0), (77, .iload_n 3, 78, 0, 0, 0), (78, .invokevirtual 276, 81, 163, 4, 111), (81, .istore 5, 83, 0, 0, 0), (83, .aload_n 0, 84, 0, 0, 0), (84, .iload 5, 86, 0, 0, 0), (86, .iconst 3, 87, 0, 0, 0), (87, .iconst 4, 88, 0, 0, 0), (88, .iconst 2, 89, 0, 0, 0), (89, .invokevirtual 227, 92, 149, 4, 111), (92, .ifCond .ne 10, 95, 102, 0, 0), (95, .aload_n 0, 96, 0, 0, 0), (96, .getfield 160, 99, 11, 21, 0), (99, .goto 4, 102, 103, 0, 0), (102, .iconst 0, 103, 0, 0, 0), (103, .ireturn, 104, 0, 0, 0)]
def t166 : List ag_I := [(0, .iconst 4, 1, 0, 0, 0), (1, .aload_n 0, 2, 0, 0, 0), (2, .getfield 81, 5, 11, 30, 1), (5, .iload_n 1, 6, 0, 0, 0), (6, .iaload, 7, 0, 0, 0), (7, .imul, 8, 0, 0, 0), (8, .istore_n 3, 9, 0, 0, 0), (9, .aload_n 0, 10, 0, 0, 0), (10, .getfield 57, 13, 11, 22, 1), (13, .aload_n 0, 14, 0, 0, 0), (14, .getfield 81, 17, 11, 30, 1), (17, .iload_n 1, 18, 0, 0, 0), (18, .iaload, 19, 0, 0, 0), (19, .dup2, 20, 0, 0, 0), (20, .iaload, 21, 0, 0, 0), (21, .iconst 1, 22, 0, 0, 0), (22, .isub, 23, 0, 0, 0), (23, .iastore, 24, 0, 0, 0), (24, .iload_n 2, 25, 0, 0, 0), (25, .istore 4, 27, 0, 0, 0), (27, .iload 4, 29, 0, 0, 0), (29, .iload_n 3, 30, 0, 0, 0), (30, .aload_n 0, 31, 0, 0, 0), (31, .getfield 57, 34, 11, 22, 1), (34, .aload_n 0, 35, 0, 0, 0), (35, .getfield 81, 38, 11, 30, 1), (38, .iload_n 1, 39, 0, 0, 0), (39, .iaload, 40, 0, 0, 0), (40, .iaload, 41, 0, 0, 0), (41, .iadd, 42, 0, 0, 0), (42, .if_icmp .ge 150, 45, 192, 0, 0), (45, .aload_n 0, 46, 0, 0, 0), (46, .getfield 60, 49, 11, 23, 1), (49, .iload 4, 51, 0, 0, 0), (51, .aload_n 0, 52, 0, 0, 0), (52, .getfield 60, 55, 11, 23, 1), (55, .iload 4, 57, 0, 0, 0), (57, .iconst 1, 58, 0, 0, 0), (58, .iadd, 59, 0, 0, 0), (59, .iaload, 60, 0, 0, 0), (60, .iastore, 61, 0, 0, 0), (61, .aload_n 0, 62, 0, 0, 0), (62, .getfield 63, 65, 11, 24, 1), (65, .iload 4, 67, 0, 0, 0), (67, .aload_n 0, 68, 0, 0, 0), (68, .getfield 63, 71, 11, 24, 1), (71, .iload 4, 73, 0, 0, 0), (73, .iconst 1, 74, 0, 0, 0), (74, .iadd, 75, 0, 0, 0), (75, .iaload, 76, 0, 0, 0), (76, .iastore, 77, 0, 0, 0), (77, .aload_n 0, 78, 0, 0, 0), (78, .getfield 66, 81, 11, 25, 1), (81, .iload 4, 83, 0, 0, 0), (83, .aload_n 0, 84, 0, 0, 0), (84, .getfield 66, 87, 11, 25, 1), (87, .iload 4, 89, 0, 0, 0), (89, .iconst 1, 90, 0, 0, 0), (90, .iadd, 91, 0, 0, 0), (91, .iaload, 92, 0, 0, 0), (92, .iastore, 93, 0, 0, 0), (93, .iconst 0, 94, 0, 0, 0), (94, .istore 5, 96, 0, 0, 0), (96, .iload 5, 98, 0, 0, 0), (98, .iconst 3, 99, 0, 0, 0), (99, .if_icmp .ge 87, 102, 186, 0, 0), (102, .aload_n 0, 103, 0, 0, 0), (103, .getfield 69, 106, 11, 26, 1), (106, .iconst 3, 107, 0, 0, 0), (107, .iload 4, 109, 0, 0, 0), (109, .imul, 110, 0, 0, 0), (110, .iload 5, 112, 0, 0, 0), (112, .iadd, 113, 0, 0, 0), (113, .aload_n 0, 114, 0, 0, 0), (114, .getfield 69, 117, 11, 26, 1), (117, .iconst 3, 118, 0, 0, 0), (118, .iload 4, 120, 0, 0, 0), (120, .imul, 121, 0, 0, 0), (121, .iconst 3, 122, 0, 0, 0), (122, .iadd, 123, 0, 0, 0), (123, .iload 5, 125, 0, 0, 0), (125, .iadd, 126, 0, 0, 0), (126, .iaload, 127, 0, 0, 0), (127, .iastore, 128, 0, 0, 0), (128, .aload_n 0, 129, 0, 0, 0), (129, .getfield 72, 132, 11, 27, 1), (132, .iconst 3, 133, 0, 0, 0), (133, .iload 4, 135, 0, 0, 0), (135, .imul, 136, 0, 0, 0), (136, .iload 5, 138, 0, 0, 0), (138, .iadd, 139, 0, 0, 0), (139, .aload_n 0, 140, 0, 0, 0), (140, .getfield 72, 143, 11, 27, 1), (143, .iconst 3, 144, 0, 0, 0), (144, .iload 4, 146, 0, 0, 0), (146, .imul, 147, 0, 0, 0), (147, .iconst 3, 148, 0, 0, 0), (148, .iadd, 149, 0, 0, 0), (149, .iload 5, 151, 0, 0, 0), (151, .iadd, 152, 0, 0, 0), (152, .iaload, 153, 0, 0, 0), (153, .iastore, 154, 0, 0, 0), (154, .aload_n 0, 155, 0, 0, 0), (155, .getfield 75, 158, 11, 28, 1), (158, .iconst 3, 159, 0, 0, 0), (159, .iload 4, 161, 0, 0, 0), (161, .imul, 162, 0, 0, 0), (162, .iload 5, 164, 0, 0, 0), (164, .iadd, 165, 0, 0, 0), (165, .aload_n 0, 166, 0, 0, 0), (166, .getfield 75, 169, 11, 28, 1), (169, .iconst 3, 170, 0, 0, 0), (170, .iload 4, 172, 0, 0, 0), (172, .imul, 173, 0, 0, 0), (173, .iconst 3, 174, 0, 0, 0), (174, .iadd, 175, 0, 0, 0), (175, .iload 5, 177, 0, 0, 0), (177, .iadd, 178, 0, 0, 0), (178, .baload, 179, 0, 0, 0), (179, .bastore, 180, 0, 0, 0), (180, .iinc 5 1, 183, 0, 0, 0), (183, .goto (-87), 186, 96, 59, 1), (186, .iinc 4 1, 189, 0, 0, 0), (189, .goto (-162), 192, 27, 27, 1), (192, .return_, 193, 0, 0, 0)]
def t167 : List ag_I := [(0, .aload_n 0, 1, 0, 0, 0), (1, .iload_n 1, 2, 0, 0, 0), (2, .invokevirtual 198, 5, 144, 1, 111), (5, .ifCond .ne 10, 8, 15, 0, 0), (8, .aload_n 0, 9, 0, 0, 0), (9, .iconst 1, 10, 0, 0, 0), (10, .putfield 109, 13, 11, 41, 0), (13, .iconst 0, 14, 0, 0, 0), (14, .ireturn, 15, 0, 0, 0), (15, .aload_n 0, 16, 0, 0, 0), (16, .iconst 0, 17, 0, 0, 0), (17, .invokevirtual 214, 20, 138, 1, 111), (20, .istore_n 2, 21, 0, 0, 0), (21, .aload_n 0, 22, 0, 0, 0), (22, .invokevirtual 218, 25, 139, 0, 110), (25, .iload_n 2, 26, 0, 0, 0), (26, .ifCond .eq 15, 29, 41, 0, 0), (29, .aload_n 0, 30, 0, 0, 0), (30, .iload_n 1, 31, 0, 0, 0), (31, .aload_n 0, 32, 0, 0, 0), (32, .getfield 172, 35, 11, 4, 0), (35, .invokevirtual 202, 38, 141, 2, 111), (38, .goto 4, 41, 42, 0, 0), (41, .iconst 4, 42, 0, 0, 0), (42, .istore_n 3, 43, 0, 0, 0), (43, .iload_n 3, 44, 0, 0, 0), (44, .ifCond .ne 59, 47, 103, 0, 0), (47, .aload_n 0, 48, 0, 0, 0), (48, .iload_n 1, 49, 0, 0, 0), (49, .aload_n 0, 50, 0, 0, 0), (50, .getfield 183, 53, 11, 38, 0), (53, .aload_n 0, 54, 0, 0, 0), (54, .getfield 186, 57, 11, 39, 0), (57, .invokevirtual 189, 60, 140, 3, 111), (60, .istore 4, 62, 0, 0, 0), (62, .iload 4, 64, 0, 0, 0), (64, .ifCond .lt 16, 67, 80, 0, 0), (67, .aload_n 0, 68, 0, 0, 0), (68, .iload 4, 70, 0, 0, 0), (70, .invokevirtual 266, 73, 162, 1, 110), (73, .aload_n 0, 74, 0, 0, 0), (74, .iload_n 1, 75, 0, 0, 0), (75, .iload 4, 77, 0, 0, 0), (77, .invokevirtual 279, 80, 166, 2, 110), (80, .iload 4, 82, 0, 0, 0), (82, .ifCond .ge 7, 85, 89, 0, 0), (85, .iconst 2, 86, 0, 0, 0), (86, .goto 4, 89, 90, 0, 0), (89, .iconst 0, 90, 0, 0, 0), (90, .istore_n 3, 91, 0, 0, 0), (91, .aload_n 0, 92, 0, 0, 0), (92, .aload_n 0, 93, 0, 0, 0), (93, .getfield 183, 96, 11, 38, 0), (96, .aload_n 0, 97, 0, 0, 0), (97, .getfield 186, 100, 11, 39, 0), (100, .invokevirtual 195, 103, 132, 2, 110), (103, .aload_n 0, 104, 0, 0, 0), (104, .iload_n 3, 105, 0, 0, 0), (105, .iconst 2, 106, 0, 0, 0), (106, .iconst 3, 107, 0, 0, 0), (107, .iconst 0, 108, 0, 0, 0), (108, .invokevirtual 227, 111, 149, 4, 111), (111, .ifCond .ne 17, 114, 128, 0, 0), (114, .aload_n 0, 115, 0, 0, 0), (115, .getfield 57, 118, 11, 22, 1), (118, .aload_n 0, 119, 0, 0, 0), (119, .getfield 81, 122, 11, 30, 1), (122, .iload_n 1, 123, 0, 0, 0), (123, .iaload, 124, 0, 0, 0), (124, .iaload, 125, 0, 0, 0), (125, .goto 4, 128, 129, 0, 0), (128, .iconst 0, 129, 0, 0, 0), (129, .ireturn, 130, 0, 0, 0)]
def t168 : List ag_I := [(0, .iconst 0, 1, 0, 0, 0), (1, .istore_n 2, 2, 0, 0, 0), (2, .iconst 0, 3, 0, 0, 0), (3, .istore_n 3, 4, 0, 0, 0), (4, .iload_n 3, 5, 0, 0, 0), (5, .iconst 4, 6, 0, 0, 0), (6, .if_icmp .ge 36, 9, 42, 0, 0), (9, .aload_n 0, 10, 0, 0, 0), (10, .getfield 78, 13, 11, 29, 1), (13, .iload_n 3, 14, 0, 0, 0), (14, .baload, 15, 0, 0, 0), (15, .ifCond .eq 19, 18, 34, 0, 0), (18, .aload_n 0, 19, 0, 0, 0), (19, .getfield 81, 22, 11, 30, 1), (22, .iload_n 3, 23, 0, 0, 0), (23, .iaload, 24, 0, 0, 0), (24, .iload_n 1, 25, 0, 0, 0), (25, .if_icmp .ne 9, 28, 34, 0, 0), (28, .iload_n 2, 29, 0, 0, 0), (29, .iconst 1, 30, 0, 0, 0), (30, .iadd, 31, 0, 0, 0), (31, .goto 4, 34, 35, 0, 0), (34, .iload_n 2, 35, 0, 0, 0), (35, .istore_n 2, 36, 0, 0, 0), (36, .iinc 3 1, 39, 0, 0, 0), (39, .goto (-35), 42, 4, 15, 1), (42, .iload_n 2, 43, 0, 0, 0), (43, .ireturn, 44, 0, 0, 0)]
def t169 : List ag_I := [(0, .iconst 0, 1, 0, 0, 0), (1, .istore_n 1, 2, 0, 0, 0), (2, .iconst 0, 3, 0, 0, 0), (3, .istore_n 2, 4, 0, 0, 0), (4, .iload_n 2, 5, 0, 0, 0), (5, .iconst 4, 6, 0, 0, 0), (6, .if_icmp .ge 26, 9, 32, 0, 0), (9, .aload_n 0, 10, 0, 0, 0), (10, .getfield 78, 13, 11, 29, 1), (13, .iload_n 2, 14, 0, 0, 0), (14, .baload, 15, 0, 0, 0), (15, .ifCond .eq 9, 18, 24, 0, 0), (18, .iload_n 1, 19, 0, 0, 0), (19, .iconst 1, 20, 0, 0, 0), (20, .iadd, 21, 0, 0, 0), (21, .goto 4, 24, 25, 0, 0), (24, .iload_n 1, 25, 0, 0, 0), (25, .istore_n 1, 26, 0, 0, 0), (26, .iinc 2 1, 29, 0, 0, 0), (29, .goto (-25), 32, 4, 7, 1), (32, .iload_n 1, 33, 0, 0, 0), (33, .ireturn, 34, 0, 0, 0)]
def t170 : List ag_I := [(0, .aload_n 0, 1, 0, 0, 0), (1, .aload_n 0, 2, 0, 0, 0), (2, .iload_n 1, 3, 0, 0, 0), (3, .invokevirtual 198, 6, 144, 1, 111), (6, .ifCond .ne 7, 9, 13, 0, 0), (9, .iconst 1, 10, 0, 0, 0), (10, .goto 16, 13, 26, 0, 0), (13, .aload_n 0, 14, 0, 0, 0), (14, .invokevirtual 282, 17, 169, 0, 111), (17, .iconst 4, 18, 0, 0, 0), (18, .if_icmp .ne 7, 21, 25, 0, 0), (21, .iconst 2, 22, 0, 0, 0), (22, .goto 4, 25, 26, 0, 0), (25, .iconst 0, 26, 0, 0, 0), (26, .putfield 109, 29, 11, 41, 0), (29, .aload_n 0, 30, 0, 0, 0), (30, .getfield 109, 33, 11, 41, 0), (33, .ifCond .eq 5, 36, 38, 0, 0), (36, .iconst 0, 37, 0, 0, 0), (37, .ireturn, 38, 0, 0, 0), (38, .iconst 0, 39, 0, 0, 0), (39, .istore_n 3, 40, 0, 0, 0), (40, .aload_n 0, 41, 0, 0, 0), (41, .getfield 78, 44, 11, 29, 1), (44, .iload_n 3, 45, 0, 0, 0), (45, .baload, 46, 0, 0, 0), (46, .ifCond .eq 9, 49, 55, 0, 0), (49, .iinc 3 1, 52, 0, 0, 0), (52, .goto (-12), 55, 40, 15, 1), (55, .iconst 0, 56, 0, 0, 0), (56, .istore 4, 58, 0, 0, 0), (58, .aload_n 0, 59, 0, 0, 0), (59, .iload 4, 61, 0, 0, 0), (61, .invokevirtual 286, 64, 168, 1, 111), (64, .ifCond .le 9, 67, 73, 0, 0), (67, .iinc 4 1, 70, 0, 0, 0), (70, .goto (-12), 73, 58, 31, 1), (73, .aload_n 0, 74, 0, 0, 0), (74, .getfield 78, 77, 11, 29, 1), (77, .iload_n 3, 78, 0, 0, 0), (78, .iconst 1, 79, 0, 0, 0), (79, .bastore, 80, 0, 0, 0), (80, .aload_n 0, 81, 0, 0, 0), (81, .getfield 81, 84, 11, 30, 1), (84, .iload_n 3, 85, 0, 0, 0), (85, .iload_n 2, 86, 0, 0, 0), (86, .ifCond .eq 12, 89, 98, 0, 0), (89, .aload_n 0, 90, 0, 0, 0), (90, .getfield 81, 93, 11, 30, 1), (93, .iload_n 1, 94, 0, 0, 0), (94, .iaload, 95, 0, 0, 0), (95, .goto 5, 98, 100, 0, 0), (98, .iload 4, 100, 0, 0, 0), (100, .iastore, 101, 0, 0, 0), (101, .iload_n 2, 102, 0, 0, 0), (102, .ifCond .eq 5, 105, 107, 0, 0), (105, .iload_n 3, 106, 0, 0, 0), (106, .ireturn, 107, 0, 0, 0), (107, .aload_n 0, 108, 0, 0, 0), (108, .getfield 81, 111, 11, 30, 1), (111, .iload_n 1, 112, 0, 0, 0), (112, .iaload, 113, 0, 0, 0), (113, .istore 5, 115, 0, 0, 0), (115, .aload_n 0, 116, 0, 0, 0), (116, .getfield 57, 119, 11, 22, 1), (119, .iload 4, 121, 0, 0, 0), (121, .aload_n 0, 122, 0, 0, 0), (122, .getfield 57, 125, 11, 22, 1), (125, .iload 5, 127, 0, 0, 0), (127, .iaload, 128, 0, 0, 0), (128, .iastore, 129, 0, 0, 0), (129, .iconst 0, 130, 0, 0, 0), (130, .istore 6, 132, 0, 0, 0), (132, .iload 6, 134, 0, 0, 0), (134, .aload_n 0, 135, 0, 0, 0), (135, .getfield 57, 138, 11, 22, 1), (138, .iload 5, 140, 0, 0, 0), (140, .iaload, 141, 0, 0, 0), (141, .if_icmp .ge 149, 144, 290, 0, 0), (144, .iconst 4, 145, 0, 0, 0), (145, .iload 5, 147, 0, 0, 0), (147, .imul, 148, 0, 0, 0), (148, .iload 6, 150, 0, 0, 0), (150, .iadd, 151, 0, 0, 0), (151, .istore 7, 153, 0, 0, 0), (153, .iconst 4, 154, 0, 0, 0), (154, .iload 4, 156, 0, 0, 0), (156, .imul, 157, 0, 0, 0), (157, .iload 6, 159, 0, 0, 0), (159, .iadd, 160, 0, 0, 0), (160, .istore 8, 162, 0, 0, 0), (162, .aload_n 0, 163, 0, 0, 0), (163, .getfield 60, 166, 11, 23, 1), (166, .iload 8, 168, 0, 0, 0), (168, .aload_n 0, 169, 0, 0, 0), (169, .getfield 60, 172, 11, 23, 1), (172, .iload 7, 174, 0, 0, 0), (174, .iaload, 175, 0, 0, 0), (175, .iastore, 176, 0, 0, 0), (176, .aload_n 0, 177, 0, 0, 0), (177, .getfield 63, 180, 11, 24, 1), (180, .iload 8, 182, 0, 0, 0), (182, .aload_n 0, 183, 0, 0, 0), (183, .getfield 63, 186, 11, 24, 1), (186, .iload 7, 188, 0, 0, 0), (188, .iaload, 189, 0, 0, 0), (189, .iastore, 190, 0, 0, 0), (190, .aload_n 0, 191, 0, 0, 0), (191, .getfield 66, 194, 11, 25, 1), (194, .iload 8, 196, 0, 0, 0), (196, .iconst 0, 197, 0, 0, 0), (197, .iastore, 198, 0, 0, 0), (198, .iconst 0, 199, 0, 0, 0), (199, .istore 9, 201, 0, 0, 0), (201, .iload 9, 203, 0, 0, 0), (203, .aload_n 0, 204, 0, 0, 0), (204, .getfield 66, 207, 11, 25, 1), (207, .iload 7, 209, 0, 0, 0), (209, .iaload, 210, 0, 0, 0), (210, .if_icmp .ge 74, 213, 284, 0, 0), (213, .aload_n 0, 214, 0, 0, 0), (214, .aload_n 0, 215, 0, 0, 0), (215, .getfield 69, 218, 11, 26, 1), (218, .iconst 3, 219, 0, 0, 0), (219, .iload 7, 221, 0, 0, 0), (221, .imul, 222, 0, 0, 0), (222, .iload 9, 224, 0, 0, 0), (224, .iadd, 225, 0, 0, 0), (225, .iaload, 226, 0, 0, 0), (226, .aload_n 0, 227, 0, 0, 0), (227, .getfield 72, 230, 11, 27, 1), (230, .iconst 3, 231, 0, 0, 0), (231, .iload 7, 233, 0, 0, 0), (233, .imul, 234, 0, 0, 0), (234, .iload 9, 236, 0, 0, 0), (236, .iadd, 237, 0, 0, 0), (237, .iaload, 238, 0, 0, 0), (238, .iconst (-1), 239, 0, 0, 0), (239, .invokevirtual 192, 242, 125, 3, 110), (242, .aload_n 0, 243, 0, 0, 0), (243, .iload 8, 245, 0, 0, 0), (245, .iload 9, 247, 0, 0, 0), (247, .aload_n 0, 248, 0, 0, 0), (248, .getfield 69, 251, 11, 26, 1), (251, .iconst 3, 252, 0, 0, 0), (252, .iload 7, 254, 0, 0, 0), (254, .imul, 255, 0, 0, 0), (255, .iload 9, 257, 0, 0, 0), (257, .iadd, 258, 0, 0, 0), (258, .iaload, 259, 0, 0, 0), (259, .aload_n 0, 260, 0, 0, 0), (260, .getfield 143, 263, 11, 40, 0), (263, .aload_n 0, 264, 0, 0, 0), (264, .getfield 75, 267, 11, 28, 1), (267, .iconst 3, 268, 0, 0, 0), (268, .iload 7, 270, 0, 0, 0), (270, .imul, 271, 0, 0, 0), (271, .iload 9, 273, 0, 0, 0), (273, .iadd, 274, 0, 0, 0), (274, .baload, 275, 0, 0, 0), (275, .invokevirtual 269, 278, 161, 5, 110), (278, .iinc 9 1, 281, 0, 0, 0), (281, .goto (-80), 284, 201, 1017, 1), (284, .iinc 6 1, 287, 0, 0, 0), (287, .goto (-155), 290, 132, 121, 1), (290, .iload_n 3, 291, 0, 0, 0), (291, .ireturn, 292, 0, 0, 0)]
def t171 : List ag_I := [(0, .aload_n 0, 1, 0, 0, 0), (1, .aload_n 0, 2, 0, 0, 0), (2, .iload_n 1, 3, 0, 0, 0), (3, .invokevirtual 198, 6, 144, 1, 111), (6, .ifCond .eq 7, 9, 13, 0, 0), (9, .iload_n 1, 10, 0, 0, 0), (10, .ifCond .ne 7, 13, 17, 0, 0), (13, .iconst 1, 14, 0, 0, 0), (14, .goto 4, 17, 18, 0, 0), (17, .iconst 0, 18, 0, 0, 0), (18, .putfield 109, 21, 11, 41, 0), (21, .aload_n 0, 22, 0, 0, 0), (22, .getfield 109, 25, 11, 41, 0), (25, .ifCond .eq 5, 28, 30, 0, 0), (28, .iconst 0, 29, 0, 0, 0), (29, .ireturn, 30, 0, 0, 0), (30, .iconst 0, 31, 0, 0, 0), (31, .istore_n 2, 32, 0, 0, 0), (32, .iload_n 2, 33, 0, 0, 0), (33, .iconst 5, 34, 0, 0, 0), (34, .if_icmp .ge 18, 37, 52, 0, 0), (37, .aload_n 0, 38, 0, 0, 0), (38, .iconst 5, 39, 0, 0, 0), (39, .iload_n 1, 40, 0, 0, 0), (40, .imul, 41, 0, 0, 0), (41, .iload_n 2, 42, 0, 0, 0), (42, .iadd, 43, 0, 0, 0), (43, .invokevirtual 250, 46, 156, 1, 110), (46, .iinc 2 1, 49, 0, 0, 0), (49, .goto (-17), 52, 32, 7, 1), (52, .aload_n 0, 53, 0, 0, 0), (53, .aload_n 0, 54, 0, 0, 0), (54, .getfield 81, 57, 11, 30, 1), (57, .iload_n 1, 58, 0, 0, 0), (58, .iaload, 59, 0, 0, 0), (59, .invokevirtual 286, 62, 168, 1, 111), (62, .iconst 1, 63, 0, 0, 0), (63, .if_icmp .ne 52, 66, 115, 0, 0), (66, .iconst 0, 67, 0, 0, 0), (67, .istore_n 2, 68, 0, 0, 0), (68, .iload_n 2, 69, 0, 0, 0), (69, .aload_n 0, 70, 0, 0, 0), (70, .getfield 57, 73, 11, 22, 1), (73, .aload_n 0, 74, 0, 0, 0), (74, .getfield 81, 77, 11, 30, 1), (77, .iload_n 1, 78, 0, 0, 0), (78, .iaload, 79, 0, 0, 0), (79, .iaload, 80, 0, 0, 0), (80, .if_icmp .ge 23, 83, 103, 0, 0), (83, .aload_n 0, 84, 0, 0, 0), (84, .iconst 4, 85, 0, 0, 0), (85, .aload_n 0, 86, 0, 0, 0), (86, .getfield 81, 89, 11, 30, 1), (89, .iload_n 1, 90, 0, 0, 0), (90, .iaload, 91, 0, 0, 0), (91, .imul, 92, 0, 0, 0), (92, .iload_n 2, 93, 0, 0, 0), (93, .iadd, 94, 0, 0, 0), (94, .invokevirtual 266, 97, 162, 1, 110), (97, .iinc 2 1, 100, 0, 0, 0), (100, .goto (-32), 103, 68, 7, 1), (103, .aload_n 0, 104, 0, 0, 0), (104, .getfield 57, 107, 11, 22, 1), (107, .aload_n 0, 108, 0, 0, 0), (108, .getfield 81, 111, 11, 30, 1), (111, .iload_n 1, 112, 0, 0, 0), (112, .iaload, 113, 0, 0, 0), (113, .iconst 0, 114, 0, 0, 0), (114, .iastore, 115, 0, 0, 0), (115, .aload_n 0, 116, 0, 0, 0), (116, .getfield 78, 119, 11, 29, 1), (119, .iload_n 1, 120, 0, 0, 0), (120, .iconst 0, 121, 0, 0, 0), (121, .bastore, 122, 0, 0, 0), (122, .aload_n 0, 123, 0, 0, 0), (123, .invokevirtual 282, 126, 169, 0, 111), (126, .ireturn, 127, 0, 0, 0)]
def t172 : List ag_I := [(0, .aload_n 0, 1, 0, 0, 0), (1, .iconst 0, 2, 0, 0, 0), (2, .putfield 109, 5, 11, 41, 0), (5, .iload_n 1, 6, 0, 0, 0), (6, .ifCond .ne 10, 9, 16, 0, 0), (9, .aload_n 0, 10, 0, 0, 0), (10, .getfield 113, 13, 11, 17, 0), (13, .goto 16, 16, 29, 0, 0), (16, .iload_n 1, 17, 0, 0, 0), (17, .iconst 1, 18, 0, 0, 0), (18, .if_icmp .ne 10, 21, 28, 0, 0), (21, .aload_n 0, 22, 0, 0, 0), (22, .getfield 116, 25, 11, 19, 0), (25, .goto 4, 28, 29, 0, 0), (28, .iconst 0, 29, 0, 0, 0), (29, .istore_n 3, 30, 0, 0, 0), (30, .iload_n 1, 31, 0, 0, 0), (31, .iconst 0, 32, 0, 0, 0), (32, .iconst 1, 33, 0, 0, 0), (33, .invokestatic 179, 36, 114, 3, 1), (36, .ifCond .eq 5, 39, 41, 0, 0), (39, .iconst (-1), 40, 0, 0, 0), (40, .ireturn, 41, 0, 0, 0), (41, .iload_n 2, 42, 0, 0, 0), (42, .iconst (-1), 43, 0, 0, 0), (43, .if_icmp .ne 7, 46, 50, 0, 0), (46, .iload_n 3, 47, 0, 0, 0), (47, .goto 35, 50, 82, 0, 0), (50, .iload_n 2, 51, 0, 0, 0), (51, .ifCond .lt 8, 54, 59, 0, 0), (54, .iload_n 2, 55, 0, 0, 0), (55, .iload_n 3, 56, 0, 0, 0), (56, .if_icmp .lt 7, 59, 63, 0, 0), (59, .iconst (-1), 60, 0, 0, 0), (60, .goto 22, 63, 82, 0, 0), (63, .iload_n 1, 64, 0, 0, 0), (64, .ifCond .ne 12, 67, 76, 0, 0), (67, .aload_n 0, 68, 0, 0, 0), (68, .getfield 51, 71, 11, 16, 1), (71, .iload_n 2, 72, 0, 0, 0), (72, .iaload, 73, 0, 0, 0), (73, .goto 9, 76, 82, 0, 0), (76, .aload_n 0, 77, 0, 0, 0), (77, .getfield 54, 80, 11, 18, 1), (80, .iload_n 2, 81, 0, 0, 0), (81, .iaload, 82, 0, 0, 0), (82, .ireturn, 83, 0, 0, 0)]
def t173 : List ag_I := [(0, .aload_n 0, 1, 0, 0, 0), (1, .iconst 0, 2, 0, 0, 0), (2, .putfield 109, 5, 11, 41, 0), (5, .iload_n 1, 6, 0, 0, 0), (6, .iconst 0, 7, 0, 0, 0), (7, .iconst 1, 8, 0, 0, 0), (8, .invokestatic 179, 11, 114, 3, 1), (11, .ifCond .eq 5, 14, 16, 0, 0), (14, .iconst (-1), 15, 0, 0, 0), (15, .ireturn, 16, 0, 0, 0), (16, .iconst 0, 17, 0, 0, 0), (17, .istore_n 3, 18, 0, 0, 0), (18, .iconst 0, 19, 0, 0, 0), (19, .istore 4, 21, 0, 0, 0), (21, .iload 4, 23, 0, 0, 0), (23, .sipush 200, 26, 0, 0, 0), (26, .if_icmp .ge 33, 29, 59, 0, 0), (29, .aload_n 0, 30, 0, 0, 0), (30, .getfield 45, 33, 11, 14, 1), (33, .sipush 200, 36, 0, 0, 0), (36, .iload_n 1, 37, 0, 0, 0), (37, .imul, 38, 0, 0, 0), (38, .iload 4, 40, 0, 0, 0), (40, .iadd, 41, 0, 0, 0), (41, .iaload, 42, 0, 0, 0), (42, .ifCond .eq 9, 45, 51, 0, 0), (45, .iload_n 3, 46, 0, 0, 0), (46, .iconst 1, 47, 0, 0, 0), (47, .iadd, 48, 0, 0, 0), (48, .goto 4, 51, 52, 0, 0), (51, .iload_n 3, 52, 0, 0, 0), (52, .istore_n 3, 53, 0, 0, 0), (53, .iinc 4 1, 56, 0, 0, 0), (56, .goto (-35), 59, 21, 31, 1), (59, .iload_n 2, 60, 0, 0, 0), (60, .ifCond .ne 12, 63, 72, 0, 0), (63, .aload_n 0, 64, 0, 0, 0), (64, .getfield 48, 67, 11, 15, 1), (67, .iload_n 1, 68, 0, 0, 0), (68, .iaload, 69, 0, 0, 0), (69, .goto 40, 72, 109, 0, 0), (72, .iload_n 2, 73, 0, 0, 0), (73, .iconst 1, 74, 0, 0, 0), (74, .if_icmp .ne 7, 77, 81, 0, 0), (77, .iload_n 3, 78, 0, 0, 0), (78, .goto 31, 81, 109, 0, 0), (81, .iload_n 2, 82, 0, 0, 0), (82, .iconst 2, 83, 0, 0, 0), (83, .if_icmp .ne 11, 86, 94, 0, 0), (86, .aload_n 0, 87, 0, 0, 0), (87, .iload_n 1, 88, 0, 0, 0), (88, .invokevirtual 157, 91, 127, 1, 111), (91, .goto 18, 94, 109, 0, 0), (94, .iload_n 2, 95, 0, 0, 0), (95, .iconst 3, 96, 0, 0, 0), (96, .if_icmp .ne 12, 99, 108, 0, 0), (99, .aload_n 0, 100, 0, 0, 0), (100, .getfield 20, 103, 11, 6, 1), (103, .iload_n 1, 104, 0, 0, 0), (104, .iaload, 105, 0, 0, 0), (105, .goto 4, 108, 109, 0, 0), (108, .iconst (-1), 109, 0, 0, 0), (109, .ireturn, 110, 0, 0, 0)]
def t174 : List ag_I := [(0, .aload_n 0, 1, 0, 0, 0), (1, .iconst 0, 2, 0, 0, 0), (2, .putfield 109, 5, 11, 41, 0), (5, .iload_n 1, 6, 0, 0, 0), (6, .iconst 0, 7, 0, 0, 0), (7, .iconst 3, 8, 0, 0, 0), (8, .invokestatic 179, 11, 114, 3, 1), (11, .ifCond .ne 12, 14, 23, 0, 0), (14, .iload_n 2, 15, 0, 0, 0), (15, .iconst 0, 16, 0, 0, 0), (16, .iconst 3, 17, 0, 0, 0), (17, .invokestatic 179, 20, 114, 3, 1), (20, .ifCond .eq 5, 23, 25, 0, 0), (23, .iconst (-1), 24, 0, 0, 0), (24, .ireturn, 25, 0, 0, 0), (25, .aload_n 0, 26, 0, 0, 0), (26, .getfield 78, 29, 11, 29, 1), (29, .iload_n 1, 30, 0, 0, 0), (30, .baload, 31, 0, 0, 0), (31, .ifCond .ne 5, 34, 36, 0, 0), (34, .iconst 0, 35, 0, 0, 0), (35, .ireturn, 36, 0, 0, 0), (36, .iconst 0, 37, 0, 0, 0), (37, .istore_n 3, 38, 0, 0, 0), (38, .iconst 0, 39, 0, 0, 0), (39, .istore 4, 41, 0, 0, 0), (41, .iload 4, 43, 0, 0, 0), (43, .aload_n 0, 44, 0, 0, 0), (44, .getfield 57, 47, 11, 22, 1), (47, .aload_n 0, 48, 0, 0, 0), (48, .getfield 81, 51, 11, 30, 1), (51, .iload_n 1, 52, 0, 0, 0), (52, .iaload, 53, 0, 0, 0), (53, .iaload, 54, 0, 0, 0), (54, .if_icmp .ge 28, 57, 82, 0, 0), (57, .iload_n 3, 58, 0, 0, 0), (58, .aload_n 0, 59, 0, 0, 0), (59, .getfield 66, 62, 11, 25, 1), (62, .iconst 4, 63, 0, 0, 0), (63, .aload_n 0, 64, 0, 0, 0), (64, .getfield 81, 67, 11, 30, 1), (67, .iload_n 1, 68, 0, 0, 0), (68, .iaload, 69, 0, 0, 0), (69, .imul, 70, 0, 0, 0), (70, .iload 4, 72, 0, 0, 0), (72, .iadd, 73, 0, 0, 0), (73, .iaload, 74, 0, 0, 0), (74, .iadd, 75, 0, 0, 0), (75, .istore_n 3, 76, 0, 0, 0), (76, .iinc 4 1, 79, 0, 0, 0), (79, .goto (-38), 82, 41, 31, 1), (82, .iload_n 2, 83, 0, 0, 0), (83, .ifCond .ne 7, 86, 90, 0, 0), (86, .iconst 1, 87, 0, 0, 0), (87, .goto 36, 90, 123, 0, 0), (90, .iload_n 2, 91, 0, 0, 0), (91, .iconst 1, 92, 0, 0, 0), (92, .if_icmp .ne 11, 95, 103, 0, 0), (95, .aload_n 0, 96, 0, 0, 0), (96, .iload_n 1, 97, 0, 0, 0), (97, .invokevirtual 253, 100, 146, 1, 111), (100, .goto 23, 103, 123, 0, 0), (103, .iload_n 2, 104, 0, 0, 0), (104, .iconst 2, 105, 0, 0, 0), (105, .if_icmp .ne 17, 108, 122, 0, 0), (108, .aload_n 0, 109, 0, 0, 0), (109, .getfield 57, 112, 11, 22, 1), (112, .aload_n 0, 113, 0, 0, 0), (113, .getfield 81, 116, 11, 30, 1), (116, .iload_n 1, 117, 0, 0, 0), (117, .iaload, 118, 0, 0, 0), (118, .iaload, 119, 0, 0, 0), (119, .goto 4, 122, 123, 0, 0), (122, .iload_n 3, 123, 0, 0, 0), (123, .ireturn, 124, 0, 0, 0)]
def t175 : List ag_I := [(0, .iload_n 0, 1, 0, 0, 0), (1, .iload_n 1, 2, 0, 0, 0), (2, .if_icmp .lt 7, 5, 9, 0, 0), (5, .iload_n 0, 6, 0, 0, 0), (6, .goto 4, 9, 10, 0, 0), (9, .iload_n 1, 10, 0, 0, 0), (10, .ireturn, 11, 0, 0, 0)]
def t176 : List ag_I := [(0, .iload_n 0, 1, 0, 0, 0), (1, .iload_n 1, 2, 0, 0, 0), (2, .if_icmp .gt 7, 5, 9, 0, 0), (5, .iload_n 0, 6, 0, 0, 0), (6, .goto 4, 9, 10, 0, 0), (9, .iload_n 1, 10, 0, 0, 0), (10, .ireturn, 11, 0, 0, 0)]
def gT : ag_T := fun y => match y with
  | 0 => (1, 0, t0)
  | 1 => (6, 0, t1)
  | 2 => (3, 0, t2)
  | 3 => (2, 1, t3)
  | 4 => (2, 1, t4)
  | 5 => (2, 4, t5)
  | 6 => (2, 1, t6)
  | 7 => (1, 0, t7)
  | 8 => (2, 0, t8)
  | 9 => (4, 0, t9)
  | 10 => (2, 1, t10)
  | 11 => (2, 1, t11)
  | 12 => (4, 1, t12)
  | 13 => (2, 0, t13)
  | 14 => (4, 1, t14)
  | 15 => (2, 2, t15)
  | 16 => (5, 2, t16)
  | 17 => (4, 0, t17)
  | 18 => (3, 1, t18)
  | 19 => (1, 0, t19)
  | 20 => (2, 0, t20)
  | 21 => (1, 1, t21)
  | 22 => (1, 1, t22)
  | 23 => (1, 4, t23)
  | 24 => (1, 0, t24)
  | 25 => (5, 0, t25)
  | 26 => (2, 0, t26)
  | 27 => (2, 3, t27)
  | 28 => (1, 0, t28)
  | 29 => (2, 0, t29)
  | 30 => (2, 0, t30)
  | 31 => (1, 0, t31)
  | 32 => (2, 1, t32)
  | 33 => (3, 1, t33)
  | 34 => (1, 0, t34)
  | 35 => (2, 1, t35)
  | 36 => (3, 1, t36)
  | 37 => (2, 0, t37)
  | 38 => (3, 1, t38)
  | 39 => (6, 3, t39)
  | 40 => (4, 3, t40)
  | 41 => (6, 3, t41)
  | 42 => (5, 3, t42)
  | 43 => (5, 3, t43)
  | 44 => (2, 0, t44)
  | 45 => (3, 3, t45)
  | 46 => (3, 3, t46)
  | 47 => (3, 0, t47)
  | 48 => (2, 3, t48)
  | 49 => (3, 3, t49)
  | 50 => (2, 3, t50)
  | 51 => (2, 2, t51)
  | 52 => (3, 0, t52)
  | 53 => (4, 2, t53)
  | 54 => (5, 1, t54)
  | 55 => (4, 0, t55)
  | 56 => (1, 0, t56)
  | 57 => (2, 4, t57)
  | 58 => (2, 3, t58)
  | 59 => (2, 0, t59)
  | 60 => (5, 0, t60)
  | 61 => (2, 1, t61)
  | 62 => (2, 0, t62)
  | 63 => (2, 1, t63)
  | 64 => (1, 1, t64)
  | 65 => (7, 1, t65)
  | 66 => (6, 1, t66)
  | 67 => (9, 1, t67)
  | 68 => (7, 1, t68)
  | 69 => (4, 1, t69)
  | 70 => (4, 1, t70)
  | 71 => (6, 1, t71)
  | 72 => (5, 1, t72)
  | 73 => (7, 1, t73)
  | 74 => (5, 1, t74)
  | 75 => (6, 1, t75)
  | 76 => (4, 1, t76)
  | 77 => (4, 1, t77)
  | 78 => (4, 1, t78)
  | 79 => (5, 1, t79)
  | 80 => (1, 4, t80)
  | 81 => (1, 4, t81)
  | 82 => (2, 4, t82)
  | 83 => (2, 2, t83)
  | 84 => (2, 2, t84)
  | 85 => (4, 2, t85)
  | 86 => (2, 2, t86)
  | 87 => (3, 2, t87)
  | 88 => (1, 0, t88)
  | 89 => (1, 0, t89)
  | 90 => (1, 0, t90)
  | 91 => (5, 0, t91)
  | 92 => (8, 3, t92)
  | 93 => (3, 2, t93)
  | 94 => (8, 3, t94)
  | 95 => (3, 0, t95)
  | 96 => (3, 0, t96)
  | 97 => (1, 1, t97)
  | 98 => (4, 0, t98)
  | 99 => (5, 0, t99)
  | 100 => (10, 3, t100)
  | 101 => (9, 0, t101)
  | 102 => (2, 0, t102)
  | 103 => (10, 1, t103)
  | 104 => (1, 0, t104)
  | 105 => (4, 2, t105)
  | 106 => (3, 2, t106)
  | 107 => (2, 1, t107)
  | 108 => (3, 1, t108)
  | 109 => (2, 2, t109)
  | 110 => (5, 0, t110)
  | 111 => (4, 0, t111)
  | 112 => (2, 0, t112)
  | 113 => (1, 1, t113)
  | 114 => (3, 4, t114)
  | 115 => (4, 0, t115)
  | 116 => (4, 0, t116)
  | 117 => (4, 0, t117)
  | 118 => (2, 0, t118)
  | 119 => (2, 0, t119)
  | 120 => (2, 0, t120)
  | 121 => (3, 1, t121)
  | 122 => (3, 1, t122)
  | 123 => (3, 0, t123)
  | 124 => (5, 1, t124)
  | 125 => (6, 0, t125)
  | 126 => (5, 0, t126)
  | 127 => (4, 1, t127)
  | 128 => (7, 0, t128)
  | 129 => (6, 1, t129)
  | 130 => (5, 0, t130)
  | 131 => (6, 0, t131)
  | 132 => (3, 0, t132)
  | 133 => (4, 0, t133)
  | 134 => (4, 0, t134)
  | 135 => (2, 1, t135)
  | 136 => (2, 1, t136)
  | 137 => (4, 1, t137)
  | 138 => (6, 4, t138)
  | 139 => (1, 0, t139)
  | 140 => (6, 1, t140)
  | 141 => (10, 1, t141)
  | 142 => (1, 4, t142)
  | 143 => (1, 0, t143)
  | 144 => (2, 4, t144)
  | 145 => (3, 4, t145)
  | 146 => (4, 1, t146)
  | 147 => (3, 1, t147)
  | 148 => (4, 0, t148)
  | 149 => (5, 1, t149)
  | 150 => (13, 1, t150)
  | 151 => (6, 1, t151)
  | 152 => (10, 1, t152)
  | 153 => (6, 1, t153)
  | 154 => (4, 1, t154)
  | 155 => (5, 1, t155)
  | 156 => (3, 0, t156)
  | 157 => (3, 1, t157)
  | 158 => (5, 1, t158)
  | 159 => (5, 1, t159)
  | 160 => (1, 4, t160)
  | 161 => (7, 0, t161)
  | 162 => (3, 0, t162)
  | 163 => (9, 1, t163)
  | 164 => (8, 1, t164)
  | 165 => (7, 1, t165)
  | 166 => (6, 0, t166)
  | 167 => (5, 1, t167)
  | 168 => (4, 1, t168)
  | 169 => (3, 1, t169)
  | 170 => (10, 1, t170)
  | 171 => (3, 1, t171)
  | 172 => (4, 1, t172)
  | 173 => (5, 1, t173)
  | 174 => (5, 1, t174)
  | 175 => (2, 1, t175)
  | 176 => (2, 1, t176)
  | _ => (0, 0, [])
end
section
/-- NameSpaces$Handles.<init>()V -/
def f0 (call : Nat → List ag_V → ag_H → ag_R)  (l0 : Option Nat) (h : ag_H) : ag_R :=
  ag_nn l0 <|
  ag_na h (ag_lit 3) 100 (.inl 0) fun o1 h2 =>
  ag_pF h2 l0 0 0 (.inr o1) fun h3 =>
  ag_na h3 (ag_lit 3) 100 (.inl 0) fun o4 h5 =>
  ag_pF h5 l0 0 1 (.inr o4) fun h6 =>
  ag_na h6 (ag_lit 3) 102 (.inl 0) fun o7 h8 =>
  ag_pF h8 l0 0 2 (.inr o7) fun h9 =>
  some (.inl none, h9)
set_option maxRecDepth 100000 in
set_option maxHeartbeats 4000000 in
theorem i0 (call : Nat → List ag_V → ag_H → ag_R) (B : ag_K4) (l0 : Option Nat) (h : ag_H) : ag_in 0 call B t0 0 [some (.inr l0)] [] h = f0 call  l0 h := by
  rfl
set_option maxRecDepth 100000 in
set_option maxHeartbeats 4000000 in
theorem r0 (d : Nat) (l0 : Option Nat) (h : ag_H) : ag_run gT (d + 1) 0 [.inr l0] h = f0 (ag_run gT d)  l0 h := by
  show ag_out 0 (ag_run gT d) t0 4000 0 [some (.inr l0)] [] h = _
  rw [ag_out_top, i0]
def f1_27 (call : Nat → List ag_V → ag_H → ag_R) (b27 : Option Nat → Int32 → Int32 → Int32 → Int32 → Int32 → ag_H → ag_R) (l0 : Option Nat) (l1 : Int32) (l2 : Int32) (l3 : Int32) (l4 : Int32) (l5 : Int32) (h : ag_H) : ag_R :=
  if l5 ≤ l1 then
    ag_gR h l0 0 0 fun x1 =>
    ag_xP h x1 100 l1 (.inl l2) fun h2 =>
    ag_gR h2 l0 0 1 fun x3 =>
    ag_xP h2 x3 100 l1 (.inl l3) fun h4 =>
    ag_gR h4 l0 0 2 fun x5 =>
    ag_isB l4 <| ag_xP h4 x5 102 l1 (.inl l4) fun h6 =>
    ag_gI h6 l0 0 3 fun x7 =>
    ag_pF h6 l0 0 3 (.inl (x7 + (ag_lit 1))) fun h8 =>
    some (.inl none, h8)
  else
    ag_gR h l0 0 0 fun x9 =>
    ag_gR h l0 0 0 fun x10 =>
    ag_xI h x10 100 (l5 - (ag_lit 1)) fun x11 =>
    ag_xP h x9 100 l5 (.inl x11) fun h12 =>
    ag_gR h12 l0 0 1 fun x13 =>
    ag_gR h12 l0 0 1 fun x14 =>
    ag_xI h12 x14 100 (l5 - (ag_lit 1)) fun x15 =>
    ag_xP h12 x13 100 l5 (.inl x15) fun h16 =>
    ag_gR h16 l0 0 2 fun x17 =>
    ag_gR h16 l0 0 2 fun x18 =>
    ag_xI h16 x18 102 (l5 - (ag_lit 1)) fun x19 =>
    ag_isB x19 <| ag_xP h16 x17 102 l5 (.inl x19) fun h20 =>
    b27 l0 l1 l2 l3 l4 (l5 + ag_lit (-1)) h20
def f1_20 (call : Nat → List ag_V → ag_H → ag_R) (b27 : Option Nat → Int32 → Int32 → Int32 → Int32 → Int32 → ag_H → ag_R)  (h : ag_H) : ag_R :=
  some (.inl none, h)
/-- NameSpaces$Handles.insert(IIIZ)V -/
def f1 (call : Nat → List ag_V → ag_H → ag_R) (b27 : Option Nat → Int32 → Int32 → Int32 → Int32 → Int32 → ag_H → ag_R) (l0 : Option Nat) (l1 : Int32) (l2 : Int32) (l3 : Int32) (l4 : Int32) (h : ag_H) : ag_R :=
  if l1 < (ag_lit 0) then
    f1_20 call b27 h
  else
    ag_gI h l0 0 3 fun x1 =>
    if x1 < l1 then
      f1_20 call b27 h
    else
      ag_gI h l0 0 3 fun x2 =>
      if x2 < (ag_lit 3) then
        ag_gI h l0 0 3 fun x3 =>
        f1_27 call b27 l0 l1 l2 l3 l4 x3 h
      else
        f1_20 call b27 h
def g1 (call : Nat → List ag_V → ag_H → ag_R) : Nat → Option Nat → Int32 → Int32 → Int32 → Int32 → Int32 → ag_H → ag_R
  | 0 => fun _ _ _ _ _ _ _ => none
  | n + 1 => f1_27 call (g1 call n)
set_option maxRecDepth 100000 in
set_option maxHeartbeats 4000000 in
theorem i1_27 (call : Nat → List ag_V → ag_H → ag_R) (B : ag_K4) (l0 : Option Nat) (l1 : Int32) (l2 : Int32) (l3 : Int32) (l4 : Int32) (l5 : Int32) (h : ag_H) : ag_in 0 call B t1 27 [some (.inr l0), some (.inl l1), some (.inl l2), some (.inl l3), some (.inl l4), some (.inl l5)] [] h = f1_27 call (fun (l0 : Option Nat) (l1 : Int32) (l2 : Int32) (l3 : Int32) (l4 : Int32) (l5 : Int32) (h : ag_H) => B 27 [some (.inr l0), some (.inl l1), some (.inl l2), some (.inl l3), some (.inl l4), some (.inl l5)] [] h) l0 l1 l2 l3 l4 l5 h := by
  rfl
set_option maxRecDepth 100000 in
set_option maxHeartbeats 4000000 in
theorem i1 (call : Nat → List ag_V → ag_H → ag_R) (B : ag_K4) (l0 : Option Nat) (l1 : Int32) (l2 : Int32) (l3 : Int32) (l4 : Int32) (h : ag_H) : ag_in 0 call B t1 0 [some (.inr l0), some (.inl l1), some (.inl l2), some (.inl l3), some (.inl l4), none] [] h = f1 call (fun (l0 : Option Nat) (l1 : Int32) (l2 : Int32) (l3 : Int32) (l4 : Int32) (l5 : Int32) (h : ag_H) => B 27 [some (.inr l0), some (.inl l1), some (.inl l2), some (.inl l3), some (.inl l4), some (.inl l5)] [] h) l0 l1 l2 l3 l4 h := by
  rfl
set_option maxRecDepth 100000 in
set_option maxHeartbeats 4000000 in
theorem o1 (call : Nat → List ag_V → ag_H → ag_R) : ∀ n : Nat, (fun (l0 : Option Nat) (l1 : Int32) (l2 : Int32) (l3 : Int32) (l4 : Int32) (l5 : Int32) (h : ag_H) => (ag_out 0 call t1 n) 27 [some (.inr l0), some (.inl l1), some (.inl l2), some (.inl l3), some (.inl l4), some (.inl l5)] [] h) = g1 call n := by
  intro n
  induction n with
  | zero => rfl
  | succ n ih =>
    funext l0 l1 l2 l3 l4 l5 h
    show ag_in 0 call (ag_out 0 call t1 n) t1 27 [some (.inr l0), some (.inl l1), some (.inl l2), some (.inl l3), some (.inl l4), some (.inl l5)] [] h = f1_27 call (g1 call n) l0 l1 l2 l3 l4 l5 h
    rw [i1_27, ih]
set_option maxRecDepth 100000 in
set_option maxHeartbeats 4000000 in
theorem r1 (d : Nat) (l0 : Option Nat) (l1 : Int32) (l2 : Int32) (l3 : Int32) (l4 : Int32) (h : ag_H) : ag_run gT (d + 1) 1 [.inr l0, .inl l1, .inl l2, .inl l3, .inl l4] h = f1 (ag_run gT d) (g1 (ag_run gT d) 3999) l0 l1 l2 l3 l4 h := by
  show ag_out 0 (ag_run gT d) t1 4000 0 [some (.inr l0), some (.inl l1), some (.inl l2), some (.inl l3), some (.inl l4), none] [] h = _
  rw [ag_out_top, i1, o1]
def f2_15 (call : Nat → List ag_V → ag_H → ag_R) (b15 : Option Nat → Int32 → ag_H → ag_R) (l0 : Option Nat) (l2 : Int32) (h : ag_H) : ag_R :=
  ag_gI h l0 0 3 fun x1 =>
  if x1 ≤ (l2 + (ag_lit 1)) then
    ag_gI h l0 0 3 fun x2 =>
    ag_pF h l0 0 3 (.inl (x2 - (ag_lit 1))) fun h3 =>
    some (.inl none, h3)
  else
    ag_gR h l0 0 0 fun x4 =>
    ag_gR h l0 0 0 fun x5 =>
    ag_xI h x5 100 (l2 + (ag_lit 1)) fun x6 =>
    ag_xP h x4 100 l2 (.inl x6) fun h7 =>
    ag_gR h7 l0 0 1 fun x8 =>
    ag_gR h7 l0 0 1 fun x9 =>
    ag_xI h7 x9 100 (l2 + (ag_lit 1)) fun x10 =>
    ag_xP h7 x8 100 l2 (.inl x10) fun h11 =>
    ag_gR h11 l0 0 2 fun x12 =>
    ag_gR h11 l0 0 2 fun x13 =>
    ag_xI h11 x13 102 (l2 + (ag_lit 1)) fun x14 =>
    ag_isB x14 <| ag_xP h11 x12 102 l2 (.inl x14) fun h15 =>
    b15 l0 (l2 + ag_lit 1) h15
def f2_12 (call : Nat → List ag_V → ag_H → ag_R) (b15 : Option Nat → Int32 → ag_H → ag_R)  (h : ag_H) : ag_R :=
  some (.inl none, h)
/-- NameSpaces$Handles.delete(I)V -/
def f2 (call : Nat → List ag_V → ag_H → ag_R) (b15 : Option Nat → Int32 → ag_H → ag_R) (l0 : Option Nat) (l1 : Int32) (h : ag_H) : ag_R :=
  if l1 < (ag_lit 0) then
    f2_12 call b15 h
  else
    ag_gI h l0 0 3 fun x1 =>
    if l1 < x1 then
      f2_15 call b15 l0 l1 h
    else
      f2_12 call b15 h
def g2 (call : Nat → List ag_V → ag_H → ag_R) : Nat → Option Nat → Int32 → ag_H → ag_R
  | 0 => fun _ _ _ => none
  | n + 1 => f2_15 call (g2 call n)
set_option maxRecDepth 100000 in
set_option maxHeartbeats 4000000 in
theorem i2_15 (call : Nat → List ag_V → ag_H → ag_R) (B : ag_K4) (l0 : Option Nat) (l2 : Int32) (h : ag_H) : ag_in 0 call B t2 15 [some (.inr l0), none, some (.inl l2)] [] h = f2_15 call (fun (l0 : Option Nat) (l2 : Int32) (h : ag_H) => B 15 [some (.inr l0), none, some (.inl l2)] [] h) l0 l2 h := by
  rfl
set_option maxRecDepth 100000 in
set_option maxHeartbeats 4000000 in
theorem i2 (call : Nat → List ag_V → ag_H → ag_R) (B : ag_K4) (l0 : Option Nat) (l1 : Int32) (h : ag_H) : ag_in 0 call B t2 0 [some (.inr l0), some (.inl l1), none] [] h = f2 call (fun (l0 : Option Nat) (l2 : Int32) (h : ag_H) => B 15 [some (.inr l0), none, some (.inl l2)] [] h) l0 l1 h := by
  rfl
set_option maxRecDepth 100000 in
set_option maxHeartbeats 4000000 in
theorem o2 (call : Nat → List ag_V → ag_H → ag_R) : ∀ n : Nat, (fun (l0 : Option Nat) (l2 : Int32) (h : ag_H) => (ag_out 0 call t2 n) 15 [some (.inr l0), none, some (.inl l2)] [] h) = g2 call n := by
  intro n
  induction n with
  | zero => rfl
  | succ n ih =>
    funext l0 l2 h
    show ag_in 0 call (ag_out 0 call t2 n) t2 15 [some (.inr l0), none, some (.inl l2)] [] h = f2_15 call (g2 call n) l0 l2 h
    rw [i2_15, ih]
set_option maxRecDepth 100000 in
set_option maxHeartbeats 4000000 in
theorem r2 (d : Nat) (l0 : Option Nat) (l1 : Int32) (h : ag_H) : ag_run gT (d + 1) 2 [.inr l0, .inl l1] h = f2 (ag_run gT d) (g2 (ag_run gT d) 3999) l0 l1 h := by
  show ag_out 0 (ag_run gT d) t2 4000 0 [some (.inr l0), some (.inl l1), none] [] h = _
  rw [ag_out_top, i2, o2]
def f3_22 (call : Nat → List ag_V → ag_H → ag_R)  (s0 : Int32) (h : ag_H) : ag_R :=
  some (.inl (some (.inl s0)), h)
def f3_21 (call : Nat → List ag_V → ag_H → ag_R)   (h : ag_H) : ag_R :=
  f3_22 call (ag_lit (-1)) h
/-- NameSpaces$Handles.serverAt(I)I -/
def f3 (call : Nat → List ag_V → ag_H → ag_R)  (l0 : Option Nat) (l1 : Int32) (h : ag_H) : ag_R :=
  if l1 < (ag_lit 0) then
    f3_21 call h
  else
    ag_gI h l0 0 3 fun x1 =>
    if x1 ≤ l1 then
      f3_21 call h
    else
      ag_gR h l0 0 0 fun x2 =>
      ag_xI h x2 100 l1 fun x3 =>
      f3_22 call x3 h
set_option maxRecDepth 100000 in
set_option maxHeartbeats 4000000 in
theorem i3 (call : Nat → List ag_V → ag_H → ag_R) (B : ag_K4) (l0 : Option Nat) (l1 : Int32) (h : ag_H) : ag_in 1 call B t3 0 [some (.inr l0), some (.inl l1)] [] h = f3 call  l0 l1 h := by
  rfl
set_option maxRecDepth 100000 in
set_option maxHeartbeats 4000000 in
theorem r3 (d : Nat) (l0 : Option Nat) (l1 : Int32) (h : ag_H) : ag_run gT (d + 1) 3 [.inr l0, .inl l1] h = f3 (ag_run gT d)  l0 l1 h := by
  show ag_out 1 (ag_run gT d) t3 4000 0 [some (.inr l0), some (.inl l1)] [] h = _
  rw [ag_out_top, i3]
def f4_22 (call : Nat → List ag_V → ag_H → ag_R)  (s0 : Int32) (h : ag_H) : ag_R :=
  some (.inl (some (.inl s0)), h)
def f4_21 (call : Nat → List ag_V → ag_H → ag_R)   (h : ag_H) : ag_R :=
  f4_22 call (ag_lit (-1)) h
/-- NameSpaces$Handles.handleAt(I)I -/
def f4 (call : Nat → List ag_V → ag_H → ag_R)  (l0 : Option Nat) (l1 : Int32) (h : ag_H) : ag_R :=
  if l1 < (ag_lit 0) then
    f4_21 call h
  else
    ag_gI h l0 0 3 fun x1 =>
    if x1 ≤ l1 then
      f4_21 call h
    else
      ag_gR h l0 0 1 fun x2 =>
      ag_xI h x2 100 l1 fun x3 =>
      f4_22 call x3 h
set_option maxRecDepth 100000 in
set_option maxHeartbeats 4000000 in
theorem i4 (call : Nat → List ag_V → ag_H → ag_R) (B : ag_K4) (l0 : Option Nat) (l1 : Int32) (h : ag_H) : ag_in 1 call B t4 0 [some (.inr l0), some (.inl l1)] [] h = f4 call  l0 l1 h := by
  rfl
set_option maxRecDepth 100000 in
set_option maxHeartbeats 4000000 in
theorem r4 (d : Nat) (l0 : Option Nat) (l1 : Int32) (h : ag_H) : ag_run gT (d + 1) 4 [.inr l0, .inl l1] h = f4 (ag_run gT d)  l0 l1 h := by
  show ag_out 1 (ag_run gT d) t4 4000 0 [some (.inr l0), some (.inl l1)] [] h = _
  rw [ag_out_top, i4]
def f5_26 (call : Nat → List ag_V → ag_H → ag_R)  (s0 : Int32) (h : ag_H) : ag_R :=
  ag_isB s0 (some (.inl (some (.inl s0)), h))
def f5_25 (call : Nat → List ag_V → ag_H → ag_R)   (h : ag_H) : ag_R :=
  f5_26 call (ag_lit 0) h
/-- NameSpaces$Handles.mayMake(I)Z -/
def f5 (call : Nat → List ag_V → ag_H → ag_R)  (l0 : Option Nat) (l1 : Int32) (h : ag_H) : ag_R :=
  if l1 < (ag_lit 0) then
    f5_25 call h
  else
    ag_gI h l0 0 3 fun x1 =>
    if x1 ≤ l1 then
      f5_25 call h
    else
      ag_gR h l0 0 2 fun x2 =>
      ag_xI h x2 102 l1 fun x3 =>
      if x3 = (ag_lit 0) then
        f5_25 call h
      else
        f5_26 call (ag_lit 1) h
set_option maxRecDepth 100000 in
set_option maxHeartbeats 4000000 in
theorem i5 (call : Nat → List ag_V → ag_H → ag_R) (B : ag_K4) (l0 : Option Nat) (l1 : Int32) (h : ag_H) : ag_in 4 call B t5 0 [some (.inr l0), some (.inl l1)] [] h = f5 call  l0 l1 h := by
  rfl
set_option maxRecDepth 100000 in
set_option maxHeartbeats 4000000 in
theorem r5 (d : Nat) (l0 : Option Nat) (l1 : Int32) (h : ag_H) : ag_run gT (d + 1) 5 [.inr l0, .inl l1] h = f5 (ag_run gT d)  l0 l1 h := by
  show ag_out 4 (ag_run gT d) t5 4000 0 [some (.inr l0), some (.inl l1)] [] h = _
  rw [ag_out_top, i5]
def f6_2 (call : Nat → List ag_V → ag_H → ag_R) (b2 : Option Nat → Int32 → ag_H → ag_R) (l0 : Option Nat) (l1 : Int32) (h : ag_H) : ag_R :=
  ag_gI h l0 0 3 fun x1 =>
  if x1 ≤ l1 then
    some (.inl (some (.inl (ag_lit (-1)))), h)
  else
    ag_gR h l0 0 2 fun x2 =>
    ag_xI h x2 102 l1 fun x3 =>
    if x3 = (ag_lit 0) then
      b2 l0 (l1 + ag_lit 1) h
    else
      some (.inl (some (.inl l1)), h)
/-- NameSpaces$Handles.firstMaker()I -/
def f6 (call : Nat → List ag_V → ag_H → ag_R) (b2 : Option Nat → Int32 → ag_H → ag_R) (l0 : Option Nat) (h : ag_H) : ag_R :=
  f6_2 call b2 l0 (ag_lit 0) h
def g6 (call : Nat → List ag_V → ag_H → ag_R) : Nat → Option Nat → Int32 → ag_H → ag_R
  | 0 => fun _ _ _ => none
  | n + 1 => f6_2 call (g6 call n)
set_option maxRecDepth 100000 in
set_option maxHeartbeats 4000000 in
theorem i6_2 (call : Nat → List ag_V → ag_H → ag_R) (B : ag_K4) (l0 : Option Nat) (l1 : Int32) (h : ag_H) : ag_in 1 call B t6 2 [some (.inr l0), some (.inl l1)] [] h = f6_2 call (fun (l0 : Option Nat) (l1 : Int32) (h : ag_H) => B 2 [some (.inr l0), some (.inl l1)] [] h) l0 l1 h := by
  rfl
set_option maxRecDepth 100000 in
set_option maxHeartbeats 4000000 in
theorem i6 (call : Nat → List ag_V → ag_H → ag_R) (B : ag_K4) (l0 : Option Nat) (h : ag_H) : ag_in 1 call B t6 0 [some (.inr l0), none] [] h = f6 call (fun (l0 : Option Nat) (l1 : Int32) (h : ag_H) => B 2 [some (.inr l0), some (.inl l1)] [] h) l0 h := by
  rfl
set_option maxRecDepth 100000 in
set_option maxHeartbeats 4000000 in
theorem o6 (call : Nat → List ag_V → ag_H → ag_R) : ∀ n : Nat, (fun (l0 : Option Nat) (l1 : Int32) (h : ag_H) => (ag_out 1 call t6 n) 2 [some (.inr l0), some (.inl l1)] [] h) = g6 call n := by
  intro n
  induction n with
  | zero => rfl
  | succ n ih =>
    funext l0 l1 h
    show ag_in 1 call (ag_out 1 call t6 n) t6 2 [some (.inr l0), some (.inl l1)] [] h = f6_2 call (g6 call n) l0 l1 h
    rw [i6_2, ih]
set_option maxRecDepth 100000 in
set_option maxHeartbeats 4000000 in
theorem r6 (d : Nat) (l0 : Option Nat) (h : ag_H) : ag_run gT (d + 1) 6 [.inr l0] h = f6 (ag_run gT d) (g6 (ag_run gT d) 3999) l0 h := by
  show ag_out 1 (ag_run gT d) t6 4000 0 [some (.inr l0), none] [] h = _
  rw [ag_out_top, i6, o6]
/-- NameSpaces$Message.<init>()V -/
def f7 (call : Nat → List ag_V → ag_H → ag_R)  (l0 : Option Nat) (h : ag_H) : ag_R :=
  ag_nn l0 <|
  ag_na h (ag_lit8 20) 100 (.inl 0) fun o1 h2 =>
  ag_pF h2 l0 1 0 (.inr o1) fun h3 =>
  some (.inl none, h3)
set_option maxRecDepth 100000 in
set_option maxHeartbeats 4000000 in
theorem i7 (call : Nat → List ag_V → ag_H → ag_R) (B : ag_K4) (l0 : Option Nat) (h : ag_H) : ag_in 0 call B t7 0 [some (.inr l0)] [] h = f7 call  l0 h := by
  rfl
set_option maxRecDepth 100000 in
set_option maxHeartbeats 4000000 in
theorem r7 (d : Nat) (l0 : Option Nat) (h : ag_H) : ag_run gT (d + 1) 7 [.inr l0] h = f7 (ag_run gT d)  l0 h := by
  show ag_out 0 (ag_run gT d) t7 4000 0 [some (.inr l0)] [] h = _
  rw [ag_out_top, i7]
/-- NameSpaces$Message.begin(I)V -/
def f8 (call : Nat → List ag_V → ag_H → ag_R)  (l0 : Option Nat) (l1 : Int32) (h : ag_H) : ag_R :=
  ag_gI h l0 1 2 fun x1 =>
  ag_pF h l0 1 2 (.inl (x1 + (ag_lit 1))) fun h2 =>
  ag_pF h2 l0 1 1 (.inl (ag_lit8 7)) fun h3 =>
  ag_gR h3 l0 1 0 fun x4 =>
  ag_xP h3 x4 100 (ag_lit 0) (.inl (ag_lit8 7)) fun h5 =>
  ag_gR h5 l0 1 0 fun x6 =>
  ag_xP h5 x6 100 (ag_lit 4) (.inl l1) fun h7 =>
  ag_gR h7 l0 1 0 fun x8 =>
  ag_xP h7 x8 100 (ag_lit 5) (.inl (ag_lit 1)) fun h9 =>
  some (.inl none, h9)
set_option maxRecDepth 100000 in
set_option maxHeartbeats 4000000 in
theorem i8 (call : Nat → List ag_V → ag_H → ag_R) (B : ag_K4) (l0 : Option Nat) (l1 : Int32) (h : ag_H) : ag_in 0 call B t8 0 [some (.inr l0), some (.inl l1)] [] h = f8 call  l0 l1 h := by
  rfl
set_option maxRecDepth 100000 in
set_option maxHeartbeats 4000000 in
theorem r8 (d : Nat) (l0 : Option Nat) (l1 : Int32) (h : ag_H) : ag_run gT (d + 1) 8 [.inr l0, .inl l1] h = f8 (ag_run gT d)  l0 l1 h := by
  show ag_out 0 (ag_run gT d) t8 4000 0 [some (.inr l0), some (.inl l1)] [] h = _
  rw [ag_out_top, i8]
def f9_51 (call : Nat → List ag_V → ag_H → ag_R) (b2 : Option Nat → Int32 → Int32 → Int32 → ag_H → ag_R) (l0 : Option Nat) (h : ag_H) : ag_R :=
  ag_gR h l0 1 0 fun x1 =>
  ag_gI h l0 1 1 fun x2 =>
  ag_xP h x1 100 (ag_lit 0) (.inl x2) fun h3 =>
  some (.inl none, h3)
def f9_2 (call : Nat → List ag_V → ag_H → ag_R) (b2 : Option Nat → Int32 → Int32 → Int32 → ag_H → ag_R) (l0 : Option Nat) (l1 : Int32) (l2 : Int32) (l3 : Int32) (h : ag_H) : ag_R :=
  if l2 ≤ l3 then
    f9_51 call b2 l0 h
  else
    ag_gI h l0 1 1 fun x1 =>
    if (ag_lit8 20) ≤ x1 then
      f9_51 call b2 l0 h
    else
      ag_gR h l0 1 0 fun x2 =>
      ag_gI h l0 1 1 fun x3 =>
      ag_xP h x2 100 x3 (.inl (((l1.toUInt32 >>> (((ag_lit8 8) * l3).toUInt32 &&& Int32.toUInt32 31)).toInt32) &&& (ag_lit16 255))) fun h4 =>
      ag_gI h4 l0 1 1 fun x5 =>
      ag_pF h4 l0 1 1 (.inl (x5 + (ag_lit 1))) fun h6 =>
      b2 l0 l1 l2 (l3 + ag_lit 1) h6
/-- NameSpaces$Message.put(II)V -/
def f9 (call : Nat → List ag_V → ag_H → ag_R) (b2 : Option Nat → Int32 → Int32 → Int32 → ag_H → ag_R) (l0 : Option Nat) (l1 : Int32) (l2 : Int32) (h : ag_H) : ag_R :=
  f9_2 call b2 l0 l1 l2 (ag_lit 0) h
def g9 (call : Nat → List ag_V → ag_H → ag_R) : Nat → Option Nat → Int32 → Int32 → Int32 → ag_H → ag_R
  | 0 => fun _ _ _ _ _ => none
  | n + 1 => f9_2 call (g9 call n)
set_option maxRecDepth 100000 in
set_option maxHeartbeats 4000000 in
theorem i9_2 (call : Nat → List ag_V → ag_H → ag_R) (B : ag_K4) (l0 : Option Nat) (l1 : Int32) (l2 : Int32) (l3 : Int32) (h : ag_H) : ag_in 0 call B t9 2 [some (.inr l0), some (.inl l1), some (.inl l2), some (.inl l3)] [] h = f9_2 call (fun (l0 : Option Nat) (l1 : Int32) (l2 : Int32) (l3 : Int32) (h : ag_H) => B 2 [some (.inr l0), some (.inl l1), some (.inl l2), some (.inl l3)] [] h) l0 l1 l2 l3 h := by
  rfl
set_option maxRecDepth 100000 in
set_option maxHeartbeats 4000000 in
theorem i9 (call : Nat → List ag_V → ag_H → ag_R) (B : ag_K4) (l0 : Option Nat) (l1 : Int32) (l2 : Int32) (h : ag_H) : ag_in 0 call B t9 0 [some (.inr l0), some (.inl l1), some (.inl l2), none] [] h = f9 call (fun (l0 : Option Nat) (l1 : Int32) (l2 : Int32) (l3 : Int32) (h : ag_H) => B 2 [some (.inr l0), some (.inl l1), some (.inl l2), some (.inl l3)] [] h) l0 l1 l2 h := by
  rfl
set_option maxRecDepth 100000 in
set_option maxHeartbeats 4000000 in
theorem o9 (call : Nat → List ag_V → ag_H → ag_R) : ∀ n : Nat, (fun (l0 : Option Nat) (l1 : Int32) (l2 : Int32) (l3 : Int32) (h : ag_H) => (ag_out 0 call t9 n) 2 [some (.inr l0), some (.inl l1), some (.inl l2), some (.inl l3)] [] h) = g9 call n := by
  intro n
  induction n with
  | zero => rfl
  | succ n ih =>
    funext l0 l1 l2 l3 h
    show ag_in 0 call (ag_out 0 call t9 n) t9 2 [some (.inr l0), some (.inl l1), some (.inl l2), some (.inl l3)] [] h = f9_2 call (g9 call n) l0 l1 l2 l3 h
    rw [i9_2, ih]
set_option maxRecDepth 100000 in
set_option maxHeartbeats 4000000 in
theorem r9 (d : Nat) (l0 : Option Nat) (l1 : Int32) (l2 : Int32) (h : ag_H) : ag_run gT (d + 1) 9 [.inr l0, .inl l1, .inl l2] h = f9 (ag_run gT d) (g9 (ag_run gT d) 3999) l0 l1 l2 h := by
  show ag_out 0 (ag_run gT d) t9 4000 0 [some (.inr l0), some (.inl l1), some (.inl l2), none] [] h = _
  rw [ag_out_top, i9, o9]
def f10_28 (call : Nat → List ag_V → ag_H → ag_R)  (s0 : Int32) (h : ag_H) : ag_R :=
  some (.inl (some (.inl s0)), h)
def f10_27 (call : Nat → List ag_V → ag_H → ag_R)   (h : ag_H) : ag_R :=
  f10_28 call (ag_lit (-1)) h
/-- NameSpaces$Message.byteAt(I)I -/
def f10 (call : Nat → List ag_V → ag_H → ag_R)  (l0 : Option Nat) (l1 : Int32) (h : ag_H) : ag_R :=
  if l1 < (ag_lit 0) then
    f10_27 call h
  else
    ag_gI h l0 1 1 fun x1 =>
    if x1 ≤ l1 then
      f10_27 call h
    else
      if (ag_lit8 20) ≤ l1 then
        f10_27 call h
      else
        ag_gR h l0 1 0 fun x2 =>
        ag_xI h x2 100 l1 fun x3 =>
        f10_28 call x3 h
set_option maxRecDepth 100000 in
set_option maxHeartbeats 4000000 in
theorem i10 (call : Nat → List ag_V → ag_H → ag_R) (B : ag_K4) (l0 : Option Nat) (l1 : Int32) (h : ag_H) : ag_in 1 call B t10 0 [some (.inr l0), some (.inl l1)] [] h = f10 call  l0 l1 h := by
  rfl
set_option maxRecDepth 100000 in
set_option maxHeartbeats 4000000 in
theorem r10 (d : Nat) (l0 : Option Nat) (l1 : Int32) (h : ag_H) : ag_run gT (d + 1) 10 [.inr l0, .inl l1] h = f10 (ag_run gT d)  l0 l1 h := by
  show ag_out 1 (ag_run gT d) t10 4000 0 [some (.inr l0), some (.inl l1)] [] h = _
  rw [ag_out_top, i10]
def f11_17 (call : Nat → List ag_V → ag_H → ag_R)  (s0 : Int32) (h : ag_H) : ag_R :=
  some (.inl (some (.inl s0)), h)
/-- NameSpaces$Message.byteOrLength(I)I -/
def f11 (call : Nat → List ag_V → ag_H → ag_R)  (l0 : Option Nat) (l1 : Int32) (h : ag_H) : ag_R :=
  if l1 = (ag_lit (-1)) then
    ag_gI h l0 1 1 fun x4 =>
    f11_17 call x4 h
  else
    ag_at h l0 1 fun a1 _ => ag_bI (call 10 [.inr (some a1), .inl l1] h) fun x3 h2 =>
    f11_17 call x3 h2
set_option maxRecDepth 100000 in
set_option maxHeartbeats 4000000 in
theorem i11 (call : Nat → List ag_V → ag_H → ag_R) (B : ag_K4) (l0 : Option Nat) (l1 : Int32) (h : ag_H) : ag_in 1 call B t11 0 [some (.inr l0), some (.inl l1)] [] h = f11 call  l0 l1 h := by
  rfl
set_option maxRecDepth 100000 in
set_option maxHeartbeats 4000000 in
theorem r11 (d : Nat) (l0 : Option Nat) (l1 : Int32) (h : ag_H) : ag_run gT (d + 1) 11 [.inr l0, .inl l1] h = f11 (ag_run gT d)  l0 l1 h := by
  show ag_out 1 (ag_run gT d) t11 4000 0 [some (.inr l0), some (.inl l1)] [] h = _
  rw [ag_out_top, i11]
def f12_4 (call : Nat → List ag_V → ag_H → ag_R) (b4 : Option Nat → Int32 → Int32 → Int32 → ag_H → ag_R) (l0 : Option Nat) (l1 : Int32) (l2 : Int32) (l3 : Int32) (h : ag_H) : ag_R :=
  if l3 < (ag_lit 0) then
    some (.inl (some (.inl l2)), h)
  else
    ag_at h l0 1 fun a1 _ => ag_bI (call 10 [.inr (some a1), .inl (l1 + l3)] h) fun x3 h2 =>
    b4 l0 l1 ((l2 <<< ((ag_lit8 8) &&& 31)) ||| (x3 &&& (ag_lit16 255))) (l3 + ag_lit (-1)) h2
/-- NameSpaces$Message.number(I)I -/
def f12 (call : Nat → List ag_V → ag_H → ag_R) (b4 : Option Nat → Int32 → Int32 → Int32 → ag_H → ag_R) (l0 : Option Nat) (l1 : Int32) (h : ag_H) : ag_R :=
  f12_4 call b4 l0 l1 (ag_lit 0) (ag_lit 3) h
def g12 (call : Nat → List ag_V → ag_H → ag_R) : Nat → Option Nat → Int32 → Int32 → Int32 → ag_H → ag_R
  | 0 => fun _ _ _ _ _ => none
  | n + 1 => f12_4 call (g12 call n)
set_option maxRecDepth 100000 in
set_option maxHeartbeats 4000000 in
theorem i12_4 (call : Nat → List ag_V → ag_H → ag_R) (B : ag_K4) (l0 : Option Nat) (l1 : Int32) (l2 : Int32) (l3 : Int32) (h : ag_H) : ag_in 1 call B t12 4 [some (.inr l0), some (.inl l1), some (.inl l2), some (.inl l3)] [] h = f12_4 call (fun (l0 : Option Nat) (l1 : Int32) (l2 : Int32) (l3 : Int32) (h : ag_H) => B 4 [some (.inr l0), some (.inl l1), some (.inl l2), some (.inl l3)] [] h) l0 l1 l2 l3 h := by
  rfl
set_option maxRecDepth 100000 in
set_option maxHeartbeats 4000000 in
theorem i12 (call : Nat → List ag_V → ag_H → ag_R) (B : ag_K4) (l0 : Option Nat) (l1 : Int32) (h : ag_H) : ag_in 1 call B t12 0 [some (.inr l0), some (.inl l1), none, none] [] h = f12 call (fun (l0 : Option Nat) (l1 : Int32) (l2 : Int32) (l3 : Int32) (h : ag_H) => B 4 [some (.inr l0), some (.inl l1), some (.inl l2), some (.inl l3)] [] h) l0 l1 h := by
  rfl
set_option maxRecDepth 100000 in
set_option maxHeartbeats 4000000 in
theorem o12 (call : Nat → List ag_V → ag_H → ag_R) : ∀ n : Nat, (fun (l0 : Option Nat) (l1 : Int32) (l2 : Int32) (l3 : Int32) (h : ag_H) => (ag_out 1 call t12 n) 4 [some (.inr l0), some (.inl l1), some (.inl l2), some (.inl l3)] [] h) = g12 call n := by
  intro n
  induction n with
  | zero => rfl
  | succ n ih =>
    funext l0 l1 l2 l3 h
    show ag_in 1 call (ag_out 1 call t12 n) t12 4 [some (.inr l0), some (.inl l1), some (.inl l2), some (.inl l3)] [] h = f12_4 call (g12 call n) l0 l1 l2 l3 h
    rw [i12_4, ih]
set_option maxRecDepth 100000 in
set_option maxHeartbeats 4000000 in
theorem r12 (d : Nat) (l0 : Option Nat) (l1 : Int32) (h : ag_H) : ag_run gT (d + 1) 12 [.inr l0, .inl l1] h = f12 (ag_run gT d) (g12 (ag_run gT d) 3999) l0 l1 h := by
  show ag_out 1 (ag_run gT d) t12 4000 0 [some (.inr l0), some (.inl l1), none, none] [] h = _
  rw [ag_out_top, i12, o12]
def f13_14 (call : Nat → List ag_V → ag_H → ag_R) (b14 : Option Nat → Int32 → ag_H → ag_R) (l0 : Option Nat) (l1 : Int32) (h : ag_H) : ag_R :=
  if (ag_lit 4) ≤ l1 then
    some (.inl none, h)
  else
    ag_gR h l0 2 0 fun x1 =>
    ag_nw h 5 fun o2 h3 =>
    ag_nn o2 <| ag_bV (call 28 [.inr o2] h3) fun h4 =>
    ag_oK h4 o2 5 <| ag_xP h4 x1 107 l1 (.inr o2) fun h5 =>
    b14 l0 (l1 + ag_lit 1) h5
/-- NameSpaces$NameSpace.<init>()V -/
def f13 (call : Nat → List ag_V → ag_H → ag_R) (b14 : Option Nat → Int32 → ag_H → ag_R) (l0 : Option Nat) (h : ag_H) : ag_R :=
  ag_nn l0 <|
  ag_na h (ag_lit 4) 107 (.inr none) fun o1 h2 =>
  ag_pF h2 l0 2 0 (.inr o1) fun h3 =>
  f13_14 call b14 l0 (ag_lit 0) h3
def g13 (call : Nat → List ag_V → ag_H → ag_R) : Nat → Option Nat → Int32 → ag_H → ag_R
  | 0 => fun _ _ _ => none
  | n + 1 => f13_14 call (g13 call n)
set_option maxRecDepth 100000 in
set_option maxHeartbeats 4000000 in
theorem i13_14 (call : Nat → List ag_V → ag_H → ag_R) (B : ag_K4) (l0 : Option Nat) (l1 : Int32) (h : ag_H) : ag_in 0 call B t13 14 [some (.inr l0), some (.inl l1)] [] h = f13_14 call (fun (l0 : Option Nat) (l1 : Int32) (h : ag_H) => B 14 [some (.inr l0), some (.inl l1)] [] h) l0 l1 h := by
  rfl
set_option maxRecDepth 100000 in
set_option maxHeartbeats 4000000 in
theorem i13 (call : Nat → List ag_V → ag_H → ag_R) (B : ag_K4) (l0 : Option Nat) (h : ag_H) : ag_in 0 call B t13 0 [some (.inr l0), none] [] h = f13 call (fun (l0 : Option Nat) (l1 : Int32) (h : ag_H) => B 14 [some (.inr l0), some (.inl l1)] [] h) l0 h := by
  rfl
set_option maxRecDepth 100000 in
set_option maxHeartbeats 4000000 in
theorem o13 (call : Nat → List ag_V → ag_H → ag_R) : ∀ n : Nat, (fun (l0 : Option Nat) (l1 : Int32) (h : ag_H) => (ag_out 0 call t13 n) 14 [some (.inr l0), some (.inl l1)] [] h) = g13 call n := by
  intro n
  induction n with
  | zero => rfl
  | succ n ih =>
    funext l0 l1 h
    show ag_in 0 call (ag_out 0 call t13 n) t13 14 [some (.inr l0), some (.inl l1)] [] h = f13_14 call (g13 call n) l0 l1 h
    rw [i13_14, ih]
set_option maxRecDepth 100000 in
set_option maxHeartbeats 4000000 in
theorem r13 (d : Nat) (l0 : Option Nat) (h : ag_H) : ag_run gT (d + 1) 13 [.inr l0] h = f13 (ag_run gT d) (g13 (ag_run gT d) 3999) l0 h := by
  show ag_out 0 (ag_run gT d) t13 4000 0 [some (.inr l0), none] [] h = _
  rw [ag_out_top, i13, o13]
def f14_38 (call : Nat → List ag_V → ag_H → ag_R) (b2 : Option Nat → Int32 → Int32 → Int32 → ag_H → ag_R) (l0 : Option Nat) (l1 : Int32) (l2 : Int32) (l3 : Int32) (h : ag_H) : ag_R :=
  b2 l0 l1 l2 (l3 + ag_lit 1) h
def f14_2 (call : Nat → List ag_V → ag_H → ag_R) (b2 : Option Nat → Int32 → Int32 → Int32 → ag_H → ag_R) (l0 : Option Nat) (l1 : Int32) (l2 : Int32) (l3 : Int32) (h : ag_H) : ag_R :=
  ag_gI h l0 2 1 fun x1 =>
  if x1 ≤ l3 then
    some (.inl (some (.inl (ag_lit (-1)))), h)
  else
    ag_gR h l0 2 0 fun x2 =>
    ag_xR h x2 107 l3 fun x3 =>
    ag_gI h x3 5 1 fun x4 =>
    if x4 = l1 then
      ag_gR h l0 2 0 fun x5 =>
      ag_xR h x5 107 l3 fun x6 =>
      ag_gI h x6 5 2 fun x7 =>
      if x7 = l2 then
        some (.inl (some (.inl l3)), h)
      else
        f14_38 call b2 l0 l1 l2 l3 h
    else
      f14_38 call b2 l0 l1 l2 l3 h
/-- NameSpaces$NameSpace.indexOf(II)I -/
def f14 (call : Nat → List ag_V → ag_H → ag_R) (b2 : Option Nat → Int32 → Int32 → Int32 → ag_H → ag_R) (l0 : Option Nat) (l1 : Int32) (l2 : Int32) (h : ag_H) : ag_R :=
  f14_2 call b2 l0 l1 l2 (ag_lit 0) h
def g14 (call : Nat → List ag_V → ag_H → ag_R) : Nat → Option Nat → Int32 → Int32 → Int32 → ag_H → ag_R
  | 0 => fun _ _ _ _ _ => none
  | n + 1 => f14_2 call (g14 call n)
set_option maxRecDepth 100000 in
set_option maxHeartbeats 4000000 in
theorem i14_2 (call : Nat → List ag_V → ag_H → ag_R) (B : ag_K4) (l0 : Option Nat) (l1 : Int32) (l2 : Int32) (l3 : Int32) (h : ag_H) : ag_in 1 call B t14 2 [some (.inr l0), some (.inl l1), some (.inl l2), some (.inl l3)] [] h = f14_2 call (fun (l0 : Option Nat) (l1 : Int32) (l2 : Int32) (l3 : Int32) (h : ag_H) => B 2 [some (.inr l0), some (.inl l1), some (.inl l2), some (.inl l3)] [] h) l0 l1 l2 l3 h := by
  rfl
set_option maxRecDepth 100000 in
set_option maxHeartbeats 4000000 in
theorem i14 (call : Nat → List ag_V → ag_H → ag_R) (B : ag_K4) (l0 : Option Nat) (l1 : Int32) (l2 : Int32) (h : ag_H) : ag_in 1 call B t14 0 [some (.inr l0), some (.inl l1), some (.inl l2), none] [] h = f14 call (fun (l0 : Option Nat) (l1 : Int32) (l2 : Int32) (l3 : Int32) (h : ag_H) => B 2 [some (.inr l0), some (.inl l1), some (.inl l2), some (.inl l3)] [] h) l0 l1 l2 h := by
  rfl
set_option maxRecDepth 100000 in
set_option maxHeartbeats 4000000 in
theorem o14 (call : Nat → List ag_V → ag_H → ag_R) : ∀ n : Nat, (fun (l0 : Option Nat) (l1 : Int32) (l2 : Int32) (l3 : Int32) (h : ag_H) => (ag_out 1 call t14 n) 2 [some (.inr l0), some (.inl l1), some (.inl l2), some (.inl l3)] [] h) = g14 call n := by
  intro n
  induction n with
  | zero => rfl
  | succ n ih =>
    funext l0 l1 l2 l3 h
    show ag_in 1 call (ag_out 1 call t14 n) t14 2 [some (.inr l0), some (.inl l1), some (.inl l2), some (.inl l3)] [] h = f14_2 call (g14 call n) l0 l1 l2 l3 h
    rw [i14_2, ih]
set_option maxRecDepth 100000 in
set_option maxHeartbeats 4000000 in
theorem r14 (d : Nat) (l0 : Option Nat) (l1 : Int32) (l2 : Int32) (h : ag_H) : ag_run gT (d + 1) 14 [.inr l0, .inl l1, .inl l2] h = f14 (ag_run gT d) (g14 (ag_run gT d) 3999) l0 l1 l2 h := by
  show ag_out 1 (ag_run gT d) t14 4000 0 [some (.inr l0), some (.inl l1), some (.inl l2), none] [] h = _
  rw [ag_out_top, i14, o14]
def f15_22 (call : Nat → List ag_V → ag_H → ag_R)  (s0 : Option Nat) (h : ag_H) : ag_R :=
  some (.inl (some (.inr s0)), h)
def f15_21 (call : Nat → List ag_V → ag_H → ag_R)   (h : ag_H) : ag_R :=
  f15_22 call none h
/-- NameSpaces$NameSpace.placeAt(I)LNameSpaces$Place; -/
def f15 (call : Nat → List ag_V → ag_H → ag_R)  (l0 : Option Nat) (l1 : Int32) (h : ag_H) : ag_R :=
  if l1 < (ag_lit 0) then
    f15_21 call h
  else
    ag_gI h l0 2 1 fun x1 =>
    if x1 ≤ l1 then
      f15_21 call h
    else
      ag_gR h l0 2 0 fun x2 =>
      ag_xR h x2 107 l1 fun x3 =>
      f15_22 call x3 h
set_option maxRecDepth 100000 in
set_option maxHeartbeats 4000000 in
theorem i15 (call : Nat → List ag_V → ag_H → ag_R) (B : ag_K4) (l0 : Option Nat) (l1 : Int32) (h : ag_H) : ag_in 2 call B t15 0 [some (.inr l0), some (.inl l1)] [] h = f15 call  l0 l1 h := by
  rfl
set_option maxRecDepth 100000 in
set_option maxHeartbeats 4000000 in
theorem r15 (d : Nat) (l0 : Option Nat) (l1 : Int32) (h : ag_H) : ag_run gT (d + 1) 15 [.inr l0, .inl l1] h = f15 (ag_run gT d)  l0 l1 h := by
  show ag_out 2 (ag_run gT d) t15 4000 0 [some (.inr l0), some (.inl l1)] [] h = _
  rw [ag_out_top, i15]
/-- NameSpaces$NameSpace.addPlace(II)LNameSpaces$Handles; -/
def f16 (call : Nat → List ag_V → ag_H → ag_R)  (l0 : Option Nat) (l1 : Int32) (l2 : Int32) (h : ag_H) : ag_R :=
  ag_gI h l0 2 1 fun x1 =>
  ag_bI (call 176 [.inl x1, .inl (ag_lit 3)] h) fun x3 h2 =>
  ag_gR h2 l0 2 0 fun x4 =>
  ag_xR h2 x4 107 x3 fun x5 =>
  ag_gR h2 x5 5 0 fun x6 =>
  ag_pF h2 x6 0 3 (.inl (ag_lit 0)) fun h7 =>
  ag_pF h7 x5 5 1 (.inl l1) fun h8 =>
  ag_pF h8 x5 5 2 (.inl l2) fun h9 =>
  ag_pF h9 l0 2 1 (.inl (x3 + (ag_lit 1))) fun h10 =>
  ag_gR h10 x5 5 0 fun x11 =>
  some (.inl (some (.inr x11)), h10)
set_option maxRecDepth 100000 in
set_option maxHeartbeats 4000000 in
theorem i16 (call : Nat → List ag_V → ag_H → ag_R) (B : ag_K4) (l0 : Option Nat) (l1 : Int32) (l2 : Int32) (h : ag_H) : ag_in 2 call B t16 0 [some (.inr l0), some (.inl l1), some (.inl l2), none, none] [] h = f16 call  l0 l1 l2 h := by
  rfl
set_option maxRecDepth 100000 in
set_option maxHeartbeats 4000000 in
theorem r16 (d : Nat) (l0 : Option Nat) (l1 : Int32) (l2 : Int32) (h : ag_H) : ag_run gT (d + 1) 16 [.inr l0, .inl l1, .inl l2] h = f16 (ag_run gT d)  l0 l1 l2 h := by
  show ag_out 2 (ag_run gT d) t16 4000 0 [some (.inr l0), some (.inl l1), some (.inl l2), none, none] [] h = _
  rw [ag_out_top, i16]
def f17_22 (call : Nat → List ag_V → ag_H → ag_R) (b22 : Option Nat → Option Nat → Int32 → ag_H → ag_R) (l0 : Option Nat) (l2 : Option Nat) (l3 : Int32) (h : ag_H) : ag_R :=
  ag_gI h l0 2 1 fun x1 =>
  if x1 ≤ (l3 + (ag_lit 1)) then
    ag_gR h l0 2 0 fun x2 =>
    ag_gI h l0 2 1 fun x3 =>
    ag_oK h l2 5 <| ag_xP h x2 107 (x3 - (ag_lit 1)) (.inr l2) fun h4 =>
    ag_gI h4 l0 2 1 fun x5 =>
    ag_pF h4 l0 2 1 (.inl (x5 - (ag_lit 1))) fun h6 =>
    some (.inl none, h6)
  else
    ag_gR h l0 2 0 fun x7 =>
    ag_gR h l0 2 0 fun x8 =>
    ag_xR h x8 107 (l3 + (ag_lit 1)) fun x9 =>
    ag_oK h x9 5 <| ag_xP h x7 107 l3 (.inr x9) fun h10 =>
    b22 l0 l2 (l3 + ag_lit 1) h10
def f17_12 (call : Nat → List ag_V → ag_H → ag_R) (b22 : Option Nat → Option Nat → Int32 → ag_H → ag_R)  (h : ag_H) : ag_R :=
  some (.inl none, h)
/-- NameSpaces$NameSpace.dropPlace(I)V -/
def f17 (call : Nat → List ag_V → ag_H → ag_R) (b22 : Option Nat → Option Nat → Int32 → ag_H → ag_R) (l0 : Option Nat) (l1 : Int32) (h : ag_H) : ag_R :=
  if l1 < (ag_lit 0) then
    f17_12 call b22 h
  else
    ag_gI h l0 2 1 fun x1 =>
    if l1 < x1 then
      ag_gR h l0 2 0 fun x2 =>
      ag_xR h x2 107 l1 fun x3 =>
      f17_22 call b22 l0 x3 l1 h
    else
      f17_12 call b22 h
def g17 (call : Nat → List ag_V → ag_H → ag_R) : Nat → Option Nat → Option Nat → Int32 → ag_H → ag_R
  | 0 => fun _ _ _ _ => none
  | n + 1 => f17_22 call (g17 call n)
set_option maxRecDepth 100000 in
set_option maxHeartbeats 4000000 in
theorem i17_22 (call : Nat → List ag_V → ag_H → ag_R) (B : ag_K4) (l0 : Option Nat) (l2 : Option Nat) (l3 : Int32) (h : ag_H) : ag_in 0 call B t17 22 [some (.inr l0), none, some (.inr l2), some (.inl l3)] [] h = f17_22 call (fun (l0 : Option Nat) (l2 : Option Nat) (l3 : Int32) (h : ag_H) => B 22 [some (.inr l0), none, some (.inr l2), some (.inl l3)] [] h) l0 l2 l3 h := by
  rfl
set_option maxRecDepth 100000 in
set_option maxHeartbeats 4000000 in
theorem i17 (call : Nat → List ag_V → ag_H → ag_R) (B : ag_K4) (l0 : Option Nat) (l1 : Int32) (h : ag_H) : ag_in 0 call B t17 0 [some (.inr l0), some (.inl l1), none, none] [] h = f17 call (fun (l0 : Option Nat) (l2 : Option Nat) (l3 : Int32) (h : ag_H) => B 22 [some (.inr l0), none, some (.inr l2), some (.inl l3)] [] h) l0 l1 h := by
  rfl
set_option maxRecDepth 100000 in
set_option maxHeartbeats 4000000 in
theorem o17 (call : Nat → List ag_V → ag_H → ag_R) : ∀ n : Nat, (fun (l0 : Option Nat) (l2 : Option Nat) (l3 : Int32) (h : ag_H) => (ag_out 0 call t17 n) 22 [some (.inr l0), none, some (.inr l2), some (.inl l3)] [] h) = g17 call n := by
  intro n
  induction n with
  | zero => rfl
  | succ n ih =>
    funext l0 l2 l3 h
    show ag_in 0 call (ag_out 0 call t17 n) t17 22 [some (.inr l0), none, some (.inr l2), some (.inl l3)] [] h = f17_22 call (g17 call n) l0 l2 l3 h
    rw [i17_22, ih]
set_option maxRecDepth 100000 in
set_option maxHeartbeats 4000000 in
theorem r17 (d : Nat) (l0 : Option Nat) (l1 : Int32) (h : ag_H) : ag_run gT (d + 1) 17 [.inr l0, .inl l1] h = f17 (ag_run gT d) (g17 (ag_run gT d) 3999) l0 l1 h := by
  show ag_out 0 (ag_run gT d) t17 4000 0 [some (.inr l0), some (.inl l1), none, none] [] h = _
  rw [ag_out_top, i17, o17]
def f18_4 (call : Nat → List ag_V → ag_H → ag_R) (b4 : Option Nat → Int32 → Int32 → ag_H → ag_R) (l0 : Option Nat) (l1 : Int32) (l2 : Int32) (h : ag_H) : ag_R :=
  ag_gI h l0 2 1 fun x1 =>
  if x1 ≤ l2 then
    some (.inl (some (.inl l1)), h)
  else
    ag_gR h l0 2 0 fun x2 =>
    ag_xR h x2 107 l2 fun x3 =>
    ag_gR h x3 5 0 fun x4 =>
    ag_gI h x4 0 3 fun x5 =>
    b4 l0 (l1 + x5) (l2 + ag_lit 1) h
/-- NameSpaces$NameSpace.members()I -/
def f18 (call : Nat → List ag_V → ag_H → ag_R) (b4 : Option Nat → Int32 → Int32 → ag_H → ag_R) (l0 : Option Nat) (h : ag_H) : ag_R :=
  f18_4 call b4 l0 (ag_lit 0) (ag_lit 0) h
def g18 (call : Nat → List ag_V → ag_H → ag_R) : Nat → Option Nat → Int32 → Int32 → ag_H → ag_R
  | 0 => fun _ _ _ _ => none
  | n + 1 => f18_4 call (g18 call n)
set_option maxRecDepth 100000 in
set_option maxHeartbeats 4000000 in
theorem i18_4 (call : Nat → List ag_V → ag_H → ag_R) (B : ag_K4) (l0 : Option Nat) (l1 : Int32) (l2 : Int32) (h : ag_H) : ag_in 1 call B t18 4 [some (.inr l0), some (.inl l1), some (.inl l2)] [] h = f18_4 call (fun (l0 : Option Nat) (l1 : Int32) (l2 : Int32) (h : ag_H) => B 4 [some (.inr l0), some (.inl l1), some (.inl l2)] [] h) l0 l1 l2 h := by
  rfl
set_option maxRecDepth 100000 in
set_option maxHeartbeats 4000000 in
theorem i18 (call : Nat → List ag_V → ag_H → ag_R) (B : ag_K4) (l0 : Option Nat) (h : ag_H) : ag_in 1 call B t18 0 [some (.inr l0), none, none] [] h = f18 call (fun (l0 : Option Nat) (l1 : Int32) (l2 : Int32) (h : ag_H) => B 4 [some (.inr l0), some (.inl l1), some (.inl l2)] [] h) l0 h := by
  rfl
set_option maxRecDepth 100000 in
set_option maxHeartbeats 4000000 in
theorem o18 (call : Nat → List ag_V → ag_H → ag_R) : ∀ n : Nat, (fun (l0 : Option Nat) (l1 : Int32) (l2 : Int32) (h : ag_H) => (ag_out 1 call t18 n) 4 [some (.inr l0), some (.inl l1), some (.inl l2)] [] h) = g18 call n := by
  intro n
  induction n with
  | zero => rfl
  | succ n ih =>
    funext l0 l1 l2 h
    show ag_in 1 call (ag_out 1 call t18 n) t18 4 [some (.inr l0), some (.inl l1), some (.inl l2)] [] h = f18_4 call (g18 call n) l0 l1 l2 h
    rw [i18_4, ih]
set_option maxRecDepth 100000 in
set_option maxHeartbeats 4000000 in
theorem r18 (d : Nat) (l0 : Option Nat) (h : ag_H) : ag_run gT (d + 1) 18 [.inr l0] h = f18 (ag_run gT d) (g18 (ag_run gT d) 3999) l0 h := by
  show ag_out 1 (ag_run gT d) t18 4000 0 [some (.inr l0), none, none] [] h = _
  rw [ag_out_top, i18, o18]
/-- NameSpaces$OpenFile.<init>()V -/
def f19 (call : Nat → List ag_V → ag_H → ag_R)  (l0 : Option Nat) (h : ag_H) : ag_R :=
  ag_nn l0 <|
  ag_nw h 0 fun o1 h2 =>
  ag_nn o1 <| ag_bV (call 0 [.inr o1] h2) fun h3 =>
  ag_pF h3 l0 3 0 (.inr o1) fun h4 =>
  some (.inl none, h4)
set_option maxRecDepth 100000 in
set_option maxHeartbeats 4000000 in
theorem i19 (call : Nat → List ag_V → ag_H → ag_R) (B : ag_K4) (l0 : Option Nat) (h : ag_H) : ag_in 0 call B t19 0 [some (.inr l0)] [] h = f19 call  l0 h := by
  rfl
set_option maxRecDepth 100000 in
set_option maxHeartbeats 4000000 in
theorem r19 (d : Nat) (l0 : Option Nat) (h : ag_H) : ag_run gT (d + 1) 19 [.inr l0] h = f19 (ag_run gT d)  l0 h := by
  show ag_out 0 (ag_run gT d) t19 4000 0 [some (.inr l0)] [] h = _
  rw [ag_out_top, i19]
/-- NameSpaces$OpenFile.begin(I)V -/
def f20 (call : Nat → List ag_V → ag_H → ag_R)  (l0 : Option Nat) (l1 : Int32) (h : ag_H) : ag_R :=
  ag_isB (ag_lit 1) <| ag_pF h l0 3 1 (.inl (ag_lit 1)) fun h1 =>
  ag_pF h1 l0 3 3 (.inl l1) fun h2 =>
  ag_pF h2 l0 3 4 (.inl (ag_lit 0)) fun h3 =>
  ag_pF h3 l0 3 5 (.inl (ag_lit 0)) fun h4 =>
  some (.inl none, h4)
set_option maxRecDepth 100000 in
set_option maxHeartbeats 4000000 in
theorem i20 (call : Nat → List ag_V → ag_H → ag_R) (B : ag_K4) (l0 : Option Nat) (l1 : Int32) (h : ag_H) : ag_in 0 call B t20 0 [some (.inr l0), some (.inl l1)] [] h = f20 call  l0 l1 h := by
  rfl
set_option maxRecDepth 100000 in
set_option maxHeartbeats 4000000 in
theorem r20 (d : Nat) (l0 : Option Nat) (l1 : Int32) (h : ag_H) : ag_run gT (d + 1) 20 [.inr l0, .inl l1] h = f20 (ag_run gT d)  l0 l1 h := by
  show ag_out 0 (ag_run gT d) t20 4000 0 [some (.inr l0), some (.inl l1)] [] h = _
  rw [ag_out_top, i20]
/-- NameSpaces$OpenFile.serverNow()I -/
def f21 (call : Nat → List ag_V → ag_H → ag_R)  (l0 : Option Nat) (h : ag_H) : ag_R :=
  ag_gR h l0 3 0 fun x1 =>
  ag_gI h l0 3 4 fun x2 =>
  ag_at h x1 0 fun a3 _ => ag_bI (call 3 [.inr (some a3), .inl x2] h) fun x5 h4 =>
  some (.inl (some (.inl x5)), h4)
set_option maxRecDepth 100000 in
set_option maxHeartbeats 4000000 in
theorem i21 (call : Nat → List ag_V → ag_H → ag_R) (B : ag_K4) (l0 : Option Nat) (h : ag_H) : ag_in 1 call B t21 0 [some (.inr l0)] [] h = f21 call  l0 h := by
  rfl
set_option maxRecDepth 100000 in
set_option maxHeartbeats 4000000 in
theorem r21 (d : Nat) (l0 : Option Nat) (h : ag_H) : ag_run gT (d + 1) 21 [.inr l0] h = f21 (ag_run gT d)  l0 h := by
  show ag_out 1 (ag_run gT d) t21 4000 0 [some (.inr l0)] [] h = _
  rw [ag_out_top, i21]
/-- NameSpaces$OpenFile.handleNow()I -/
def f22 (call : Nat → List ag_V → ag_H → ag_R)  (l0 : Option Nat) (h : ag_H) : ag_R :=
  ag_gR h l0 3 0 fun x1 =>
  ag_gI h l0 3 4 fun x2 =>
  ag_at h x1 0 fun a3 _ => ag_bI (call 4 [.inr (some a3), .inl x2] h) fun x5 h4 =>
  some (.inl (some (.inl x5)), h4)
set_option maxRecDepth 100000 in
set_option maxHeartbeats 4000000 in
theorem i22 (call : Nat → List ag_V → ag_H → ag_R) (B : ag_K4) (l0 : Option Nat) (h : ag_H) : ag_in 1 call B t22 0 [some (.inr l0)] [] h = f22 call  l0 h := by
  rfl
set_option maxRecDepth 100000 in
set_option maxHeartbeats 4000000 in
theorem r22 (d : Nat) (l0 : Option Nat) (h : ag_H) : ag_run gT (d + 1) 22 [.inr l0] h = f22 (ag_run gT d)  l0 h := by
  show ag_out 1 (ag_run gT d) t22 4000 0 [some (.inr l0)] [] h = _
  rw [ag_out_top, i22]
/-- NameSpaces$OpenFile.goOn()Z -/
def f23 (call : Nat → List ag_V → ag_H → ag_R)  (l0 : Option Nat) (h : ag_H) : ag_R :=
  ag_gI h l0 3 4 fun x1 =>
  ag_gR h l0 3 0 fun x2 =>
  ag_gI h x2 0 3 fun x3 =>
  if (x1 + (ag_lit 1)) < x3 then
    ag_gI h l0 3 4 fun x4 =>
    ag_pF h l0 3 4 (.inl (x4 + (ag_lit 1))) fun h5 =>
    ag_pF h5 l0 3 5 (.inl (ag_lit 0)) fun h6 =>
    ag_isB (ag_lit 1) (some (.inl (some (.inl (ag_lit 1))), h6))
  else
    ag_isB (ag_lit 0) (some (.inl (some (.inl (ag_lit 0))), h))
set_option maxRecDepth 100000 in
set_option maxHeartbeats 4000000 in
theorem i23 (call : Nat → List ag_V → ag_H → ag_R) (B : ag_K4) (l0 : Option Nat) (h : ag_H) : ag_in 4 call B t23 0 [some (.inr l0)] [] h = f23 call  l0 h := by
  rfl
set_option maxRecDepth 100000 in
set_option maxHeartbeats 4000000 in
theorem r23 (d : Nat) (l0 : Option Nat) (h : ag_H) : ag_run gT (d + 1) 23 [.inr l0] h = f23 (ag_run gT d)  l0 h := by
  show ag_out 4 (ag_run gT d) t23 4000 0 [some (.inr l0)] [] h = _
  rw [ag_out_top, i23]
/-- NameSpaces$Path.<init>()V -/
def f24 (call : Nat → List ag_V → ag_H → ag_R)  (l0 : Option Nat) (h : ag_H) : ag_R :=
  ag_nn l0 <|
  ag_na h (ag_lit8 12) 101 (.inl 0) fun o1 h2 =>
  ag_pF h2 l0 4 0 (.inr o1) fun h3 =>
  some (.inl none, h3)
set_option maxRecDepth 100000 in
set_option maxHeartbeats 4000000 in
theorem i24 (call : Nat → List ag_V → ag_H → ag_R) (B : ag_K4) (l0 : Option Nat) (h : ag_H) : ag_in 0 call B t24 0 [some (.inr l0)] [] h = f24 call  l0 h := by
  rfl
set_option maxRecDepth 100000 in
set_option maxHeartbeats 4000000 in
theorem r24 (d : Nat) (l0 : Option Nat) (h : ag_H) : ag_run gT (d + 1) 24 [.inr l0] h = f24 (ag_run gT d)  l0 h := by
  show ag_out 0 (ag_run gT d) t24 4000 0 [some (.inr l0)] [] h = _
  rw [ag_out_top, i24]
def f25_170 (call : Nat → List ag_V → ag_H → ag_R) (b55 : Option Nat → Option Nat → Int32 → ag_H → ag_R)  (h : ag_H) : ag_R :=
  some (.inl none, h)
def f25_167 (call : Nat → List ag_V → ag_H → ag_R) (b55 : Option Nat → Option Nat → Int32 → ag_H → ag_R) (l0 : Option Nat) (l1 : Option Nat) (l3 : Int32) (h : ag_H) : ag_R :=
  b55 l0 l1 l3 h
def f25_162 (call : Nat → List ag_V → ag_H → ag_R) (b55 : Option Nat → Option Nat → Int32 → ag_H → ag_R) (l0 : Option Nat) (l1 : Option Nat) (l3 : Int32) (h : ag_H) : ag_R :=
  ag_isB (ag_lit 0) <| ag_pF h l0 4 2 (.inl (ag_lit 0)) fun h1 =>
  f25_167 call b55 l0 l1 l3 h1
def f25_123 (call : Nat → List ag_V → ag_H → ag_R) (b55 : Option Nat → Option Nat → Int32 → ag_H → ag_R) (l0 : Option Nat) (l1 : Option Nat) (l3 : Int32) (l4 : Int32) (h : ag_H) : ag_R :=
  if l4 = (ag_lit8 46) then
    ag_at h l1 8 fun a1 _ => ag_bI (call 58 [.inr (some a1), .inl (l3 + (ag_lit 2))] h) fun x3 h2 =>
    if x3 = (ag_lit8 46) then
      ag_gI h2 l0 4 1 fun x4 =>
      ag_bI (call 175 [.inl (ag_lit 0), .inl (x4 - (ag_lit 1))] h2) fun x6 h5 =>
      ag_pF h5 l0 4 1 (.inl x6) fun h7 =>
      f25_167 call b55 l0 l1 (l3 + ag_lit 3) h7
    else
      f25_162 call b55 l0 l1 l3 h2
  else
    f25_162 call b55 l0 l1 l3 h
def f25_55 (call : Nat → List ag_V → ag_H → ag_R) (b55 : Option Nat → Option Nat → Int32 → ag_H → ag_R) (l0 : Option Nat) (l1 : Option Nat) (l3 : Int32) (h : ag_H) : ag_R :=
  ag_gI h l0 4 2 fun x1 =>
  if x1 = (ag_lit 0) then
    f25_170 call b55 h
  else
    ag_gI h l1 8 1 fun x2 =>
    if x2 ≤ l3 then
      f25_170 call b55 h
    else
      ag_at h l1 8 fun a3 _ => ag_bI (call 58 [.inr (some a3), .inl (l3 + (ag_lit 1))] h) fun x5 h4 =>
      ag_at h4 l1 8 fun a6 _ => ag_bI (call 58 [.inr (some a6), .inl l3] h4) fun x8 h7 =>
      if x8 = (ag_lit8 47) then
        if x5 < (ag_lit8 97) then
          f25_123 call b55 l0 l1 l3 x5 h7
        else
          if (ag_lit8 104) < x5 then
            f25_123 call b55 l0 l1 l3 x5 h7
          else
            ag_at h7 l0 4 fun a9 _ => ag_bV (call 26 [.inr (some a9), .inl x5] h7) fun h10 =>
            f25_167 call b55 l0 l1 (l3 + ag_lit 2) h10
      else
        ag_isB (ag_lit 0) <| ag_pF h7 l0 4 2 (.inl (ag_lit 0)) fun h11 =>
        f25_167 call b55 l0 l1 l3 h11
def f25_54 (call : Nat → List ag_V → ag_H → ag_R) (b55 : Option Nat → Option Nat → Int32 → ag_H → ag_R) (l0 : Option Nat) (l1 : Option Nat) (s0 : Int32) (h : ag_H) : ag_R :=
  f25_55 call b55 l0 l1 s0 h
def f25_44 (call : Nat → List ag_V → ag_H → ag_R) (b55 : Option Nat → Option Nat → Int32 → ag_H → ag_R) (l0 : Option Nat) (l1 : Option Nat) (s0 : Int32) (h : ag_H) : ag_R :=
  if s0 = (ag_lit 0) then
    f25_54 call b55 l0 l1 (ag_lit 0) h
  else
    f25_54 call b55 l0 l1 (ag_lit 1) h
def f25_43 (call : Nat → List ag_V → ag_H → ag_R) (b55 : Option Nat → Option Nat → Int32 → ag_H → ag_R) (l0 : Option Nat) (l1 : Option Nat) (h : ag_H) : ag_R :=
  f25_44 call b55 l0 l1 (ag_lit 0) h
def f25_18 (call : Nat → List ag_V → ag_H → ag_R) (b55 : Option Nat → Option Nat → Int32 → ag_H → ag_R) (l0 : Option Nat) (l1 : Option Nat) (s0 : Option Nat) (s1 : Int32) (h : ag_H) : ag_R :=
  ag_isB s1 <| ag_pF h s0 4 2 (.inl s1) fun h1 =>
  ag_gI h1 l1 8 1 fun x2 =>
  if x2 = (ag_lit 1) then
    ag_at h1 l1 8 fun a3 _ => ag_bI (call 58 [.inr (some a3), .inl (ag_lit 0)] h1) fun x5 h4 =>
    if x5 = (ag_lit8 47) then
      f25_44 call b55 l0 l1 (ag_lit 1) h4
    else
      f25_43 call b55 l0 l1 h4
  else
    f25_43 call b55 l0 l1 h1
/-- NameSpaces$Path.readFrom(LNameSpaces$Text;)V -/
def f25 (call : Nat → List ag_V → ag_H → ag_R) (b55 : Option Nat → Option Nat → Int32 → ag_H → ag_R) (l0 : Option Nat) (l1 : Option Nat) (h : ag_H) : ag_R :=
  ag_pF h l0 4 1 (.inl (ag_lit 0)) fun h1 =>
  ag_gI h1 l1 8 1 fun x2 =>
  if x2 ≤ (ag_lit 0) then
    f25_18 call b55 l0 l1 l0 (ag_lit 0) h1
  else
    f25_18 call b55 l0 l1 l0 (ag_lit 1) h1
def g25 (call : Nat → List ag_V → ag_H → ag_R) : Nat → Option Nat → Option Nat → Int32 → ag_H → ag_R
  | 0 => fun _ _ _ _ => none
  | n + 1 => f25_55 call (g25 call n)
set_option maxRecDepth 100000 in
set_option maxHeartbeats 4000000 in
theorem i25_55 (call : Nat → List ag_V → ag_H → ag_R) (B : ag_K4) (l0 : Option Nat) (l1 : Option Nat) (l3 : Int32) (h : ag_H) : ag_in 0 call B t25 55 [some (.inr l0), some (.inr l1), none, some (.inl l3), none] [] h = f25_55 call (fun (l0 : Option Nat) (l1 : Option Nat) (l3 : Int32) (h : ag_H) => B 55 [some (.inr l0), some (.inr l1), none, some (.inl l3), none] [] h) l0 l1 l3 h := by
  rfl
set_option maxRecDepth 100000 in
set_option maxHeartbeats 4000000 in
theorem i25 (call : Nat → List ag_V → ag_H → ag_R) (B : ag_K4) (l0 : Option Nat) (l1 : Option Nat) (h : ag_H) : ag_in 0 call B t25 0 [some (.inr l0), some (.inr l1), none, none, none] [] h = f25 call (fun (l0 : Option Nat) (l1 : Option Nat) (l3 : Int32) (h : ag_H) => B 55 [some (.inr l0), some (.inr l1), none, some (.inl l3), none] [] h) l0 l1 h := by
  rfl
set_option maxRecDepth 100000 in
set_option maxHeartbeats 4000000 in
theorem o25 (call : Nat → List ag_V → ag_H → ag_R) : ∀ n : Nat, (fun (l0 : Option Nat) (l1 : Option Nat) (l3 : Int32) (h : ag_H) => (ag_out 0 call t25 n) 55 [some (.inr l0), some (.inr l1), none, some (.inl l3), none] [] h) = g25 call n := by
  intro n
  induction n with
  | zero => rfl
  | succ n ih =>
    funext l0 l1 l3 h
    show ag_in 0 call (ag_out 0 call t25 n) t25 55 [some (.inr l0), some (.inr l1), none, some (.inl l3), none] [] h = f25_55 call (g25 call n) l0 l1 l3 h
    rw [i25_55, ih]
set_option maxRecDepth 100000 in
set_option maxHeartbeats 4000000 in
theorem r25 (d : Nat) (l0 : Option Nat) (l1 : Option Nat) (h : ag_H) : ag_run gT (d + 1) 25 [.inr l0, .inr l1] h = f25 (ag_run gT d) (g25 (ag_run gT d) 3999) l0 l1 h := by
  show ag_out 0 (ag_run gT d) t25 4000 0 [some (.inr l0), some (.inr l1), none, none, none] [] h = _
  rw [ag_out_top, i25, o25]
def f26_29 (call : Nat → List ag_V → ag_H → ag_R)   (h : ag_H) : ag_R :=
  some (.inl none, h)
/-- NameSpaces$Path.push(C)V -/
def f26 (call : Nat → List ag_V → ag_H → ag_R)  (l0 : Option Nat) (l1 : Int32) (h : ag_H) : ag_R :=
  ag_gI h l0 4 1 fun x1 =>
  if (ag_lit8 12) ≤ x1 then
    f26_29 call h
  else
    ag_gR h l0 4 0 fun x2 =>
    ag_gI h l0 4 1 fun x3 =>
    ag_isC l1 <| ag_xP h x2 101 x3 (.inl l1) fun h4 =>
    ag_gI h4 l0 4 1 fun x5 =>
    ag_pF h4 l0 4 1 (.inl (x5 + (ag_lit 1))) fun h6 =>
    f26_29 call h6
set_option maxRecDepth 100000 in
set_option maxHeartbeats 4000000 in
theorem i26 (call : Nat → List ag_V → ag_H → ag_R) (B : ag_K4) (l0 : Option Nat) (l1 : Int32) (h : ag_H) : ag_in 0 call B t26 0 [some (.inr l0), some (.inl l1)] [] h = f26 call  l0 l1 h := by
  rfl
set_option maxRecDepth 100000 in
set_option maxHeartbeats 4000000 in
theorem r26 (d : Nat) (l0 : Option Nat) (l1 : Int32) (h : ag_H) : ag_run gT (d + 1) 26 [.inr l0, .inl l1] h = f26 (ag_run gT d)  l0 l1 h := by
  show ag_out 0 (ag_run gT d) t26 4000 0 [some (.inr l0), some (.inl l1)] [] h = _
  rw [ag_out_top, i26]
def f27_28 (call : Nat → List ag_V → ag_H → ag_R)  (s0 : Int32) (h : ag_H) : ag_R :=
  ag_isC s0 (some (.inl (some (.inl s0)), h))
def f27_27 (call : Nat → List ag_V → ag_H → ag_R)   (h : ag_H) : ag_R :=
  f27_28 call (ag_lit 0) h
/-- NameSpaces$Path.name(I)C -/
def f27 (call : Nat → List ag_V → ag_H → ag_R)  (l0 : Option Nat) (l1 : Int32) (h : ag_H) : ag_R :=
  if l1 < (ag_lit 0) then
    f27_27 call h
  else
    ag_gI h l0 4 1 fun x1 =>
    if x1 ≤ l1 then
      f27_27 call h
    else
      if (ag_lit8 12) ≤ l1 then
        f27_27 call h
      else
        ag_gR h l0 4 0 fun x2 =>
        ag_xI h x2 101 l1 fun x3 =>
        f27_28 call x3 h
set_option maxRecDepth 100000 in
set_option maxHeartbeats 4000000 in
theorem i27 (call : Nat → List ag_V → ag_H → ag_R) (B : ag_K4) (l0 : Option Nat) (l1 : Int32) (h : ag_H) : ag_in 3 call B t27 0 [some (.inr l0), some (.inl l1)] [] h = f27 call  l0 l1 h := by
  rfl
set_option maxRecDepth 100000 in
set_option maxHeartbeats 4000000 in
theorem r27 (d : Nat) (l0 : Option Nat) (l1 : Int32) (h : ag_H) : ag_run gT (d + 1) 27 [.inr l0, .inl l1] h = f27 (ag_run gT d)  l0 l1 h := by
  show ag_out 3 (ag_run gT d) t27 4000 0 [some (.inr l0), some (.inl l1)] [] h = _
  rw [ag_out_top, i27]
/-- NameSpaces$Place.<init>()V -/
def f28 (call : Nat → List ag_V → ag_H → ag_R)  (l0 : Option Nat) (h : ag_H) : ag_R :=
  ag_nn l0 <|
  ag_nw h 0 fun o1 h2 =>
  ag_nn o1 <| ag_bV (call 0 [.inr o1] h2) fun h3 =>
  ag_pF h3 l0 5 0 (.inr o1) fun h4 =>
  some (.inl none, h4)
set_option maxRecDepth 100000 in
set_option maxHeartbeats 4000000 in
theorem i28 (call : Nat → List ag_V → ag_H → ag_R) (B : ag_K4) (l0 : Option Nat) (h : ag_H) : ag_in 0 call B t28 0 [some (.inr l0)] [] h = f28 call  l0 h := by
  rfl
set_option maxRecDepth 100000 in
set_option maxHeartbeats 4000000 in
theorem r28 (d : Nat) (l0 : Option Nat) (h : ag_H) : ag_run gT (d + 1) 28 [.inr l0] h = f28 (ag_run gT d)  l0 h := by
  show ag_out 0 (ag_run gT d) t28 4000 0 [some (.inr l0)] [] h = _
  rw [ag_out_top, i28]
def f29_14 (call : Nat → List ag_V → ag_H → ag_R) (b14 : Option Nat → Int32 → ag_H → ag_R) (l0 : Option Nat) (l1 : Int32) (h : ag_H) : ag_R :=
  if (ag_lit 5) ≤ l1 then
    some (.inl none, h)
  else
    ag_gR h l0 6 0 fun x1 =>
    ag_nw h 3 fun o2 h3 =>
    ag_nn o2 <| ag_bV (call 19 [.inr o2] h3) fun h4 =>
    ag_oK h4 o2 3 <| ag_xP h4 x1 108 l1 (.inr o2) fun h5 =>
    b14 l0 (l1 + ag_lit 1) h5
/-- NameSpaces$Proc.<init>()V -/
def f29 (call : Nat → List ag_V → ag_H → ag_R) (b14 : Option Nat → Int32 → ag_H → ag_R) (l0 : Option Nat) (h : ag_H) : ag_R :=
  ag_nn l0 <|
  ag_na h (ag_lit 5) 108 (.inr none) fun o1 h2 =>
  ag_pF h2 l0 6 0 (.inr o1) fun h3 =>
  f29_14 call b14 l0 (ag_lit 0) h3
def g29 (call : Nat → List ag_V → ag_H → ag_R) : Nat → Option Nat → Int32 → ag_H → ag_R
  | 0 => fun _ _ _ => none
  | n + 1 => f29_14 call (g29 call n)
set_option maxRecDepth 100000 in
set_option maxHeartbeats 4000000 in
theorem i29_14 (call : Nat → List ag_V → ag_H → ag_R) (B : ag_K4) (l0 : Option Nat) (l1 : Int32) (h : ag_H) : ag_in 0 call B t29 14 [some (.inr l0), some (.inl l1)] [] h = f29_14 call (fun (l0 : Option Nat) (l1 : Int32) (h : ag_H) => B 14 [some (.inr l0), some (.inl l1)] [] h) l0 l1 h := by
  rfl
set_option maxRecDepth 100000 in
set_option maxHeartbeats 4000000 in
theorem i29 (call : Nat → List ag_V → ag_H → ag_R) (B : ag_K4) (l0 : Option Nat) (h : ag_H) : ag_in 0 call B t29 0 [some (.inr l0), none] [] h = f29 call (fun (l0 : Option Nat) (l1 : Int32) (h : ag_H) => B 14 [some (.inr l0), some (.inl l1)] [] h) l0 h := by
  rfl
set_option maxRecDepth 100000 in
set_option maxHeartbeats 4000000 in
theorem o29 (call : Nat → List ag_V → ag_H → ag_R) : ∀ n : Nat, (fun (l0 : Option Nat) (l1 : Int32) (h : ag_H) => (ag_out 0 call t29 n) 14 [some (.inr l0), some (.inl l1)] [] h) = g29 call n := by
  intro n
  induction n with
  | zero => rfl
  | succ n ih =>
    funext l0 l1 h
    show ag_in 0 call (ag_out 0 call t29 n) t29 14 [some (.inr l0), some (.inl l1)] [] h = f29_14 call (g29 call n) l0 l1 h
    rw [i29_14, ih]
set_option maxRecDepth 100000 in
set_option maxHeartbeats 4000000 in
theorem r29 (d : Nat) (l0 : Option Nat) (h : ag_H) : ag_run gT (d + 1) 29 [.inr l0] h = f29 (ag_run gT d) (g29 (ag_run gT d) 3999) l0 h := by
  show ag_out 0 (ag_run gT d) t29 4000 0 [some (.inr l0), none] [] h = _
  rw [ag_out_top, i29, o29]
/-- NameSpaces$Proc.begin(LNameSpaces$NameSpace;)V -/
def f30 (call : Nat → List ag_V → ag_H → ag_R)  (l0 : Option Nat) (l1 : Option Nat) (h : ag_H) : ag_R :=
  ag_pF h l0 6 1 (.inr l1) fun h1 =>
  ag_gI h1 l1 2 2 fun x2 =>
  ag_pF h1 l1 2 2 (.inl (x2 + (ag_lit 1))) fun h3 =>
  some (.inl none, h3)
set_option maxRecDepth 100000 in
set_option maxHeartbeats 4000000 in
theorem i30 (call : Nat → List ag_V → ag_H → ag_R) (B : ag_K4) (l0 : Option Nat) (l1 : Option Nat) (h : ag_H) : ag_in 0 call B t30 0 [some (.inr l0), some (.inr l1)] [] h = f30 call  l0 l1 h := by
  rfl
set_option maxRecDepth 100000 in
set_option maxHeartbeats 4000000 in
theorem r30 (d : Nat) (l0 : Option Nat) (l1 : Option Nat) (h : ag_H) : ag_run gT (d + 1) 30 [.inr l0, .inr l1] h = f30 (ag_run gT d)  l0 l1 h := by
  show ag_out 0 (ag_run gT d) t30 4000 0 [some (.inr l0), some (.inr l1)] [] h = _
  rw [ag_out_top, i30]
def f31_20 (call : Nat → List ag_V → ag_H → ag_R)  (l0 : Option Nat) (h : ag_H) : ag_R :=
  ag_pF h l0 6 1 (.inr none) fun h1 =>
  some (.inl none, h1)
/-- NameSpaces$Proc.end()V -/
def f31 (call : Nat → List ag_V → ag_H → ag_R)  (l0 : Option Nat) (h : ag_H) : ag_R :=
  ag_gR h l0 6 1 fun x1 =>
  if x1 = none then
    f31_20 call l0 h
  else
    ag_gR h l0 6 1 fun x2 =>
    ag_gI h x2 2 2 fun x3 =>
    ag_pF h x2 2 2 (.inl (x3 - (ag_lit 1))) fun h4 =>
    f31_20 call l0 h4
set_option maxRecDepth 100000 in
set_option maxHeartbeats 4000000 in
theorem i31 (call : Nat → List ag_V → ag_H → ag_R) (B : ag_K4) (l0 : Option Nat) (h : ag_H) : ag_in 0 call B t31 0 [some (.inr l0)] [] h = f31 call  l0 h := by
  rfl
set_option maxRecDepth 100000 in
set_option maxHeartbeats 4000000 in
theorem r31 (d : Nat) (l0 : Option Nat) (h : ag_H) : ag_run gT (d + 1) 31 [.inr l0] h = f31 (ag_run gT d)  l0 h := by
  show ag_out 0 (ag_run gT d) t31 4000 0 [some (.inr l0)] [] h = _
  rw [ag_out_top, i31]
def f32_2 (call : Nat → List ag_V → ag_H → ag_R) (b2 : Option Nat → Int32 → ag_H → ag_R) (l0 : Option Nat) (l1 : Int32) (h : ag_H) : ag_R :=
  if (ag_lit 5) ≤ l1 then
    some (.inl (some (.inl (ag_lit (-1)))), h)
  else
    ag_gR h l0 6 0 fun x1 =>
    ag_xR h x1 108 l1 fun x2 =>
    ag_gI h x2 3 1 fun x3 =>
    if x3 = (ag_lit 0) then
      some (.inl (some (.inl l1)), h)
    else
      b2 l0 (l1 + ag_lit 1) h
/-- NameSpaces$Proc.leastFree()I -/
def f32 (call : Nat → List ag_V → ag_H → ag_R) (b2 : Option Nat → Int32 → ag_H → ag_R) (l0 : Option Nat) (h : ag_H) : ag_R :=
  f32_2 call b2 l0 (ag_lit 0) h
def g32 (call : Nat → List ag_V → ag_H → ag_R) : Nat → Option Nat → Int32 → ag_H → ag_R
  | 0 => fun _ _ _ => none
  | n + 1 => f32_2 call (g32 call n)
set_option maxRecDepth 100000 in
set_option maxHeartbeats 4000000 in
theorem i32_2 (call : Nat → List ag_V → ag_H → ag_R) (B : ag_K4) (l0 : Option Nat) (l1 : Int32) (h : ag_H) : ag_in 1 call B t32 2 [some (.inr l0), some (.inl l1)] [] h = f32_2 call (fun (l0 : Option Nat) (l1 : Int32) (h : ag_H) => B 2 [some (.inr l0), some (.inl l1)] [] h) l0 l1 h := by
  rfl
set_option maxRecDepth 100000 in
set_option maxHeartbeats 4000000 in
theorem i32 (call : Nat → List ag_V → ag_H → ag_R) (B : ag_K4) (l0 : Option Nat) (h : ag_H) : ag_in 1 call B t32 0 [some (.inr l0), none] [] h = f32 call (fun (l0 : Option Nat) (l1 : Int32) (h : ag_H) => B 2 [some (.inr l0), some (.inl l1)] [] h) l0 h := by
  rfl
set_option maxRecDepth 100000 in
set_option maxHeartbeats 4000000 in
theorem o32 (call : Nat → List ag_V → ag_H → ag_R) : ∀ n : Nat, (fun (l0 : Option Nat) (l1 : Int32) (h : ag_H) => (ag_out 1 call t32 n) 2 [some (.inr l0), some (.inl l1)] [] h) = g32 call n := by
  intro n
  induction n with
  | zero => rfl
  | succ n ih =>
    funext l0 l1 h
    show ag_in 1 call (ag_out 1 call t32 n) t32 2 [some (.inr l0), some (.inl l1)] [] h = f32_2 call (g32 call n) l0 l1 h
    rw [i32_2, ih]
set_option maxRecDepth 100000 in
set_option maxHeartbeats 4000000 in
theorem r32 (d : Nat) (l0 : Option Nat) (h : ag_H) : ag_run gT (d + 1) 32 [.inr l0] h = f32 (ag_run gT d) (g32 (ag_run gT d) 3999) l0 h := by
  show ag_out 1 (ag_run gT d) t32 4000 0 [some (.inr l0), none] [] h = _
  rw [ag_out_top, i32, o32]
def f33_24 (call : Nat → List ag_V → ag_H → ag_R) (b4 : Option Nat → Int32 → Int32 → ag_H → ag_R) (l0 : Option Nat) (l1 : Int32) (l2 : Int32) (h : ag_H) : ag_R :=
  b4 l0 l1 (l2 + ag_lit 1) h
def f33_4 (call : Nat → List ag_V → ag_H → ag_R) (b4 : Option Nat → Int32 → Int32 → ag_H → ag_R) (l0 : Option Nat) (l1 : Int32) (l2 : Int32) (h : ag_H) : ag_R :=
  if (ag_lit 5) ≤ l2 then
    some (.inl (some (.inl l1)), h)
  else
    ag_gR h l0 6 0 fun x1 =>
    ag_xR h x1 108 l2 fun x2 =>
    ag_gI h x2 3 1 fun x3 =>
    if x3 = (ag_lit 0) then
      f33_24 call b4 l0 l1 l2 h
    else
      f33_24 call b4 l0 (l1 + ag_lit 1) l2 h
/-- NameSpaces$Proc.openFiles()I -/
def f33 (call : Nat → List ag_V → ag_H → ag_R) (b4 : Option Nat → Int32 → Int32 → ag_H → ag_R) (l0 : Option Nat) (h : ag_H) : ag_R :=
  f33_4 call b4 l0 (ag_lit 0) (ag_lit 0) h
def g33 (call : Nat → List ag_V → ag_H → ag_R) : Nat → Option Nat → Int32 → Int32 → ag_H → ag_R
  | 0 => fun _ _ _ _ => none
  | n + 1 => f33_4 call (g33 call n)
set_option maxRecDepth 100000 in
set_option maxHeartbeats 4000000 in
theorem i33_4 (call : Nat → List ag_V → ag_H → ag_R) (B : ag_K4) (l0 : Option Nat) (l1 : Int32) (l2 : Int32) (h : ag_H) : ag_in 1 call B t33 4 [some (.inr l0), some (.inl l1), some (.inl l2)] [] h = f33_4 call (fun (l0 : Option Nat) (l1 : Int32) (l2 : Int32) (h : ag_H) => B 4 [some (.inr l0), some (.inl l1), some (.inl l2)] [] h) l0 l1 l2 h := by
  rfl
set_option maxRecDepth 100000 in
set_option maxHeartbeats 4000000 in
theorem i33 (call : Nat → List ag_V → ag_H → ag_R) (B : ag_K4) (l0 : Option Nat) (h : ag_H) : ag_in 1 call B t33 0 [some (.inr l0), none, none] [] h = f33 call (fun (l0 : Option Nat) (l1 : Int32) (l2 : Int32) (h : ag_H) => B 4 [some (.inr l0), some (.inl l1), some (.inl l2)] [] h) l0 h := by
  rfl
set_option maxRecDepth 100000 in
set_option maxHeartbeats 4000000 in
theorem o33 (call : Nat → List ag_V → ag_H → ag_R) : ∀ n : Nat, (fun (l0 : Option Nat) (l1 : Int32) (l2 : Int32) (h : ag_H) => (ag_out 1 call t33 n) 4 [some (.inr l0), some (.inl l1), some (.inl l2)] [] h) = g33 call n := by
  intro n
  induction n with
  | zero => rfl
  | succ n ih =>
    funext l0 l1 l2 h
    show ag_in 1 call (ag_out 1 call t33 n) t33 4 [some (.inr l0), some (.inl l1), some (.inl l2)] [] h = f33_4 call (g33 call n) l0 l1 l2 h
    rw [i33_4, ih]
set_option maxRecDepth 100000 in
set_option maxHeartbeats 4000000 in
theorem r33 (d : Nat) (l0 : Option Nat) (h : ag_H) : ag_run gT (d + 1) 33 [.inr l0] h = f33 (ag_run gT d) (g33 (ag_run gT d) 3999) l0 h := by
  show ag_out 1 (ag_run gT d) t33 4000 0 [some (.inr l0), none, none] [] h = _
  rw [ag_out_top, i33, o33]
/-- NameSpaces$Server.<init>()V -/
def f34 (call : Nat → List ag_V → ag_H → ag_R)  (l0 : Option Nat) (h : ag_H) : ag_R :=
  ag_nn l0 <|
  ag_nw h 1 fun o1 h2 =>
  ag_nn o1 <| ag_bV (call 7 [.inr o1] h2) fun h3 =>
  ag_pF h3 l0 7 0 (.inr o1) fun h4 =>
  ag_nw h4 1 fun o5 h6 =>
  ag_nn o5 <| ag_bV (call 7 [.inr o5] h6) fun h7 =>
  ag_pF h7 l0 7 1 (.inr o5) fun h8 =>
  ag_na h8 (ag_lit8 20) 106 (.inr none) fun o9 h10 =>
  ag_pF h10 l0 7 2 (.inr o9) fun h11 =>
  ag_na h11 (ag_lit16 128) 106 (.inr none) fun o12 h13 =>
  ag_pF h13 l0 7 3 (.inr o12) fun h14 =>
  ag_pF h14 l0 7 4 (.inl (ag_lit 1)) fun h15 =>
  ag_pF h15 l0 7 5 (.inl (ag_lit 1)) fun h16 =>
  ag_gR h16 l0 7 2 fun x17 =>
  ag_nw h16 9 fun o18 h19 =>
  ag_nn o18 <| ag_bV (call 60 [.inr o18, .inl (ag_lit 0), .inl (ag_lit (-1)), .inl (ag_lit 0), .inl (ag_lit 1)] h19) fun h20 =>
  ag_oK h20 o18 9 <| ag_xP h20 x17 106 (ag_lit 0) (.inr o18) fun h21 =>
  ag_at h21 l0 7 fun a22 _ => ag_bV (call 37 [.inr (some a22), .inl (ag_lit 0)] h21) fun h23 =>
  some (.inl none, h23)
set_option maxRecDepth 100000 in
set_option maxHeartbeats 4000000 in
theorem i34 (call : Nat → List ag_V → ag_H → ag_R) (B : ag_K4) (l0 : Option Nat) (h : ag_H) : ag_in 0 call B t34 0 [some (.inr l0)] [] h = f34 call  l0 h := by
  rfl
set_option maxRecDepth 100000 in
set_option maxHeartbeats 4000000 in
theorem r34 (d : Nat) (l0 : Option Nat) (h : ag_H) : ag_run gT (d + 1) 34 [.inr l0] h = f34 (ag_run gT d)  l0 h := by
  show ag_out 0 (ag_run gT d) t34 4000 0 [some (.inr l0)] [] h = _
  rw [ag_out_top, i34]
def f35_2 (call : Nat → List ag_V → ag_H → ag_R) (b2 : Option Nat → Int32 → ag_H → ag_R) (l0 : Option Nat) (l1 : Int32) (h : ag_H) : ag_R :=
  if (ag_lit16 128) ≤ l1 then
    some (.inl (some (.inl (ag_lit (-1)))), h)
  else
    ag_gR h l0 7 3 fun x1 =>
    ag_xR h x1 106 l1 fun x2 =>
    if x2 = none then
      some (.inl (some (.inl l1)), h)
    else
      b2 l0 (l1 + ag_lit 1) h
/-- NameSpaces$Server.newHandle()I -/
def f35 (call : Nat → List ag_V → ag_H → ag_R) (b2 : Option Nat → Int32 → ag_H → ag_R) (l0 : Option Nat) (h : ag_H) : ag_R :=
  f35_2 call b2 l0 (ag_lit 0) h
def g35 (call : Nat → List ag_V → ag_H → ag_R) : Nat → Option Nat → Int32 → ag_H → ag_R
  | 0 => fun _ _ _ => none
  | n + 1 => f35_2 call (g35 call n)
set_option maxRecDepth 100000 in
set_option maxHeartbeats 4000000 in
theorem i35_2 (call : Nat → List ag_V → ag_H → ag_R) (B : ag_K4) (l0 : Option Nat) (l1 : Int32) (h : ag_H) : ag_in 1 call B t35 2 [some (.inr l0), some (.inl l1)] [] h = f35_2 call (fun (l0 : Option Nat) (l1 : Int32) (h : ag_H) => B 2 [some (.inr l0), some (.inl l1)] [] h) l0 l1 h := by
  rfl
set_option maxRecDepth 100000 in
set_option maxHeartbeats 4000000 in
theorem i35 (call : Nat → List ag_V → ag_H → ag_R) (B : ag_K4) (l0 : Option Nat) (h : ag_H) : ag_in 1 call B t35 0 [some (.inr l0), none] [] h = f35 call (fun (l0 : Option Nat) (l1 : Int32) (h : ag_H) => B 2 [some (.inr l0), some (.inl l1)] [] h) l0 h := by
  rfl
set_option maxRecDepth 100000 in
set_option maxHeartbeats 4000000 in
theorem o35 (call : Nat → List ag_V → ag_H → ag_R) : ∀ n : Nat, (fun (l0 : Option Nat) (l1 : Int32) (h : ag_H) => (ag_out 1 call t35 n) 2 [some (.inr l0), some (.inl l1)] [] h) = g35 call n := by
  intro n
  induction n with
  | zero => rfl
  | succ n ih =>
    funext l0 l1 h
    show ag_in 1 call (ag_out 1 call t35 n) t35 2 [some (.inr l0), some (.inl l1)] [] h = f35_2 call (g35 call n) l0 l1 h
    rw [i35_2, ih]
set_option maxRecDepth 100000 in
set_option maxHeartbeats 4000000 in
theorem r35 (d : Nat) (l0 : Option Nat) (h : ag_H) : ag_run gT (d + 1) 35 [.inr l0] h = f35 (ag_run gT d) (g35 (ag_run gT d) 3999) l0 h := by
  show ag_out 1 (ag_run gT d) t35 4000 0 [some (.inr l0), none] [] h = _
  rw [ag_out_top, i35, o35]
def f36_23 (call : Nat → List ag_V → ag_H → ag_R) (b4 : Option Nat → Int32 → Int32 → ag_H → ag_R) (l0 : Option Nat) (l1 : Int32) (l2 : Int32) (h : ag_H) : ag_R :=
  b4 l0 l1 (l2 + ag_lit 1) h
def f36_4 (call : Nat → List ag_V → ag_H → ag_R) (b4 : Option Nat → Int32 → Int32 → ag_H → ag_R) (l0 : Option Nat) (l1 : Int32) (l2 : Int32) (h : ag_H) : ag_R :=
  if (ag_lit16 128) ≤ l2 then
    some (.inl (some (.inl l1)), h)
  else
    ag_gR h l0 7 3 fun x1 =>
    ag_xR h x1 106 l2 fun x2 =>
    if x2 = none then
      f36_23 call b4 l0 l1 l2 h
    else
      f36_23 call b4 l0 (l1 + ag_lit 1) l2 h
/-- NameSpaces$Server.handlesInUse()I -/
def f36 (call : Nat → List ag_V → ag_H → ag_R) (b4 : Option Nat → Int32 → Int32 → ag_H → ag_R) (l0 : Option Nat) (h : ag_H) : ag_R :=
  f36_4 call b4 l0 (ag_lit 0) (ag_lit 0) h
def g36 (call : Nat → List ag_V → ag_H → ag_R) : Nat → Option Nat → Int32 → Int32 → ag_H → ag_R
  | 0 => fun _ _ _ _ => none
  | n + 1 => f36_4 call (g36 call n)
set_option maxRecDepth 100000 in
set_option maxHeartbeats 4000000 in
theorem i36_4 (call : Nat → List ag_V → ag_H → ag_R) (B : ag_K4) (l0 : Option Nat) (l1 : Int32) (l2 : Int32) (h : ag_H) : ag_in 1 call B t36 4 [some (.inr l0), some (.inl l1), some (.inl l2)] [] h = f36_4 call (fun (l0 : Option Nat) (l1 : Int32) (l2 : Int32) (h : ag_H) => B 4 [some (.inr l0), some (.inl l1), some (.inl l2)] [] h) l0 l1 l2 h := by
  rfl
set_option maxRecDepth 100000 in
set_option maxHeartbeats 4000000 in
theorem i36 (call : Nat → List ag_V → ag_H → ag_R) (B : ag_K4) (l0 : Option Nat) (h : ag_H) : ag_in 1 call B t36 0 [some (.inr l0), none, none] [] h = f36 call (fun (l0 : Option Nat) (l1 : Int32) (l2 : Int32) (h : ag_H) => B 4 [some (.inr l0), some (.inl l1), some (.inl l2)] [] h) l0 h := by
  rfl
set_option maxRecDepth 100000 in
set_option maxHeartbeats 4000000 in
theorem o36 (call : Nat → List ag_V → ag_H → ag_R) : ∀ n : Nat, (fun (l0 : Option Nat) (l1 : Int32) (l2 : Int32) (h : ag_H) => (ag_out 1 call t36 n) 4 [some (.inr l0), some (.inl l1), some (.inl l2)] [] h) = g36 call n := by
  intro n
  induction n with
  | zero => rfl
  | succ n ih =>
    funext l0 l1 l2 h
    show ag_in 1 call (ag_out 1 call t36 n) t36 4 [some (.inr l0), some (.inl l1), some (.inl l2)] [] h = f36_4 call (g36 call n) l0 l1 l2 h
    rw [i36_4, ih]
set_option maxRecDepth 100000 in
set_option maxHeartbeats 4000000 in
theorem r36 (d : Nat) (l0 : Option Nat) (h : ag_H) : ag_run gT (d + 1) 36 [.inr l0] h = f36 (ag_run gT d) (g36 (ag_run gT d) 3999) l0 h := by
  show ag_out 1 (ag_run gT d) t36 4000 0 [some (.inr l0), none, none] [] h = _
  rw [ag_out_top, i36, o36]
/-- NameSpaces$Server.attach(I)V -/
def f37 (call : Nat → List ag_V → ag_H → ag_R)  (l0 : Option Nat) (l1 : Int32) (h : ag_H) : ag_R :=
  ag_at h l0 7 fun a1 _ => ag_bV (call 47 [.inr (some a1), .inl (ag_lit8 104), .inl l1] h) fun h2 =>
  ag_gR h2 l0 7 2 fun x3 =>
  ag_xR h2 x3 106 (ag_lit 0) fun x4 =>
  ag_at h2 l0 7 fun a5 _ => ag_bV (call 52 [.inr (some a5), .inl l1, .inr x4] h2) fun h6 =>
  ag_gR h6 l0 7 2 fun x7 =>
  ag_xR h6 x7 106 (ag_lit 0) fun x8 =>
  ag_at h6 l0 7 fun a9 _ => ag_bI (call 49 [.inr (some a9), .inl (ag_lit8 104), .inr x8] h6) fun x11 h10 =>
  some (.inl none, h10)
set_option maxRecDepth 100000 in
set_option maxHeartbeats 4000000 in
theorem i37 (call : Nat → List ag_V → ag_H → ag_R) (B : ag_K4) (l0 : Option Nat) (l1 : Int32) (h : ag_H) : ag_in 0 call B t37 0 [some (.inr l0), some (.inl l1)] [] h = f37 call  l0 l1 h := by
  rfl
set_option maxRecDepth 100000 in
set_option maxHeartbeats 4000000 in
theorem r37 (d : Nat) (l0 : Option Nat) (l1 : Int32) (h : ag_H) : ag_run gT (d + 1) 37 [.inr l0, .inl l1] h = f37 (ag_run gT d)  l0 l1 h := by
  show ag_out 0 (ag_run gT d) t37 4000 0 [some (.inr l0), some (.inl l1)] [] h = _
  rw [ag_out_top, i37]
/-- NameSpaces$Server.walkSame(I)I -/
def f38 (call : Nat → List ag_V → ag_H → ag_R)  (l0 : Option Nat) (l1 : Int32) (h : ag_H) : ag_R :=
  ag_at h l0 7 fun a1 _ => ag_bI (call 35 [.inr (some a1)] h) fun x3 h2 =>
  ag_at h2 l0 7 fun a4 _ => ag_bV (call 47 [.inr (some a4), .inl (ag_lit8 110), .inl l1] h2) fun h5 =>
  ag_gR h5 l0 7 0 fun x6 =>
  ag_at h5 x6 1 fun a7 _ => ag_bV (call 9 [.inr (some a7), .inl x3, .inl (ag_lit 4)] h5) fun h8 =>
  ag_gR h8 l0 7 0 fun x9 =>
  ag_at h8 x9 1 fun a10 _ => ag_bV (call 9 [.inr (some a10), .inl (ag_lit 0), .inl (ag_lit 2)] h8) fun h11 =>
  ag_at h11 l0 7 fun a12 _ => ag_bR (call 51 [.inr (some a12), .inl l1] h11) fun x14 h13 =>
  ag_at h13 l0 7 fun a15 _ => ag_bV (call 52 [.inr (some a15), .inl x3, .inr x14] h13) fun h16 =>
  ag_at h16 l0 7 fun a17 _ => ag_bI (call 48 [.inr (some a17), .inl (ag_lit8 110)] h16) fun x19 h18 =>
  some (.inl (some (.inl x3)), h18)
set_option maxRecDepth 100000 in
set_option maxHeartbeats 4000000 in
theorem i38 (call : Nat → List ag_V → ag_H → ag_R) (B : ag_K4) (l0 : Option Nat) (l1 : Int32) (h : ag_H) : ag_in 1 call B t38 0 [some (.inr l0), some (.inl l1), none] [] h = f38 call  l0 l1 h := by
  rfl
set_option maxRecDepth 100000 in
set_option maxHeartbeats 4000000 in
theorem r38 (d : Nat) (l0 : Option Nat) (l1 : Int32) (h : ag_H) : ag_run gT (d + 1) 38 [.inr l0, .inl l1] h = f38 (ag_run gT d)  l0 l1 h := by
  show ag_out 1 (ag_run gT d) t38 4000 0 [some (.inr l0), some (.inl l1), none] [] h = _
  rw [ag_out_top, i38]
def f39_63 (call : Nat → List ag_V → ag_H → ag_R)  (l0 : Option Nat) (h : ag_H) : ag_R :=
  ag_at h l0 7 fun a1 _ => ag_bI (call 50 [.inr (some a1), .inl (ag_lit8 110)] h) fun x3 h2 =>
  ag_isC x3 (some (.inl (some (.inl x3)), h2))
/-- NameSpaces$Server.walkName(IIC)C -/
def f39 (call : Nat → List ag_V → ag_H → ag_R)  (l0 : Option Nat) (l1 : Int32) (l2 : Int32) (l3 : Int32) (h : ag_H) : ag_R :=
  ag_at h l0 7 fun a1 _ => ag_bV (call 47 [.inr (some a1), .inl (ag_lit8 110), .inl l1] h) fun h2 =>
  ag_gR h2 l0 7 0 fun x3 =>
  ag_at h2 x3 1 fun a4 _ => ag_bV (call 9 [.inr (some a4), .inl l2, .inl (ag_lit 4)] h2) fun h5 =>
  ag_gR h5 l0 7 0 fun x6 =>
  ag_at h5 x6 1 fun a7 _ => ag_bV (call 9 [.inr (some a7), .inl (ag_lit 1), .inl (ag_lit 2)] h5) fun h8 =>
  ag_gR h8 l0 7 0 fun x9 =>
  ag_at h8 x9 1 fun a10 _ => ag_bV (call 9 [.inr (some a10), .inl (ag_lit 1), .inl (ag_lit 2)] h8) fun h11 =>
  ag_gR h11 l0 7 0 fun x12 =>
  ag_at h11 x12 1 fun a13 _ => ag_bV (call 9 [.inr (some a13), .inl l3, .inl (ag_lit 1)] h11) fun h14 =>
  ag_at h14 l0 7 fun a15 _ => ag_bR (call 51 [.inr (some a15), .inl l1] h14) fun x17 h16 =>
  if x17 = none then
    f39_63 call l0 h16
  else
    ag_gI h16 x17 9 7 fun x18 =>
    if x18 = (ag_lit 0) then
      ag_gI h16 x17 9 3 fun x19 =>
      if x19 = (ag_lit 0) then
        ag_at h16 l0 7 fun a31 _ => ag_bI (call 50 [.inr (some a31), .inl (ag_lit8 100)] h16) fun x33 h32 =>
        ag_isC x33 (some (.inl (some (.inl x33)), h32))
      else
        ag_at h16 l0 7 fun a20 _ => ag_bR (call 53 [.inr (some a20), .inr x17, .inl l3] h16) fun x22 h21 =>
        if x22 = none then
          ag_at h21 l0 7 fun a28 _ => ag_bI (call 50 [.inr (some a28), .inl (ag_lit8 110)] h21) fun x30 h29 =>
          ag_isC x30 (some (.inl (some (.inl x30)), h29))
        else
          ag_at h21 l0 7 fun a23 _ => ag_bV (call 52 [.inr (some a23), .inl l2, .inr x22] h21) fun h24 =>
          ag_at h24 l0 7 fun a25 _ => ag_bI (call 49 [.inr (some a25), .inl (ag_lit8 110), .inr x22] h24) fun x27 h26 =>
          ag_isC x27 (some (.inl (some (.inl x27)), h26))
    else
      f39_63 call l0 h16
set_option maxRecDepth 100000 in
set_option maxHeartbeats 4000000 in
theorem i39 (call : Nat → List ag_V → ag_H → ag_R) (B : ag_K4) (l0 : Option Nat) (l1 : Int32) (l2 : Int32) (l3 : Int32) (h : ag_H) : ag_in 3 call B t39 0 [some (.inr l0), some (.inl l1), some (.inl l2), some (.inl l3), none, none] [] h = f39 call  l0 l1 l2 l3 h := by
  rfl
set_option maxRecDepth 100000 in
set_option maxHeartbeats 4000000 in
theorem r39 (d : Nat) (l0 : Option Nat) (l1 : Int32) (l2 : Int32) (l3 : Int32) (h : ag_H) : ag_run gT (d + 1) 39 [.inr l0, .inl l1, .inl l2, .inl l3] h = f39 (ag_run gT d)  l0 l1 l2 l3 h := by
  show ag_out 3 (ag_run gT d) t39 4000 0 [some (.inr l0), some (.inl l1), some (.inl l2), some (.inl l3), none, none] [] h = _
  rw [ag_out_top, i39]
def f40_58 (call : Nat → List ag_V → ag_H → ag_R)  (l0 : Option Nat) (l3 : Option Nat) (h : ag_H) : ag_R :=
  ag_at h l0 7 fun a1 _ => ag_bI (call 49 [.inr (some a1), .inl (ag_lit8 112), .inr l3] h) fun x3 h2 =>
  ag_isC x3 (some (.inl (some (.inl x3)), h2))
def f40_33 (call : Nat → List ag_V → ag_H → ag_R)  (l0 : Option Nat) (h : ag_H) : ag_R :=
  ag_at h l0 7 fun a1 _ => ag_bI (call 50 [.inr (some a1), .inl (ag_lit8 110)] h) fun x3 h2 =>
  ag_isC x3 (some (.inl (some (.inl x3)), h2))
/-- NameSpaces$Server.openFile(II)C -/
def f40 (call : Nat → List ag_V → ag_H → ag_R)  (l0 : Option Nat) (l1 : Int32) (l2 : Int32) (h : ag_H) : ag_R :=
  ag_at h l0 7 fun a1 _ => ag_bV (call 47 [.inr (some a1), .inl (ag_lit8 112), .inl l1] h) fun h2 =>
  ag_gR h2 l0 7 0 fun x3 =>
  ag_at h2 x3 1 fun a4 _ => ag_bV (call 9 [.inr (some a4), .inl l2, .inl (ag_lit 1)] h2) fun h5 =>
  ag_at h5 l0 7 fun a6 _ => ag_bR (call 51 [.inr (some a6), .inl l1] h5) fun x8 h7 =>
  if x8 = none then
    f40_33 call l0 h7
  else
    ag_gI h7 x8 9 7 fun x9 =>
    if x9 = (ag_lit 0) then
      ag_gI h7 x8 9 3 fun x10 =>
      if x10 = (ag_lit 0) then
        f40_58 call l0 x8 h7
      else
        if l2 = (ag_lit 0) then
          f40_58 call l0 x8 h7
        else
          ag_at h7 l0 7 fun a11 _ => ag_bI (call 50 [.inr (some a11), .inl (ag_lit8 112)] h7) fun x13 h12 =>
          ag_isC x13 (some (.inl (some (.inl x13)), h12))
    else
      f40_33 call l0 h7
set_option maxRecDepth 100000 in
set_option maxHeartbeats 4000000 in
theorem i40 (call : Nat → List ag_V → ag_H → ag_R) (B : ag_K4) (l0 : Option Nat) (l1 : Int32) (l2 : Int32) (h : ag_H) : ag_in 3 call B t40 0 [some (.inr l0), some (.inl l1), some (.inl l2), none] [] h = f40 call  l0 l1 l2 h := by
  rfl
set_option maxRecDepth 100000 in
set_option maxHeartbeats 4000000 in
theorem r40 (d : Nat) (l0 : Option Nat) (l1 : Int32) (l2 : Int32) (h : ag_H) : ag_run gT (d + 1) 40 [.inr l0, .inl l1, .inl l2] h = f40 (ag_run gT d)  l0 l1 l2 h := by
  show ag_out 3 (ag_run gT d) t40 4000 0 [some (.inr l0), some (.inl l1), some (.inl l2), none] [] h = _
  rw [ag_out_top, i40]
def f41_62 (call : Nat → List ag_V → ag_H → ag_R)  (l0 : Option Nat) (h : ag_H) : ag_R :=
  ag_at h l0 7 fun a1 _ => ag_bI (call 50 [.inr (some a1), .inl (ag_lit8 110)] h) fun x3 h2 =>
  ag_isC x3 (some (.inl (some (.inl x3)), h2))
def f41_38 (call : Nat → List ag_V → ag_H → ag_R)  (l0 : Option Nat) (l1 : Int32) (l2 : Int32) (l3 : Int32) (s0 : Option Nat) (s1 : Int32) (h : ag_H) : ag_R :=
  ag_at h s0 1 fun a1 _ => ag_bV (call 9 [.inr (some a1), .inl s1, .inl (ag_lit 1)] h) fun h2 =>
  ag_at h2 l0 7 fun a3 _ => ag_bR (call 51 [.inr (some a3), .inl l1] h2) fun x5 h4 =>
  if x5 = none then
    f41_62 call l0 h4
  else
    ag_gI h4 x5 9 7 fun x6 =>
    if x6 = (ag_lit 0) then
      ag_gI h4 x5 9 3 fun x7 =>
      if x7 = (ag_lit 0) then
        ag_at h4 l0 7 fun a35 _ => ag_bI (call 50 [.inr (some a35), .inl (ag_lit8 100)] h4) fun x37 h36 =>
        ag_isC x37 (some (.inl (some (.inl x37)), h36))
      else
        ag_at h4 l0 7 fun a8 _ => ag_bR (call 53 [.inr (some a8), .inr x5, .inl l2] h4) fun x10 h9 =>
        if x10 = none then
          ag_gI h9 l0 7 4 fun x11 =>
          if x11 < (ag_lit8 20) then
            ag_nw h9 9 fun o12 h13 =>
            ag_gI h13 l0 7 5 fun x14 =>
            ag_gI h13 x5 9 0 fun x15 =>
            ag_nn o12 <| ag_bV (call 60 [.inr o12, .inl x14, .inl x15, .inl l2, .inl l3] h13) fun h16 =>
            ag_gR h16 l0 7 2 fun x17 =>
            ag_gI h16 l0 7 4 fun x18 =>
            ag_oK h16 o12 9 <| ag_xP h16 x17 106 x18 (.inr o12) fun h19 =>
            ag_gI h19 l0 7 4 fun x20 =>
            ag_pF h19 l0 7 4 (.inl (x20 + (ag_lit 1))) fun h21 =>
            ag_gI h21 l0 7 5 fun x22 =>
            ag_pF h21 l0 7 5 (.inl (x22 + (ag_lit 1))) fun h23 =>
            ag_at h23 l0 7 fun a24 _ => ag_bV (call 52 [.inr (some a24), .inl l1, .inr o12] h23) fun h25 =>
            ag_at h25 l0 7 fun a26 _ => ag_bI (call 49 [.inr (some a26), .inl (ag_lit8 114), .inr o12] h25) fun x28 h27 =>
            ag_isC x28 (some (.inl (some (.inl x28)), h27))
          else
            ag_at h9 l0 7 fun a29 _ => ag_bI (call 50 [.inr (some a29), .inl (ag_lit8 102)] h9) fun x31 h30 =>
            ag_isC x31 (some (.inl (some (.inl x31)), h30))
        else
          ag_at h9 l0 7 fun a32 _ => ag_bI (call 50 [.inr (some a32), .inl (ag_lit8 120)] h9) fun x34 h33 =>
          ag_isC x34 (some (.inl (some (.inl x34)), h33))
    else
      f41_62 call l0 h4
/-- NameSpaces$Server.makeFile(ICZ)C -/
def f41 (call : Nat → List ag_V → ag_H → ag_R)  (l0 : Option Nat) (l1 : Int32) (l2 : Int32) (l3 : Int32) (h : ag_H) : ag_R :=
  ag_at h l0 7 fun a1 _ => ag_bV (call 47 [.inr (some a1), .inl (ag_lit8 114), .inl l1] h) fun h2 =>
  ag_gR h2 l0 7 0 fun x3 =>
  ag_at h2 x3 1 fun a4 _ => ag_bV (call 9 [.inr (some a4), .inl (ag_lit 1), .inl (ag_lit 2)] h2) fun h5 =>
  ag_gR h5 l0 7 0 fun x6 =>
  ag_at h5 x6 1 fun a7 _ => ag_bV (call 9 [.inr (some a7), .inl l2, .inl (ag_lit 1)] h5) fun h8 =>
  ag_gR h8 l0 7 0 fun x9 =>
  if l3 = (ag_lit 0) then
    f41_38 call l0 l1 l2 l3 x9 (ag_lit 0) h8
  else
    f41_38 call l0 l1 l2 l3 x9 (ag_lit 1) h8
set_option maxRecDepth 100000 in
set_option maxHeartbeats 4000000 in
theorem i41 (call : Nat → List ag_V → ag_H → ag_R) (B : ag_K4) (l0 : Option Nat) (l1 : Int32) (l2 : Int32) (l3 : Int32) (h : ag_H) : ag_in 3 call B t41 0 [some (.inr l0), some (.inl l1), some (.inl l2), some (.inl l3), none, none] [] h = f41 call  l0 l1 l2 l3 h := by
  rfl
set_option maxRecDepth 100000 in
set_option maxHeartbeats 4000000 in
theorem r41 (d : Nat) (l0 : Option Nat) (l1 : Int32) (l2 : Int32) (l3 : Int32) (h : ag_H) : ag_run gT (d + 1) 41 [.inr l0, .inl l1, .inl l2, .inl l3] h = f41 (ag_run gT d)  l0 l1 l2 l3 h := by
  show ag_out 3 (ag_run gT d) t41 4000 0 [some (.inr l0), some (.inl l1), some (.inl l2), some (.inl l3), none, none] [] h = _
  rw [ag_out_top, i41]
def f42_105 (call : Nat → List ag_V → ag_H → ag_R)   (h : ag_H) : ag_R :=
  ag_isC (ag_lit 0) (some (.inl (some (.inl (ag_lit 0))), h))
def f42_85 (call : Nat → List ag_V → ag_H → ag_R)  (l0 : Option Nat) (l4 : Int32) (s0 : Option Nat) (s1 : Int32) (h : ag_H) : ag_R :=
  ag_at h s0 1 fun a1 _ => ag_bV (call 9 [.inr (some a1), .inl s1, .inl (ag_lit 2)] h) fun h2 =>
  if l4 = (ag_lit (-1)) then
    f42_105 call h2
  else
    ag_gR h2 l0 7 1 fun x3 =>
    ag_at h2 x3 1 fun a4 _ => ag_bV (call 9 [.inr (some a4), .inl l4, .inl (ag_lit 1)] h2) fun h5 =>
    f42_105 call h5
def f42_61 (call : Nat → List ag_V → ag_H → ag_R)  (l0 : Option Nat) (s0 : Int32) (h : ag_H) : ag_R :=
  ag_at h l0 7 fun a1 _ => ag_bI (call 48 [.inr (some a1), .inl (ag_lit8 116)] h) fun x3 h2 =>
  ag_gR h2 l0 7 1 fun x4 =>
  if s0 = (ag_lit (-1)) then
    f42_85 call l0 s0 x4 (ag_lit 0) h2
  else
    f42_85 call l0 s0 x4 (ag_lit 1) h2
def f42_33 (call : Nat → List ag_V → ag_H → ag_R)  (l0 : Option Nat) (h : ag_H) : ag_R :=
  ag_at h l0 7 fun a1 _ => ag_bI (call 50 [.inr (some a1), .inl (ag_lit8 110)] h) fun x3 h2 =>
  ag_isC x3 (some (.inl (some (.inl x3)), h2))
/-- NameSpaces$Server.tellByte(II)C -/
def f42 (call : Nat → List ag_V → ag_H → ag_R)  (l0 : Option Nat) (l1 : Int32) (l2 : Int32) (h : ag_H) : ag_R :=
  ag_at h l0 7 fun a1 _ => ag_bV (call 47 [.inr (some a1), .inl (ag_lit8 116), .inl l1] h) fun h2 =>
  ag_gR h2 l0 7 0 fun x3 =>
  ag_at h2 x3 1 fun a4 _ => ag_bV (call 9 [.inr (some a4), .inl l2, .inl (ag_lit 4)] h2) fun h5 =>
  ag_at h5 l0 7 fun a6 _ => ag_bR (call 51 [.inr (some a6), .inl l1] h5) fun x8 h7 =>
  if x8 = none then
    f42_33 call l0 h7
  else
    ag_gI h7 x8 9 7 fun x9 =>
    if x9 = (ag_lit 0) then
      ag_gI h7 x8 9 3 fun x10 =>
      if x10 = (ag_lit 0) then
        ag_at h7 x8 9 fun a11 _ => ag_bI (call 61 [.inr (some a11), .inl l2] h7) fun x13 h12 =>
        f42_61 call l0 x13 h12
      else
        ag_at h7 l0 7 fun a14 _ => ag_bI (call 54 [.inr (some a14), .inr x8, .inl l2] h7) fun x16 h15 =>
        f42_61 call l0 x16 h15
    else
      f42_33 call l0 h7
set_option maxRecDepth 100000 in
set_option maxHeartbeats 4000000 in
theorem i42 (call : Nat → List ag_V → ag_H → ag_R) (B : ag_K4) (l0 : Option Nat) (l1 : Int32) (l2 : Int32) (h : ag_H) : ag_in 3 call B t42 0 [some (.inr l0), some (.inl l1), some (.inl l2), none, none] [] h = f42 call  l0 l1 l2 h := by
  rfl
set_option maxRecDepth 100000 in
set_option maxHeartbeats 4000000 in
theorem r42 (d : Nat) (l0 : Option Nat) (l1 : Int32) (l2 : Int32) (h : ag_H) : ag_run gT (d + 1) 42 [.inr l0, .inl l1, .inl l2] h = f42 (ag_run gT d)  l0 l1 l2 h := by
  show ag_out 3 (ag_run gT d) t42 4000 0 [some (.inr l0), some (.inl l1), some (.inl l2), none, none] [] h = _
  rw [ag_out_top, i42]
def f43_66 (call : Nat → List ag_V → ag_H → ag_R)  (l0 : Option Nat) (h : ag_H) : ag_R :=
  ag_at h l0 7 fun a1 _ => ag_bI (call 50 [.inr (some a1), .inl (ag_lit8 102)] h) fun x3 h2 =>
  ag_isC x3 (some (.inl (some (.inl x3)), h2))
def f43_45 (call : Nat → List ag_V → ag_H → ag_R)  (l0 : Option Nat) (h : ag_H) : ag_R :=
  ag_at h l0 7 fun a1 _ => ag_bI (call 50 [.inr (some a1), .inl (ag_lit8 110)] h) fun x3 h2 =>
  ag_isC x3 (some (.inl (some (.inl x3)), h2))
/-- NameSpaces$Server.putByte(III)C -/
def f43 (call : Nat → List ag_V → ag_H → ag_R)  (l0 : Option Nat) (l1 : Int32) (l2 : Int32) (l3 : Int32) (h : ag_H) : ag_R :=
  ag_at h l0 7 fun a1 _ => ag_bV (call 47 [.inr (some a1), .inl (ag_lit8 118), .inl l1] h) fun h2 =>
  ag_gR h2 l0 7 0 fun x3 =>
  ag_at h2 x3 1 fun a4 _ => ag_bV (call 9 [.inr (some a4), .inl l2, .inl (ag_lit 4)] h2) fun h5 =>
  ag_gR h5 l0 7 0 fun x6 =>
  ag_at h5 x6 1 fun a7 _ => ag_bV (call 9 [.inr (some a7), .inl l3, .inl (ag_lit 1)] h5) fun h8 =>
  ag_at h8 l0 7 fun a9 _ => ag_bR (call 51 [.inr (some a9), .inl l1] h8) fun x11 h10 =>
  if x11 = none then
    f43_45 call l0 h10
  else
    ag_gI h10 x11 9 7 fun x12 =>
    if x12 = (ag_lit 0) then
      if l2 < (ag_lit 0) then
        f43_66 call l0 h10
      else
        ag_gR h10 x11 9 4 fun x13 =>
        ag_xN h10 x13 100 fun x14 =>
        if l2 < x14 then
          ag_gR h10 x11 9 4 fun x15 =>
          ag_xP h10 x15 100 l2 (.inl l3) fun h16 =>
          ag_gI h16 x11 9 5 fun x17 =>
          ag_bI (call 175 [.inl x17, .inl (l2 + (ag_lit 1))] h16) fun x19 h18 =>
          ag_pF h18 x11 9 5 (.inl x19) fun h20 =>
          ag_gI h20 x11 9 6 fun x21 =>
          ag_pF h20 x11 9 6 (.inl (x21 + (ag_lit 1))) fun h22 =>
          ag_at h22 l0 7 fun a23 _ => ag_bI (call 48 [.inr (some a23), .inl (ag_lit8 118)] h22) fun x25 h24 =>
          ag_gR h24 l0 7 1 fun x26 =>
          ag_gI h24 x11 9 5 fun x27 =>
          ag_at h24 x26 1 fun a28 _ => ag_bV (call 9 [.inr (some a28), .inl x27, .inl (ag_lit 4)] h24) fun h29 =>
          ag_isC (ag_lit 0) (some (.inl (some (.inl (ag_lit 0))), h29))
        else
          f43_66 call l0 h10
    else
      f43_45 call l0 h10
set_option maxRecDepth 100000 in
set_option maxHeartbeats 4000000 in
theorem i43 (call : Nat → List ag_V → ag_H → ag_R) (B : ag_K4) (l0 : Option Nat) (l1 : Int32) (l2 : Int32) (l3 : Int32) (h : ag_H) : ag_in 3 call B t43 0 [some (.inr l0), some (.inl l1), some (.inl l2), some (.inl l3), none] [] h = f43 call  l0 l1 l2 l3 h := by
  rfl
set_option maxRecDepth 100000 in
set_option maxHeartbeats 4000000 in
theorem r43 (d : Nat) (l0 : Option Nat) (l1 : Int32) (l2 : Int32) (l3 : Int32) (h : ag_H) : ag_run gT (d + 1) 43 [.inr l0, .inl l1, .inl l2, .inl l3] h = f43 (ag_run gT d)  l0 l1 l2 l3 h := by
  show ag_out 3 (ag_run gT d) t43 4000 0 [some (.inr l0), some (.inl l1), some (.inl l2), some (.inl l3), none] [] h = _
  rw [ag_out_top, i43]
/-- NameSpaces$Server.clunk(I)V -/
def f44 (call : Nat → List ag_V → ag_H → ag_R)  (l0 : Option Nat) (l1 : Int32) (h : ag_H) : ag_R :=
  ag_at h l0 7 fun a1 _ => ag_bV (call 47 [.inr (some a1), .inl (ag_lit8 120), .inl l1] h) fun h2 =>
  ag_at h2 l0 7 fun a3 _ => ag_bV (call 52 [.inr (some a3), .inl l1, .inr none] h2) fun h4 =>
  ag_at h4 l0 7 fun a5 _ => ag_bI (call 48 [.inr (some a5), .inl (ag_lit8 120)] h4) fun x7 h6 =>
  some (.inl none, h6)
set_option maxRecDepth 100000 in
set_option maxHeartbeats 4000000 in
theorem i44 (call : Nat → List ag_V → ag_H → ag_R) (B : ag_K4) (l0 : Option Nat) (l1 : Int32) (h : ag_H) : ag_in 0 call B t44 0 [some (.inr l0), some (.inl l1)] [] h = f44 call  l0 l1 h := by
  rfl
set_option maxRecDepth 100000 in
set_option maxHeartbeats 4000000 in
theorem r44 (d : Nat) (l0 : Option Nat) (l1 : Int32) (h : ag_H) : ag_run gT (d + 1) 44 [.inr l0, .inl l1] h = f44 (ag_run gT d)  l0 l1 h := by
  show ag_out 0 (ag_run gT d) t44 4000 0 [some (.inr l0), some (.inl l1)] [] h = _
  rw [ag_out_top, i44]
def f45_54 (call : Nat → List ag_V → ag_H → ag_R)  (l0 : Option Nat) (h : ag_H) : ag_R :=
  ag_at h l0 7 fun a1 _ => ag_bI (call 50 [.inr (some a1), .inl (ag_lit8 112)] h) fun x3 h2 =>
  ag_isC x3 (some (.inl (some (.inl x3)), h2))
def f45_30 (call : Nat → List ag_V → ag_H → ag_R)  (l0 : Option Nat) (h : ag_H) : ag_R :=
  ag_at h l0 7 fun a1 _ => ag_bI (call 50 [.inr (some a1), .inl (ag_lit8 110)] h) fun x3 h2 =>
  ag_isC x3 (some (.inl (some (.inl x3)), h2))
/-- NameSpaces$Server.dropFile(I)C -/
def f45 (call : Nat → List ag_V → ag_H → ag_R)  (l0 : Option Nat) (l1 : Int32) (h : ag_H) : ag_R :=
  ag_at h l0 7 fun a1 _ => ag_bV (call 47 [.inr (some a1), .inl (ag_lit8 122), .inl l1] h) fun h2 =>
  ag_at h2 l0 7 fun a3 _ => ag_bR (call 51 [.inr (some a3), .inl l1] h2) fun x5 h4 =>
  ag_at h4 l0 7 fun a6 _ => ag_bV (call 52 [.inr (some a6), .inl l1, .inr none] h4) fun h7 =>
  if x5 = none then
    f45_30 call l0 h7
  else
    ag_gI h7 x5 9 7 fun x8 =>
    if x8 = (ag_lit 0) then
      ag_gI h7 x5 9 0 fun x9 =>
      if x9 = (ag_lit 0) then
        f45_54 call l0 h7
      else
        ag_at h7 l0 7 fun a10 _ => ag_bI (call 54 [.inr (some a10), .inr x5, .inl (ag_lit 0)] h7) fun x12 h11 =>
        if x12 = (ag_lit (-1)) then
          ag_isB (ag_lit 1) <| ag_pF h11 x5 9 7 (.inl (ag_lit 1)) fun h13 =>
          ag_gI h13 x5 9 0 fun x14 =>
          ag_at h13 l0 7 fun a15 _ => ag_bV (call 55 [.inr (some a15), .inl x14] h13) fun h16 =>
          ag_at h16 l0 7 fun a17 _ => ag_bI (call 48 [.inr (some a17), .inl (ag_lit8 122)] h16) fun x19 h18 =>
          ag_isC x19 (some (.inl (some (.inl x19)), h18))
        else
          f45_54 call l0 h11
    else
      f45_30 call l0 h7
set_option maxRecDepth 100000 in
set_option maxHeartbeats 4000000 in
theorem i45 (call : Nat → List ag_V → ag_H → ag_R) (B : ag_K4) (l0 : Option Nat) (l1 : Int32) (h : ag_H) : ag_in 3 call B t45 0 [some (.inr l0), some (.inl l1), none] [] h = f45 call  l0 l1 h := by
  rfl
set_option maxRecDepth 100000 in
set_option maxHeartbeats 4000000 in
theorem r45 (d : Nat) (l0 : Option Nat) (l1 : Int32) (h : ag_H) : ag_run gT (d + 1) 45 [.inr l0, .inl l1] h = f45 (ag_run gT d)  l0 l1 h := by
  show ag_out 3 (ag_run gT d) t45 4000 0 [some (.inr l0), some (.inl l1), none] [] h = _
  rw [ag_out_top, i45]
def f46_24 (call : Nat → List ag_V → ag_H → ag_R)  (l0 : Option Nat) (h : ag_H) : ag_R :=
  ag_at h l0 7 fun a1 _ => ag_bI (call 50 [.inr (some a1), .inl (ag_lit8 110)] h) fun x3 h2 =>
  ag_isC x3 (some (.inl (some (.inl x3)), h2))
/-- NameSpaces$Server.tellFile(I)C -/
def f46 (call : Nat → List ag_V → ag_H → ag_R)  (l0 : Option Nat) (l1 : Int32) (h : ag_H) : ag_R :=
  ag_at h l0 7 fun a1 _ => ag_bV (call 47 [.inr (some a1), .inl (ag_lit8 124), .inl l1] h) fun h2 =>
  ag_at h2 l0 7 fun a3 _ => ag_bR (call 51 [.inr (some a3), .inl l1] h2) fun x5 h4 =>
  if x5 = none then
    f46_24 call l0 h4
  else
    ag_gI h4 x5 9 7 fun x6 =>
    if x6 = (ag_lit 0) then
      ag_at h4 l0 7 fun a7 _ => ag_bI (call 49 [.inr (some a7), .inl (ag_lit8 124), .inr x5] h4) fun x9 h8 =>
      ag_isC x9 (some (.inl (some (.inl x9)), h8))
    else
      f46_24 call l0 h4
set_option maxRecDepth 100000 in
set_option maxHeartbeats 4000000 in
theorem i46 (call : Nat → List ag_V → ag_H → ag_R) (B : ag_K4) (l0 : Option Nat) (l1 : Int32) (h : ag_H) : ag_in 3 call B t46 0 [some (.inr l0), some (.inl l1), none] [] h = f46 call  l0 l1 h := by
  rfl
set_option maxRecDepth 100000 in
set_option maxHeartbeats 4000000 in
theorem r46 (d : Nat) (l0 : Option Nat) (l1 : Int32) (h : ag_H) : ag_run gT (d + 1) 46 [.inr l0, .inl l1] h = f46 (ag_run gT d)  l0 l1 h := by
  show ag_out 3 (ag_run gT d) t46 4000 0 [some (.inr l0), some (.inl l1), none] [] h = _
  rw [ag_out_top, i46]
/-- NameSpaces$Server.ask(II)V -/
def f47 (call : Nat → List ag_V → ag_H → ag_R)  (l0 : Option Nat) (l1 : Int32) (l2 : Int32) (h : ag_H) : ag_R :=
  ag_gR h l0 7 0 fun x1 =>
  ag_at h x1 1 fun a2 _ => ag_bV (call 8 [.inr (some a2), .inl l1] h) fun h3 =>
  ag_gR h3 l0 7 0 fun x4 =>
  ag_at h3 x4 1 fun a5 _ => ag_bV (call 9 [.inr (some a5), .inl l2, .inl (ag_lit 4)] h3) fun h6 =>
  some (.inl none, h6)
set_option maxRecDepth 100000 in
set_option maxHeartbeats 4000000 in
theorem i47 (call : Nat → List ag_V → ag_H → ag_R) (B : ag_K4) (l0 : Option Nat) (l1 : Int32) (l2 : Int32) (h : ag_H) : ag_in 0 call B t47 0 [some (.inr l0), some (.inl l1), some (.inl l2)] [] h = f47 call  l0 l1 l2 h := by
  rfl
set_option maxRecDepth 100000 in
set_option maxHeartbeats 4000000 in
theorem r47 (d : Nat) (l0 : Option Nat) (l1 : Int32) (l2 : Int32) (h : ag_H) : ag_run gT (d + 1) 47 [.inr l0, .inl l1, .inl l2] h = f47 (ag_run gT d)  l0 l1 l2 h := by
  show ag_out 0 (ag_run gT d) t47 4000 0 [some (.inr l0), some (.inl l1), some (.inl l2)] [] h = _
  rw [ag_out_top, i47]
/-- NameSpaces$Server.agree(I)C -/
def f48 (call : Nat → List ag_V → ag_H → ag_R)  (l0 : Option Nat) (l1 : Int32) (h : ag_H) : ag_R :=
  ag_gR h l0 7 1 fun x1 =>
  ag_at h x1 1 fun a2 _ => ag_bV (call 8 [.inr (some a2), .inl (l1 + (ag_lit 1))] h) fun h3 =>
  ag_isC (ag_lit 0) (some (.inl (some (.inl (ag_lit 0))), h3))
set_option maxRecDepth 100000 in
set_option maxHeartbeats 4000000 in
theorem i48 (call : Nat → List ag_V → ag_H → ag_R) (B : ag_K4) (l0 : Option Nat) (l1 : Int32) (h : ag_H) : ag_in 3 call B t48 0 [some (.inr l0), some (.inl l1)] [] h = f48 call  l0 l1 h := by
  rfl
set_option maxRecDepth 100000 in
set_option maxHeartbeats 4000000 in
theorem r48 (d : Nat) (l0 : Option Nat) (l1 : Int32) (h : ag_H) : ag_run gT (d + 1) 48 [.inr l0, .inl l1] h = f48 (ag_run gT d)  l0 l1 h := by
  show ag_out 3 (ag_run gT d) t48 4000 0 [some (.inr l0), some (.inl l1)] [] h = _
  rw [ag_out_top, i48]
def f49_26 (call : Nat → List ag_V → ag_H → ag_R)  (l0 : Option Nat) (l2 : Option Nat) (s0 : Option Nat) (s1 : Int32) (h : ag_H) : ag_R :=
  ag_at h s0 1 fun a1 _ => ag_bV (call 9 [.inr (some a1), .inl s1, .inl (ag_lit 1)] h) fun h2 =>
  ag_gR h2 l0 7 1 fun x3 =>
  ag_gI h2 l2 9 6 fun x4 =>
  ag_at h2 x3 1 fun a5 _ => ag_bV (call 9 [.inr (some a5), .inl x4, .inl (ag_lit 4)] h2) fun h6 =>
  ag_gR h6 l0 7 1 fun x7 =>
  ag_gI h6 l2 9 0 fun x8 =>
  ag_at h6 x7 1 fun a9 _ => ag_bV (call 9 [.inr (some a9), .inl x8, .inl (ag_lit 4)] h6) fun h10 =>
  ag_isC (ag_lit 0) (some (.inl (some (.inl (ag_lit 0))), h10))
/-- NameSpaces$Server.describe(ILNameSpaces$TreeFile;)C -/
def f49 (call : Nat → List ag_V → ag_H → ag_R)  (l0 : Option Nat) (l1 : Int32) (l2 : Option Nat) (h : ag_H) : ag_R :=
  ag_gR h l0 7 1 fun x1 =>
  ag_at h x1 1 fun a2 _ => ag_bV (call 8 [.inr (some a2), .inl (l1 + (ag_lit 1))] h) fun h3 =>
  ag_gR h3 l0 7 1 fun x4 =>
  ag_gI h3 l2 9 3 fun x5 =>
  if x5 = (ag_lit 0) then
    f49_26 call l0 l2 x4 (ag_lit 0) h3
  else
    f49_26 call l0 l2 x4 (ag_lit 1) h3
set_option maxRecDepth 100000 in
set_option maxHeartbeats 4000000 in
theorem i49 (call : Nat → List ag_V → ag_H → ag_R) (B : ag_K4) (l0 : Option Nat) (l1 : Int32) (l2 : Option Nat) (h : ag_H) : ag_in 3 call B t49 0 [some (.inr l0), some (.inl l1), some (.inr l2)] [] h = f49 call  l0 l1 l2 h := by
  rfl
set_option maxRecDepth 100000 in
set_option maxHeartbeats 4000000 in
theorem r49 (d : Nat) (l0 : Option Nat) (l1 : Int32) (l2 : Option Nat) (h : ag_H) : ag_run gT (d + 1) 49 [.inr l0, .inl l1, .inr l2] h = f49 (ag_run gT d)  l0 l1 l2 h := by
  show ag_out 3 (ag_run gT d) t49 4000 0 [some (.inr l0), some (.inl l1), some (.inr l2)] [] h = _
  rw [ag_out_top, i49]
/-- NameSpaces$Server.refuse(C)C -/
def f50 (call : Nat → List ag_V → ag_H → ag_R)  (l0 : Option Nat) (l1 : Int32) (h : ag_H) : ag_R :=
  ag_gR h l0 7 1 fun x1 =>
  ag_at h x1 1 fun a2 _ => ag_bV (call 8 [.inr (some a2), .inl (ag_lit8 107)] h) fun h3 =>
  ag_gR h3 l0 7 1 fun x4 =>
  ag_at h3 x4 1 fun a5 _ => ag_bV (call 9 [.inr (some a5), .inl (ag_lit 1), .inl (ag_lit 2)] h3) fun h6 =>
  ag_gR h6 l0 7 1 fun x7 =>
  ag_at h6 x7 1 fun a8 _ => ag_bV (call 9 [.inr (some a8), .inl l1, .inl (ag_lit 1)] h6) fun h9 =>
  ag_isC l1 (some (.inl (some (.inl l1)), h9))
set_option maxRecDepth 100000 in
set_option maxHeartbeats 4000000 in
theorem i50 (call : Nat → List ag_V → ag_H → ag_R) (B : ag_K4) (l0 : Option Nat) (l1 : Int32) (h : ag_H) : ag_in 3 call B t50 0 [some (.inr l0), some (.inl l1)] [] h = f50 call  l0 l1 h := by
  rfl
set_option maxRecDepth 100000 in
set_option maxHeartbeats 4000000 in
theorem r50 (d : Nat) (l0 : Option Nat) (l1 : Int32) (h : ag_H) : ag_run gT (d + 1) 50 [.inr l0, .inl l1] h = f50 (ag_run gT d)  l0 l1 h := by
  show ag_out 3 (ag_run gT d) t50 4000 0 [some (.inr l0), some (.inl l1)] [] h = _
  rw [ag_out_top, i50]
def f51_21 (call : Nat → List ag_V → ag_H → ag_R)  (s0 : Option Nat) (h : ag_H) : ag_R :=
  some (.inl (some (.inr s0)), h)
def f51_20 (call : Nat → List ag_V → ag_H → ag_R)   (h : ag_H) : ag_R :=
  f51_21 call none h
/-- NameSpaces$Server.fileOf(I)LNameSpaces$TreeFile; -/
def f51 (call : Nat → List ag_V → ag_H → ag_R)  (l0 : Option Nat) (l1 : Int32) (h : ag_H) : ag_R :=
  if l1 < (ag_lit 0) then
    f51_20 call h
  else
    if (ag_lit16 128) ≤ l1 then
      f51_20 call h
    else
      ag_gR h l0 7 3 fun x1 =>
      ag_xR h x1 106 l1 fun x2 =>
      f51_21 call x2 h
set_option maxRecDepth 100000 in
set_option maxHeartbeats 4000000 in
theorem i51 (call : Nat → List ag_V → ag_H → ag_R) (B : ag_K4) (l0 : Option Nat) (l1 : Int32) (h : ag_H) : ag_in 2 call B t51 0 [some (.inr l0), some (.inl l1)] [] h = f51 call  l0 l1 h := by
  rfl
set_option maxRecDepth 100000 in
set_option maxHeartbeats 4000000 in
theorem r51 (d : Nat) (l0 : Option Nat) (l1 : Int32) (h : ag_H) : ag_run gT (d + 1) 51 [.inr l0, .inl l1] h = f51 (ag_run gT d)  l0 l1 h := by
  show ag_out 2 (ag_run gT d) t51 4000 0 [some (.inr l0), some (.inl l1)] [] h = _
  rw [ag_out_top, i51]
def f52_18 (call : Nat → List ag_V → ag_H → ag_R)   (h : ag_H) : ag_R :=
  some (.inl none, h)
/-- NameSpaces$Server.stand(ILNameSpaces$TreeFile;)V -/
def f52 (call : Nat → List ag_V → ag_H → ag_R)  (l0 : Option Nat) (l1 : Int32) (l2 : Option Nat) (h : ag_H) : ag_R :=
  if l1 < (ag_lit 0) then
    f52_18 call h
  else
    if (ag_lit16 128) ≤ l1 then
      f52_18 call h
    else
      ag_gR h l0 7 3 fun x1 =>
      ag_oK h l2 9 <| ag_xP h x1 106 l1 (.inr l2) fun h2 =>
      f52_18 call h2
set_option maxRecDepth 100000 in
set_option maxHeartbeats 4000000 in
theorem i52 (call : Nat → List ag_V → ag_H → ag_R) (B : ag_K4) (l0 : Option Nat) (l1 : Int32) (l2 : Option Nat) (h : ag_H) : ag_in 0 call B t52 0 [some (.inr l0), some (.inl l1), some (.inr l2)] [] h = f52 call  l0 l1 l2 h := by
  rfl
set_option maxRecDepth 100000 in
set_option maxHeartbeats 4000000 in
theorem r52 (d : Nat) (l0 : Option Nat) (l1 : Int32) (l2 : Option Nat) (h : ag_H) : ag_run gT (d + 1) 52 [.inr l0, .inl l1, .inr l2] h = f52 (ag_run gT d)  l0 l1 l2 h := by
  show ag_out 0 (ag_run gT d) t52 4000 0 [some (.inr l0), some (.inl l1), some (.inr l2)] [] h = _
  rw [ag_out_top, i52]
def f53_46 (call : Nat → List ag_V → ag_H → ag_R) (b2 : Option Nat → Option Nat → Int32 → Int32 → ag_H → ag_R) (l0 : Option Nat) (l1 : Option Nat) (l2 : Int32) (l3 : Int32) (h : ag_H) : ag_R :=
  b2 l0 l1 l2 (l3 + ag_lit 1) h
def f53_2 (call : Nat → List ag_V → ag_H → ag_R) (b2 : Option Nat → Option Nat → Int32 → Int32 → ag_H → ag_R) (l0 : Option Nat) (l1 : Option Nat) (l2 : Int32) (l3 : Int32) (h : ag_H) : ag_R :=
  ag_gI h l0 7 4 fun x1 =>
  if x1 ≤ l3 then
    some (.inl (some (.inr none)), h)
  else
    ag_gR h l0 7 2 fun x2 =>
    ag_xR h x2 106 l3 fun x3 =>
    ag_gI h x3 9 1 fun x4 =>
    ag_gI h l1 9 0 fun x5 =>
    if x4 = x5 then
      ag_gR h l0 7 2 fun x6 =>
      ag_xR h x6 106 l3 fun x7 =>
      ag_gI h x7 9 2 fun x8 =>
      if x8 = l2 then
        ag_gR h l0 7 2 fun x9 =>
        ag_xR h x9 106 l3 fun x10 =>
        some (.inl (some (.inr x10)), h)
      else
        f53_46 call b2 l0 l1 l2 l3 h
    else
      f53_46 call b2 l0 l1 l2 l3 h
/-- NameSpaces$Server.fileIn(LNameSpaces$TreeFile;C)LNameSpaces$TreeFile; -/
def f53 (call : Nat → List ag_V → ag_H → ag_R) (b2 : Option Nat → Option Nat → Int32 → Int32 → ag_H → ag_R) (l0 : Option Nat) (l1 : Option Nat) (l2 : Int32) (h : ag_H) : ag_R :=
  f53_2 call b2 l0 l1 l2 (ag_lit 0) h
def g53 (call : Nat → List ag_V → ag_H → ag_R) : Nat → Option Nat → Option Nat → Int32 → Int32 → ag_H → ag_R
  | 0 => fun _ _ _ _ _ => none
  | n + 1 => f53_2 call (g53 call n)
set_option maxRecDepth 100000 in
set_option maxHeartbeats 4000000 in
theorem i53_2 (call : Nat → List ag_V → ag_H → ag_R) (B : ag_K4) (l0 : Option Nat) (l1 : Option Nat) (l2 : Int32) (l3 : Int32) (h : ag_H) : ag_in 2 call B t53 2 [some (.inr l0), some (.inr l1), some (.inl l2), some (.inl l3)] [] h = f53_2 call (fun (l0 : Option Nat) (l1 : Option Nat) (l2 : Int32) (l3 : Int32) (h : ag_H) => B 2 [some (.inr l0), some (.inr l1), some (.inl l2), some (.inl l3)] [] h) l0 l1 l2 l3 h := by
  rfl
set_option maxRecDepth 100000 in
set_option maxHeartbeats 4000000 in
theorem i53 (call : Nat → List ag_V → ag_H → ag_R) (B : ag_K4) (l0 : Option Nat) (l1 : Option Nat) (l2 : Int32) (h : ag_H) : ag_in 2 call B t53 0 [some (.inr l0), some (.inr l1), some (.inl l2), none] [] h = f53 call (fun (l0 : Option Nat) (l1 : Option Nat) (l2 : Int32) (l3 : Int32) (h : ag_H) => B 2 [some (.inr l0), some (.inr l1), some (.inl l2), some (.inl l3)] [] h) l0 l1 l2 h := by
  rfl
set_option maxRecDepth 100000 in
set_option maxHeartbeats 4000000 in
theorem o53 (call : Nat → List ag_V → ag_H → ag_R) : ∀ n : Nat, (fun (l0 : Option Nat) (l1 : Option Nat) (l2 : Int32) (l3 : Int32) (h : ag_H) => (ag_out 2 call t53 n) 2 [some (.inr l0), some (.inr l1), some (.inl l2), some (.inl l3)] [] h) = g53 call n := by
  intro n
  induction n with
  | zero => rfl
  | succ n ih =>
    funext l0 l1 l2 l3 h
    show ag_in 2 call (ag_out 2 call t53 n) t53 2 [some (.inr l0), some (.inr l1), some (.inl l2), some (.inl l3)] [] h = f53_2 call (g53 call n) l0 l1 l2 l3 h
    rw [i53_2, ih]
set_option maxRecDepth 100000 in
set_option maxHeartbeats 4000000 in
theorem r53 (d : Nat) (l0 : Option Nat) (l1 : Option Nat) (l2 : Int32) (h : ag_H) : ag_run gT (d + 1) 53 [.inr l0, .inr l1, .inl l2] h = f53 (ag_run gT d) (g53 (ag_run gT d) 3999) l0 l1 l2 h := by
  show ag_out 2 (ag_run gT d) t53 4000 0 [some (.inr l0), some (.inr l1), some (.inl l2), none] [] h = _
  rw [ag_out_top, i53, o53]
def f54_50 (call : Nat → List ag_V → ag_H → ag_R) (b5 : Option Nat → Option Nat → Int32 → Int32 → Int32 → ag_H → ag_R) (l0 : Option Nat) (l1 : Option Nat) (l2 : Int32) (l3 : Int32) (l4 : Int32) (h : ag_H) : ag_R :=
  b5 l0 l1 l2 l3 (l4 + ag_lit 1) h
def f54_5 (call : Nat → List ag_V → ag_H → ag_R) (b5 : Option Nat → Option Nat → Int32 → Int32 → Int32 → ag_H → ag_R) (l0 : Option Nat) (l1 : Option Nat) (l2 : Int32) (l3 : Int32) (l4 : Int32) (h : ag_H) : ag_R :=
  ag_gI h l0 7 4 fun x1 =>
  if x1 ≤ l4 then
    some (.inl (some (.inl (ag_lit (-1)))), h)
  else
    ag_gR h l0 7 2 fun x2 =>
    ag_xR h x2 106 l4 fun x3 =>
    ag_gI h x3 9 1 fun x4 =>
    ag_gI h l1 9 0 fun x5 =>
    if x4 = x5 then
      if l3 = l2 then
        ag_gR h l0 7 2 fun x6 =>
        ag_xR h x6 106 l4 fun x7 =>
        ag_gI h x7 9 2 fun x8 =>
        some (.inl (some (.inl x8)), h)
      else
        f54_50 call b5 l0 l1 l2 (l3 + ag_lit 1) l4 h
    else
      f54_50 call b5 l0 l1 l2 l3 l4 h
/-- NameSpaces$Server.letterIn(LNameSpaces$TreeFile;I)I -/
def f54 (call : Nat → List ag_V → ag_H → ag_R) (b5 : Option Nat → Option Nat → Int32 → Int32 → Int32 → ag_H → ag_R) (l0 : Option Nat) (l1 : Option Nat) (l2 : Int32) (h : ag_H) : ag_R :=
  f54_5 call b5 l0 l1 l2 (ag_lit 0) (ag_lit 0) h
def g54 (call : Nat → List ag_V → ag_H → ag_R) : Nat → Option Nat → Option Nat → Int32 → Int32 → Int32 → ag_H → ag_R
  | 0 => fun _ _ _ _ _ _ => none
  | n + 1 => f54_5 call (g54 call n)
set_option maxRecDepth 100000 in
set_option maxHeartbeats 4000000 in
theorem i54_5 (call : Nat → List ag_V → ag_H → ag_R) (B : ag_K4) (l0 : Option Nat) (l1 : Option Nat) (l2 : Int32) (l3 : Int32) (l4 : Int32) (h : ag_H) : ag_in 1 call B t54 5 [some (.inr l0), some (.inr l1), some (.inl l2), some (.inl l3), some (.inl l4)] [] h = f54_5 call (fun (l0 : Option Nat) (l1 : Option Nat) (l2 : Int32) (l3 : Int32) (l4 : Int32) (h : ag_H) => B 5 [some (.inr l0), some (.inr l1), some (.inl l2), some (.inl l3), some (.inl l4)] [] h) l0 l1 l2 l3 l4 h := by
  rfl
set_option maxRecDepth 100000 in
set_option maxHeartbeats 4000000 in
theorem i54 (call : Nat → List ag_V → ag_H → ag_R) (B : ag_K4) (l0 : Option Nat) (l1 : Option Nat) (l2 : Int32) (h : ag_H) : ag_in 1 call B t54 0 [some (.inr l0), some (.inr l1), some (.inl l2), none, none] [] h = f54 call (fun (l0 : Option Nat) (l1 : Option Nat) (l2 : Int32) (l3 : Int32) (l4 : Int32) (h : ag_H) => B 5 [some (.inr l0), some (.inr l1), some (.inl l2), some (.inl l3), some (.inl l4)] [] h) l0 l1 l2 h := by
  rfl
set_option maxRecDepth 100000 in
set_option maxHeartbeats 4000000 in
theorem o54 (call : Nat → List ag_V → ag_H → ag_R) : ∀ n : Nat, (fun (l0 : Option Nat) (l1 : Option Nat) (l2 : Int32) (l3 : Int32) (l4 : Int32) (h : ag_H) => (ag_out 1 call t54 n) 5 [some (.inr l0), some (.inr l1), some (.inl l2), some (.inl l3), some (.inl l4)] [] h) = g54 call n := by
  intro n
  induction n with
  | zero => rfl
  | succ n ih =>
    funext l0 l1 l2 l3 l4 h
    show ag_in 1 call (ag_out 1 call t54 n) t54 5 [some (.inr l0), some (.inr l1), some (.inl l2), some (.inl l3), some (.inl l4)] [] h = f54_5 call (g54 call n) l0 l1 l2 l3 l4 h
    rw [i54_5, ih]
set_option maxRecDepth 100000 in
set_option maxHeartbeats 4000000 in
theorem r54 (d : Nat) (l0 : Option Nat) (l1 : Option Nat) (l2 : Int32) (h : ag_H) : ag_run gT (d + 1) 54 [.inr l0, .inr l1, .inl l2] h = f54 (ag_run gT d) (g54 (ag_run gT d) 3999) l0 l1 l2 h := by
  show ag_out 1 (ag_run gT d) t54 4000 0 [some (.inr l0), some (.inr l1), some (.inl l2), none, none] [] h = _
  rw [ag_out_top, i54, o54]
def f55_40 (call : Nat → List ag_V → ag_H → ag_R) (b4 : Option Nat → Int32 → Int32 → Int32 → ag_H → ag_R) (l0 : Option Nat) (l1 : Int32) (l2 : Int32) (l3 : Int32) (h : ag_H) : ag_R :=
  b4 l0 l1 l2 (l3 + ag_lit 1) h
def f55_4 (call : Nat → List ag_V → ag_H → ag_R) (b4 : Option Nat → Int32 → Int32 → Int32 → ag_H → ag_R) (l0 : Option Nat) (l1 : Int32) (l2 : Int32) (l3 : Int32) (h : ag_H) : ag_R :=
  ag_gI h l0 7 4 fun x1 =>
  if x1 ≤ l3 then
    ag_pF h l0 7 4 (.inl l2) fun h2 =>
    some (.inl none, h2)
  else
    ag_gR h l0 7 2 fun x3 =>
    ag_xR h x3 106 l3 fun x4 =>
    ag_gI h x4 9 0 fun x5 =>
    if x5 = l1 then
      f55_40 call b4 l0 l1 l2 l3 h
    else
      ag_gR h l0 7 2 fun x6 =>
      ag_gR h l0 7 2 fun x7 =>
      ag_xR h x7 106 l3 fun x8 =>
      ag_oK h x8 9 <| ag_xP h x6 106 l2 (.inr x8) fun h9 =>
      f55_40 call b4 l0 l1 (l2 + ag_lit 1) l3 h9
/-- NameSpaces$Server.forget(I)V -/
def f55 (call : Nat → List ag_V → ag_H → ag_R) (b4 : Option Nat → Int32 → Int32 → Int32 → ag_H → ag_R) (l0 : Option Nat) (l1 : Int32) (h : ag_H) : ag_R :=
  f55_4 call b4 l0 l1 (ag_lit 0) (ag_lit 0) h
def g55 (call : Nat → List ag_V → ag_H → ag_R) : Nat → Option Nat → Int32 → Int32 → Int32 → ag_H → ag_R
  | 0 => fun _ _ _ _ _ => none
  | n + 1 => f55_4 call (g55 call n)
set_option maxRecDepth 100000 in
set_option maxHeartbeats 4000000 in
theorem i55_4 (call : Nat → List ag_V → ag_H → ag_R) (B : ag_K4) (l0 : Option Nat) (l1 : Int32) (l2 : Int32) (l3 : Int32) (h : ag_H) : ag_in 0 call B t55 4 [some (.inr l0), some (.inl l1), some (.inl l2), some (.inl l3)] [] h = f55_4 call (fun (l0 : Option Nat) (l1 : Int32) (l2 : Int32) (l3 : Int32) (h : ag_H) => B 4 [some (.inr l0), some (.inl l1), some (.inl l2), some (.inl l3)] [] h) l0 l1 l2 l3 h := by
  rfl
set_option maxRecDepth 100000 in
set_option maxHeartbeats 4000000 in
theorem i55 (call : Nat → List ag_V → ag_H → ag_R) (B : ag_K4) (l0 : Option Nat) (l1 : Int32) (h : ag_H) : ag_in 0 call B t55 0 [some (.inr l0), some (.inl l1), none, none] [] h = f55 call (fun (l0 : Option Nat) (l1 : Int32) (l2 : Int32) (l3 : Int32) (h : ag_H) => B 4 [some (.inr l0), some (.inl l1), some (.inl l2), some (.inl l3)] [] h) l0 l1 h := by
  rfl
set_option maxRecDepth 100000 in
set_option maxHeartbeats 4000000 in
theorem o55 (call : Nat → List ag_V → ag_H → ag_R) : ∀ n : Nat, (fun (l0 : Option Nat) (l1 : Int32) (l2 : Int32) (l3 : Int32) (h : ag_H) => (ag_out 0 call t55 n) 4 [some (.inr l0), some (.inl l1), some (.inl l2), some (.inl l3)] [] h) = g55 call n := by
  intro n
  induction n with
  | zero => rfl
  | succ n ih =>
    funext l0 l1 l2 l3 h
    show ag_in 0 call (ag_out 0 call t55 n) t55 4 [some (.inr l0), some (.inl l1), some (.inl l2), some (.inl l3)] [] h = f55_4 call (g55 call n) l0 l1 l2 l3 h
    rw [i55_4, ih]
set_option maxRecDepth 100000 in
set_option maxHeartbeats 4000000 in
theorem r55 (d : Nat) (l0 : Option Nat) (l1 : Int32) (h : ag_H) : ag_run gT (d + 1) 55 [.inr l0, .inl l1] h = f55 (ag_run gT d) (g55 (ag_run gT d) 3999) l0 l1 h := by
  show ag_out 0 (ag_run gT d) t55 4000 0 [some (.inr l0), some (.inl l1), none, none] [] h = _
  rw [ag_out_top, i55, o55]
/-- NameSpaces$Text.<init>()V -/
def f56 (call : Nat → List ag_V → ag_H → ag_R)  (l0 : Option Nat) (h : ag_H) : ag_R :=
  ag_nn l0 <|
  ag_na h (ag_lit8 24) 101 (.inl 0) fun o1 h2 =>
  ag_pF h2 l0 8 0 (.inr o1) fun h3 =>
  some (.inl none, h3)
set_option maxRecDepth 100000 in
set_option maxHeartbeats 4000000 in
theorem i56 (call : Nat → List ag_V → ag_H → ag_R) (B : ag_K4) (l0 : Option Nat) (h : ag_H) : ag_in 0 call B t56 0 [some (.inr l0)] [] h = f56 call  l0 h := by
  rfl
set_option maxRecDepth 100000 in
set_option maxHeartbeats 4000000 in
theorem r56 (d : Nat) (l0 : Option Nat) (h : ag_H) : ag_run gT (d + 1) 56 [.inr l0] h = f56 (ag_run gT d)  l0 h := by
  show ag_out 0 (ag_run gT d) t56 4000 0 [some (.inr l0)] [] h = _
  rw [ag_out_top, i56]
/-- NameSpaces$Text.append(C)Z -/
def f57 (call : Nat → List ag_V → ag_H → ag_R)  (l0 : Option Nat) (l1 : Int32) (h : ag_H) : ag_R :=
  ag_gI h l0 8 1 fun x1 =>
  if x1 < (ag_lit8 24) then
    ag_gR h l0 8 0 fun x2 =>
    ag_gI h l0 8 1 fun x3 =>
    ag_isC l1 <| ag_xP h x2 101 x3 (.inl l1) fun h4 =>
    ag_gI h4 l0 8 1 fun x5 =>
    ag_pF h4 l0 8 1 (.inl (x5 + (ag_lit 1))) fun h6 =>
    ag_isB (ag_lit 1) (some (.inl (some (.inl (ag_lit 1))), h6))
  else
    ag_isB (ag_lit 0) (some (.inl (some (.inl (ag_lit 0))), h))
set_option maxRecDepth 100000 in
set_option maxHeartbeats 4000000 in
theorem i57 (call : Nat → List ag_V → ag_H → ag_R) (B : ag_K4) (l0 : Option Nat) (l1 : Int32) (h : ag_H) : ag_in 4 call B t57 0 [some (.inr l0), some (.inl l1)] [] h = f57 call  l0 l1 h := by
  rfl
set_option maxRecDepth 100000 in
set_option maxHeartbeats 4000000 in
theorem r57 (d : Nat) (l0 : Option Nat) (l1 : Int32) (h : ag_H) : ag_run gT (d + 1) 57 [.inr l0, .inl l1] h = f57 (ag_run gT d)  l0 l1 h := by
  show ag_out 4 (ag_run gT d) t57 4000 0 [some (.inr l0), some (.inl l1)] [] h = _
  rw [ag_out_top, i57]
def f58_28 (call : Nat → List ag_V → ag_H → ag_R)  (s0 : Int32) (h : ag_H) : ag_R :=
  ag_isC s0 (some (.inl (some (.inl s0)), h))
def f58_27 (call : Nat → List ag_V → ag_H → ag_R)   (h : ag_H) : ag_R :=
  f58_28 call (ag_lit 0) h
/-- NameSpaces$Text.character(I)C -/
def f58 (call : Nat → List ag_V → ag_H → ag_R)  (l0 : Option Nat) (l1 : Int32) (h : ag_H) : ag_R :=
  if l1 < (ag_lit 0) then
    f58_27 call h
  else
    ag_gI h l0 8 1 fun x1 =>
    if x1 ≤ l1 then
      f58_27 call h
    else
      if (ag_lit8 24) ≤ l1 then
        f58_27 call h
      else
        ag_gR h l0 8 0 fun x2 =>
        ag_xI h x2 101 l1 fun x3 =>
        f58_28 call x3 h
set_option maxRecDepth 100000 in
set_option maxHeartbeats 4000000 in
theorem i58 (call : Nat → List ag_V → ag_H → ag_R) (B : ag_K4) (l0 : Option Nat) (l1 : Int32) (h : ag_H) : ag_in 3 call B t58 0 [some (.inr l0), some (.inl l1)] [] h = f58 call  l0 l1 h := by
  rfl
set_option maxRecDepth 100000 in
set_option maxHeartbeats 4000000 in
theorem r58 (d : Nat) (l0 : Option Nat) (l1 : Int32) (h : ag_H) : ag_run gT (d + 1) 58 [.inr l0, .inl l1] h = f58 (ag_run gT d)  l0 l1 h := by
  show ag_out 3 (ag_run gT d) t58 4000 0 [some (.inr l0), some (.inl l1)] [] h = _
  rw [ag_out_top, i58]
/-- NameSpaces$Text.copyFrom(LNameSpaces$Text;)V -/
def f59 (call : Nat → List ag_V → ag_H → ag_R)  (l0 : Option Nat) (l1 : Option Nat) (h : ag_H) : ag_R :=
  ag_gR h l1 8 0 fun x1 =>
  ag_gR h l0 8 0 fun x2 =>
  ag_cp h x1 (ag_lit 0) x2 (ag_lit 0) (ag_lit8 24) fun h3 =>
  ag_gI h3 l1 8 1 fun x4 =>
  ag_pF h3 l0 8 1 (.inl x4) fun h5 =>
  some (.inl none, h5)
set_option maxRecDepth 100000 in
set_option maxHeartbeats 4000000 in
theorem i59 (call : Nat → List ag_V → ag_H → ag_R) (B : ag_K4) (l0 : Option Nat) (l1 : Option Nat) (h : ag_H) : ag_in 0 call B t59 0 [some (.inr l0), some (.inr l1)] [] h = f59 call  l0 l1 h := by
  rfl
set_option maxRecDepth 100000 in
set_option maxHeartbeats 4000000 in
theorem r59 (d : Nat) (l0 : Option Nat) (l1 : Option Nat) (h : ag_H) : ag_run gT (d + 1) 59 [.inr l0, .inr l1] h = f59 (ag_run gT d)  l0 l1 h := by
  show ag_out 0 (ag_run gT d) t59 4000 0 [some (.inr l0), some (.inr l1)] [] h = _
  rw [ag_out_top, i59]
end
section
def f60_37 (call : Nat → List ag_V → ag_H → ag_R)  (s0 : Option Nat) (s1 : Int32) (h : ag_H) : ag_R :=
  ag_na h s1 100 (.inl 0) fun o1 h2 =>
  ag_pF h2 s0 9 4 (.inr o1) fun h3 =>
  some (.inl none, h3)
/-- NameSpaces$TreeFile.<init>(IICZ)V -/
def f60 (call : Nat → List ag_V → ag_H → ag_R)  (l0 : Option Nat) (l1 : Int32) (l2 : Int32) (l3 : Int32) (l4 : Int32) (h : ag_H) : ag_R :=
  ag_nn l0 <|
  ag_pF h l0 9 0 (.inl l1) fun h1 =>
  ag_pF h1 l0 9 1 (.inl l2) fun h2 =>
  ag_isC l3 <| ag_pF h2 l0 9 2 (.inl l3) fun h3 =>
  ag_isB l4 <| ag_pF h3 l0 9 3 (.inl l4) fun h4 =>
  if l4 = (ag_lit 0) then
    f60_37 call l0 (ag_lit8 8) h4
  else
    f60_37 call l0 (ag_lit 0) h4
set_option maxRecDepth 100000 in
set_option maxHeartbeats 4000000 in
theorem i60 (call : Nat → List ag_V → ag_H → ag_R) (B : ag_K4) (l0 : Option Nat) (l1 : Int32) (l2 : Int32) (l3 : Int32) (l4 : Int32) (h : ag_H) : ag_in 0 call B t60 0 [some (.inr l0), some (.inl l1), some (.inl l2), some (.inl l3), some (.inl l4)] [] h = f60 call  l0 l1 l2 l3 l4 h := by
  rfl
set_option maxRecDepth 100000 in
set_option maxHeartbeats 4000000 in
theorem r60 (d : Nat) (l0 : Option Nat) (l1 : Int32) (l2 : Int32) (l3 : Int32) (l4 : Int32) (h : ag_H) : ag_run gT (d + 1) 60 [.inr l0, .inl l1, .inl l2, .inl l3, .inl l4] h = f60 (ag_run gT d)  l0 l1 l2 l3 l4 h := by
  show ag_out 0 (ag_run gT d) t60 4000 0 [some (.inr l0), some (.inl l1), some (.inl l2), some (.inl l3), some (.inl l4)] [] h = _
  rw [ag_out_top, i60]
def f61_31 (call : Nat → List ag_V → ag_H → ag_R)  (s0 : Int32) (h : ag_H) : ag_R :=
  some (.inl (some (.inl s0)), h)
def f61_30 (call : Nat → List ag_V → ag_H → ag_R)   (h : ag_H) : ag_R :=
  f61_31 call (ag_lit (-1)) h
/-- NameSpaces$TreeFile.byteAtPlace(I)I -/
def f61 (call : Nat → List ag_V → ag_H → ag_R)  (l0 : Option Nat) (l1 : Int32) (h : ag_H) : ag_R :=
  if l1 < (ag_lit 0) then
    f61_30 call h
  else
    ag_gI h l0 9 5 fun x1 =>
    if x1 ≤ l1 then
      f61_30 call h
    else
      ag_gR h l0 9 4 fun x2 =>
      ag_xN h x2 100 fun x3 =>
      if x3 ≤ l1 then
        f61_30 call h
      else
        ag_gR h l0 9 4 fun x4 =>
        ag_xI h x4 100 l1 fun x5 =>
        f61_31 call x5 h
set_option maxRecDepth 100000 in
set_option maxHeartbeats 4000000 in
theorem i61 (call : Nat → List ag_V → ag_H → ag_R) (B : ag_K4) (l0 : Option Nat) (l1 : Int32) (h : ag_H) : ag_in 1 call B t61 0 [some (.inr l0), some (.inl l1)] [] h = f61 call  l0 l1 h := by
  rfl
set_option maxRecDepth 100000 in
set_option maxHeartbeats 4000000 in
theorem r61 (d : Nat) (l0 : Option Nat) (l1 : Int32) (h : ag_H) : ag_run gT (d + 1) 61 [.inr l0, .inl l1] h = f61 (ag_run gT d)  l0 l1 h := by
  show ag_out 1 (ag_run gT d) t61 4000 0 [some (.inr l0), some (.inl l1)] [] h = _
  rw [ag_out_top, i61]
def f62_105 (call : Nat → List ag_V → ag_H → ag_R) (b105 : Option Nat → Int32 → ag_H → ag_R) (l0 : Option Nat) (l1 : Int32) (h : ag_H) : ag_R :=
  if (ag_lit 4) ≤ l1 then
    ag_gR h l0 10 2 fun x1 =>
    ag_xR h x1 105 (ag_lit 0) fun x2 =>
    ag_gR h l0 10 1 fun x3 =>
    ag_xR h x3 104 (ag_lit 0) fun x4 =>
    ag_pF h x2 6 1 (.inr x4) fun h5 =>
    ag_gR h5 l0 10 1 fun x6 =>
    ag_xR h5 x6 104 (ag_lit 0) fun x7 =>
    ag_pF h5 x7 2 2 (.inl (ag_lit 1)) fun h8 =>
    some (.inl none, h8)
  else
    ag_gR h l0 10 1 fun x9 =>
    ag_nw h 2 fun o10 h11 =>
    ag_nn o10 <| ag_bV (call 13 [.inr o10] h11) fun h12 =>
    ag_oK h12 o10 2 <| ag_xP h12 x9 104 l1 (.inr o10) fun h13 =>
    ag_gR h13 l0 10 2 fun x14 =>
    ag_nw h13 6 fun o15 h16 =>
    ag_nn o15 <| ag_bV (call 29 [.inr o15] h16) fun h17 =>
    ag_oK h17 o15 6 <| ag_xP h17 x14 105 l1 (.inr o15) fun h18 =>
    b105 l0 (l1 + ag_lit 1) h18
/-- NameSpaces.<init>()V -/
def f62 (call : Nat → List ag_V → ag_H → ag_R) (b105 : Option Nat → Int32 → ag_H → ag_R) (l0 : Option Nat) (h : ag_H) : ag_R :=
  ag_nn l0 <|
  ag_na h (ag_lit 2) 103 (.inr none) fun o1 h2 =>
  ag_nw h2 7 fun o3 h4 =>
  ag_nn o3 <| ag_bV (call 34 [.inr o3] h4) fun h5 =>
  ag_oK h5 o3 7 <| ag_xP h5 o1 103 (ag_lit 0) (.inr o3) fun h6 =>
  ag_nw h6 7 fun o7 h8 =>
  ag_nn o7 <| ag_bV (call 34 [.inr o7] h8) fun h9 =>
  ag_oK h9 o7 7 <| ag_xP h9 o1 103 (ag_lit 1) (.inr o7) fun h10 =>
  ag_pF h10 l0 10 0 (.inr o1) fun h11 =>
  ag_na h11 (ag_lit 4) 104 (.inr none) fun o12 h13 =>
  ag_pF h13 l0 10 1 (.inr o12) fun h14 =>
  ag_na h14 (ag_lit 4) 105 (.inr none) fun o15 h16 =>
  ag_pF h16 l0 10 2 (.inr o15) fun h17 =>
  ag_nw h17 8 fun o18 h19 =>
  ag_nn o18 <| ag_bV (call 56 [.inr o18] h19) fun h20 =>
  ag_pF h20 l0 10 3 (.inr o18) fun h21 =>
  ag_nw h21 8 fun o22 h23 =>
  ag_nn o22 <| ag_bV (call 56 [.inr o22] h23) fun h24 =>
  ag_pF h24 l0 10 4 (.inr o22) fun h25 =>
  ag_nw h25 4 fun o26 h27 =>
  ag_nn o26 <| ag_bV (call 24 [.inr o26] h27) fun h28 =>
  ag_pF h28 l0 10 5 (.inr o26) fun h29 =>
  ag_nw h29 4 fun o30 h31 =>
  ag_nn o30 <| ag_bV (call 24 [.inr o30] h31) fun h32 =>
  ag_pF h32 l0 10 6 (.inr o30) fun h33 =>
  ag_nw h33 0 fun o34 h35 =>
  ag_nn o34 <| ag_bV (call 0 [.inr o34] h35) fun h36 =>
  ag_pF h36 l0 10 7 (.inr o34) fun h37 =>
  f62_105 call b105 l0 (ag_lit 0) h37
def g62 (call : Nat → List ag_V → ag_H → ag_R) : Nat → Option Nat → Int32 → ag_H → ag_R
  | 0 => fun _ _ _ => none
  | n + 1 => f62_105 call (g62 call n)
set_option maxRecDepth 100000 in
set_option maxHeartbeats 4000000 in
theorem i62_105 (call : Nat → List ag_V → ag_H → ag_R) (B : ag_K4) (l0 : Option Nat) (l1 : Int32) (h : ag_H) : ag_in 0 call B t62 105 [some (.inr l0), some (.inl l1)] [] h = f62_105 call (fun (l0 : Option Nat) (l1 : Int32) (h : ag_H) => B 105 [some (.inr l0), some (.inl l1)] [] h) l0 l1 h := by
  rfl
set_option maxRecDepth 100000 in
set_option maxHeartbeats 4000000 in
theorem i62 (call : Nat → List ag_V → ag_H → ag_R) (B : ag_K4) (l0 : Option Nat) (h : ag_H) : ag_in 0 call B t62 0 [some (.inr l0), none] [] h = f62 call (fun (l0 : Option Nat) (l1 : Int32) (h : ag_H) => B 105 [some (.inr l0), some (.inl l1)] [] h) l0 h := by
  rfl
set_option maxRecDepth 100000 in
set_option maxHeartbeats 4000000 in
theorem o62 (call : Nat → List ag_V → ag_H → ag_R) : ∀ n : Nat, (fun (l0 : Option Nat) (l1 : Int32) (h : ag_H) => (ag_out 0 call t62 n) 105 [some (.inr l0), some (.inl l1)] [] h) = g62 call n := by
  intro n
  induction n with
  | zero => rfl
  | succ n ih =>
    funext l0 l1 h
    show ag_in 0 call (ag_out 0 call t62 n) t62 105 [some (.inr l0), some (.inl l1)] [] h = f62_105 call (g62 call n) l0 l1 h
    rw [i62_105, ih]
set_option maxRecDepth 100000 in
set_option maxHeartbeats 4000000 in
theorem r62 (d : Nat) (l0 : Option Nat) (h : ag_H) : ag_run gT (d + 1) 62 [.inr l0] h = f62 (ag_run gT d) (g62 (ag_run gT d) 3999) l0 h := by
  show ag_out 0 (ag_run gT d) t62 4000 0 [some (.inr l0), none] [] h = _
  rw [ag_out_top, i62, o62]
/-- NameSpaces.type(C)I -/
def f63 (call : Nat → List ag_V → ag_H → ag_R)  (l0 : Option Nat) (l1 : Int32) (h : ag_H) : ag_R :=
  ag_gR h l0 10 3 fun x1 =>
  ag_at h x1 8 fun a2 _ => ag_bI (call 57 [.inr (some a2), .inl l1] h) fun x4 h3 =>
  if x4 = (ag_lit 0) then
    some (.inr 1, ag_thr h3)
  else
    ag_gR h3 l0 10 3 fun x5 =>
    ag_gI h3 x5 8 1 fun x6 =>
    some (.inl (some (.inl x6)), h3)
set_option maxRecDepth 100000 in
set_option maxHeartbeats 4000000 in
theorem i63 (call : Nat → List ag_V → ag_H → ag_R) (B : ag_K4) (l0 : Option Nat) (l1 : Int32) (h : ag_H) : ag_in 1 call B t63 0 [some (.inr l0), some (.inl l1)] [] h = f63 call  l0 l1 h := by
  rfl
set_option maxRecDepth 100000 in
set_option maxHeartbeats 4000000 in
theorem r63 (d : Nat) (l0 : Option Nat) (l1 : Int32) (h : ag_H) : ag_run gT (d + 1) 63 [.inr l0, .inl l1] h = f63 (ag_run gT d)  l0 l1 h := by
  show ag_out 1 (ag_run gT d) t63 4000 0 [some (.inr l0), some (.inl l1)] [] h = _
  rw [ag_out_top, i63]
/-- NameSpaces.keep()I -/
def f64 (call : Nat → List ag_V → ag_H → ag_R)  (l0 : Option Nat) (h : ag_H) : ag_R :=
  ag_gR h l0 10 4 fun x1 =>
  ag_gR h l0 10 3 fun x2 =>
  ag_at h x1 8 fun a3 _ => ag_bV (call 59 [.inr (some a3), .inr x2] h) fun h4 =>
  ag_gR h4 l0 10 3 fun x5 =>
  ag_pF h4 x5 8 1 (.inl (ag_lit 0)) fun h6 =>
  ag_gR h6 l0 10 4 fun x7 =>
  ag_gI h6 x7 8 1 fun x8 =>
  some (.inl (some (.inl x8)), h6)
set_option maxRecDepth 100000 in
set_option maxHeartbeats 4000000 in
theorem i64 (call : Nat → List ag_V → ag_H → ag_R) (B : ag_K4) (l0 : Option Nat) (h : ag_H) : ag_in 1 call B t64 0 [some (.inr l0)] [] h = f64 call  l0 h := by
  rfl
set_option maxRecDepth 100000 in
set_option maxHeartbeats 4000000 in
theorem r64 (d : Nat) (l0 : Option Nat) (h : ag_H) : ag_run gT (d + 1) 64 [.inr l0] h = f64 (ag_run gT d)  l0 h := by
  show ag_out 1 (ag_run gT d) t64 4000 0 [some (.inr l0)] [] h = _
  rw [ag_out_top, i64]
def f65_106 (call : Nat → List ag_V → ag_H → ag_R)  (l2 : Int32) (l4 : Int32) (l5 : Option Nat) (h : ag_H) : ag_R :=
  ag_at h l5 3 fun a1 _ => ag_bV (call 20 [.inr (some a1), .inl l2] h) fun h2 =>
  some (.inl (some (.inl l4)), h2)
def f65_25 (call : Nat → List ag_V → ag_H → ag_R)   (h : ag_H) : ag_R :=
  some (.inr 0, ag_thr h)
/-- NameSpaces.open(II)I -/
def f65 (call : Nat → List ag_V → ag_H → ag_R)  (l0 : Option Nat) (l1 : Int32) (l2 : Int32) (h : ag_H) : ag_R :=
  ag_at h l0 10 fun a1 _ => ag_bR (call 87 [.inr (some a1), .inl l1] h) fun x3 h2 =>
  ag_gR h2 l0 10 5 fun x4 =>
  ag_gI h2 x4 4 2 fun x5 =>
  if x5 = (ag_lit 0) then
    f65_25 call h2
  else
    if l2 < (ag_lit 0) then
      f65_25 call h2
    else
      if l2 ≤ (ag_lit 2) then
        ag_at h2 x3 6 fun a6 _ => ag_bI (call 32 [.inr (some a6)] h2) fun x8 h7 =>
        ag_bR (call 86 [.inr x3, .inl x8] h7) fun x10 h9 =>
        ag_gR h9 x3 6 1 fun x11 =>
        ag_gR h9 l0 10 5 fun x12 =>
        ag_gR h9 l0 10 5 fun x13 =>
        ag_gI h9 x13 4 1 fun x14 =>
        ag_at h9 l0 10 fun a15 _ => ag_bV (call 91 [.inr (some a15), .inr x11, .inr x12, .inl x14] h9) fun h16 =>
        ag_gR h16 x3 6 1 fun x17 =>
        ag_at h16 l0 10 fun a18 _ => ag_bV (call 98 [.inr (some a18), .inr x17, .inr x10] h16) fun h19 =>
        ag_gR h19 x10 3 0 fun x20 =>
        ag_at h19 l0 10 fun a21 _ => ag_bI (call 100 [.inr (some a21), .inr x20, .inl l2] h19) fun x23 h22 =>
        ag_gR h22 x10 3 0 fun x24 =>
        ag_gI h22 x24 0 3 fun x25 =>
        if x25 = (ag_lit 0) then
          ag_bV (call 89 [.inl x23] h22) fun h26 =>
          f65_106 call l2 x8 x10 h26
        else
          f65_106 call l2 x8 x10 h22
      else
        f65_25 call h2
set_option maxRecDepth 100000 in
set_option maxHeartbeats 4000000 in
theorem i65 (call : Nat → List ag_V → ag_H → ag_R) (B : ag_K4) (l0 : Option Nat) (l1 : Int32) (l2 : Int32) (h : ag_H) : ag_in 1 call B t65 0 [some (.inr l0), some (.inl l1), some (.inl l2), none, none, none, none] [] h = f65 call  l0 l1 l2 h := by
  rfl
set_option maxRecDepth 100000 in
set_option maxHeartbeats 4000000 in
theorem r65 (d : Nat) (l0 : Option Nat) (l1 : Int32) (l2 : Int32) (h : ag_H) : ag_run gT (d + 1) 65 [.inr l0, .inl l1, .inl l2] h = f65 (ag_run gT d)  l0 l1 l2 h := by
  show ag_out 1 (ag_run gT d) t65 4000 0 [some (.inr l0), some (.inl l1), some (.inl l2), none, none, none, none] [] h = _
  rw [ag_out_top, i65]
def f66_103 (call : Nat → List ag_V → ag_H → ag_R)  (l4 : Int32) (s0 : Option Nat) (s1 : Int32) (h : ag_H) : ag_R :=
  ag_at h s0 3 fun a1 _ => ag_bV (call 20 [.inr (some a1), .inl s1] h) fun h2 =>
  some (.inl (some (.inl l4)), h2)
/-- NameSpaces.create(IZ)I -/
def f66 (call : Nat → List ag_V → ag_H → ag_R)  (l0 : Option Nat) (l1 : Int32) (l2 : Int32) (h : ag_H) : ag_R :=
  ag_at h l0 10 fun a1 _ => ag_bR (call 87 [.inr (some a1), .inl l1] h) fun x3 h2 =>
  ag_gR h2 l0 10 5 fun x4 =>
  ag_gI h2 x4 4 2 fun x5 =>
  if x5 = (ag_lit 0) then
    some (.inr 0, ag_thr h2)
  else
    ag_at h2 x3 6 fun a6 _ => ag_bI (call 32 [.inr (some a6)] h2) fun x8 h7 =>
    ag_bR (call 86 [.inr x3, .inl x8] h7) fun x10 h9 =>
    ag_gR h9 l0 10 5 fun x11 =>
    ag_gI h9 x11 4 1 fun x12 =>
    if x12 = (ag_lit 0) then
      some (.inr 3, ag_thr h9)
    else
      ag_gR h9 x3 6 1 fun x13 =>
      ag_gR h9 l0 10 5 fun x14 =>
      ag_gR h9 l0 10 5 fun x15 =>
      ag_gI h9 x15 4 1 fun x16 =>
      ag_at h9 l0 10 fun a17 _ => ag_bV (call 91 [.inr (some a17), .inr x13, .inr x14, .inl (x16 - (ag_lit 1))] h9) fun h18 =>
      ag_gR h18 x3 6 1 fun x19 =>
      ag_at h18 l0 10 fun a20 _ => ag_bV (call 101 [.inr (some a20), .inr x19, .inr x10, .inl l2] h18) fun h21 =>
      if l2 = (ag_lit 0) then
        f66_103 call x8 x10 (ag_lit 2) h21
      else
        f66_103 call x8 x10 (ag_lit 0) h21
set_option maxRecDepth 100000 in
set_option maxHeartbeats 4000000 in
theorem i66 (call : Nat → List ag_V → ag_H → ag_R) (B : ag_K4) (l0 : Option Nat) (l1 : Int32) (l2 : Int32) (h : ag_H) : ag_in 1 call B t66 0 [some (.inr l0), some (.inl l1), some (.inl l2), none, none, none] [] h = f66 call  l0 l1 l2 h := by
  rfl
set_option maxRecDepth 100000 in
set_option maxHeartbeats 4000000 in
theorem r66 (d : Nat) (l0 : Option Nat) (l1 : Int32) (l2 : Int32) (h : ag_H) : ag_run gT (d + 1) 66 [.inr l0, .inl l1, .inl l2] h = f66 (ag_run gT d)  l0 l1 l2 h := by
  show ag_out 1 (ag_run gT d) t66 4000 0 [some (.inr l0), some (.inl l1), some (.inl l2), none, none, none] [] h = _
  rw [ag_out_top, i66]
def f67_145 (call : Nat → List ag_V → ag_H → ag_R) (b34 : Option Nat → Option Nat → Int32 → Int32 → Int32 → ag_H → ag_R)  (h : ag_H) : ag_R :=
  some (.inl (some (.inl (ag_lit (-1)))), h)
def f67_122 (call : Nat → List ag_V → ag_H → ag_R) (b34 : Option Nat → Option Nat → Int32 → Int32 → Int32 → ag_H → ag_R) (l3 : Option Nat) (l4 : Int32) (h : ag_H) : ag_R :=
  if l4 = (ag_lit 0) then
    f67_145 call b34 h
  else
    ag_gI h l3 3 2 fun x1 =>
    if x1 = (ag_lit 1) then
      some (.inr 2, ag_thr h)
    else
      f67_145 call b34 h
def f67_89 (call : Nat → List ag_V → ag_H → ag_R) (b34 : Option Nat → Option Nat → Int32 → Int32 → Int32 → ag_H → ag_R) (l0 : Option Nat) (l3 : Option Nat) (l4 : Int32) (l6 : Int32) (s0 : Int32) (h : ag_H) : ag_R :=
  if s0 = (ag_lit (-1)) then
    ag_at h l3 3 fun a1 _ => ag_bI (call 23 [.inr (some a1)] h) fun x3 h2 =>
    b34 l0 l3 l4 x3 (l6 + ag_lit 1) h2
  else
    ag_gI h l3 3 5 fun x4 =>
    ag_pF h l3 3 5 (.inl (x4 + (ag_lit 1))) fun h5 =>
    some (.inl (some (.inl s0)), h5)
def f67_34 (call : Nat → List ag_V → ag_H → ag_R) (b34 : Option Nat → Option Nat → Int32 → Int32 → Int32 → ag_H → ag_R) (l0 : Option Nat) (l3 : Option Nat) (l4 : Int32) (l5 : Int32) (l6 : Int32) (h : ag_H) : ag_R :=
  if l5 = (ag_lit 0) then
    f67_122 call b34 l3 l4 h
  else
    if (ag_lit 3) ≤ l6 then
      f67_122 call b34 l3 l4 h
    else
      ag_at h l3 3 fun a1 _ => ag_bI (call 21 [.inr (some a1)] h) fun x3 h2 =>
      ag_at h2 l0 10 fun a4 _ => ag_bR (call 83 [.inr (some a4), .inl x3] h2) fun x6 h5 =>
      ag_at h5 l3 3 fun a7 _ => ag_bI (call 22 [.inr (some a7)] h5) fun x9 h8 =>
      ag_gI h8 l3 3 5 fun x10 =>
      ag_at h8 x6 7 fun a11 _ => ag_bI (call 42 [.inr (some a11), .inl x9, .inl x10] h8) fun x13 h12 =>
      if x13 = (ag_lit 0) then
        ag_gR h12 x6 7 1 fun x14 =>
        ag_at h12 x14 1 fun a15 _ => ag_bI (call 10 [.inr (some a15), .inl (ag_lit8 9)] h12) fun x17 h16 =>
        f67_89 call b34 l0 l3 x13 l6 x17 h16
      else
        f67_89 call b34 l0 l3 x13 l6 (ag_lit (-1)) h12
/-- NameSpaces.read(II)I -/
def f67 (call : Nat → List ag_V → ag_H → ag_R) (b34 : Option Nat → Option Nat → Int32 → Int32 → Int32 → ag_H → ag_R) (l0 : Option Nat) (l1 : Int32) (l2 : Int32) (h : ag_H) : ag_R :=
  ag_at h l0 10 fun a1 _ => ag_bR (call 85 [.inr (some a1), .inl l1, .inl l2] h) fun x3 h2 =>
  ag_gI h2 x3 3 3 fun x4 =>
  if x4 = (ag_lit 1) then
    some (.inr 3, ag_thr h2)
  else
    f67_34 call b34 l0 x3 (ag_lit 0) (ag_lit 1) (ag_lit 0) h2
def g67 (call : Nat → List ag_V → ag_H → ag_R) : Nat → Option Nat → Option Nat → Int32 → Int32 → Int32 → ag_H → ag_R
  | 0 => fun _ _ _ _ _ _ => none
  | n + 1 => f67_34 call (g67 call n)
set_option maxRecDepth 100000 in
set_option maxHeartbeats 4000000 in
theorem i67_34 (call : Nat → List ag_V → ag_H → ag_R) (B : ag_K4) (l0 : Option Nat) (l3 : Option Nat) (l4 : Int32) (l5 : Int32) (l6 : Int32) (h : ag_H) : ag_in 1 call B t67 34 [some (.inr l0), none, none, some (.inr l3), some (.inl l4), some (.inl l5), some (.inl l6), none, none] [] h = f67_34 call (fun (l0 : Option Nat) (l3 : Option Nat) (l4 : Int32) (l5 : Int32) (l6 : Int32) (h : ag_H) => B 34 [some (.inr l0), none, none, some (.inr l3), some (.inl l4), some (.inl l5), some (.inl l6), none, none] [] h) l0 l3 l4 l5 l6 h := by
  rfl
set_option maxRecDepth 100000 in
set_option maxHeartbeats 4000000 in
theorem i67 (call : Nat → List ag_V → ag_H → ag_R) (B : ag_K4) (l0 : Option Nat) (l1 : Int32) (l2 : Int32) (h : ag_H) : ag_in 1 call B t67 0 [some (.inr l0), some (.inl l1), some (.inl l2), none, none, none, none, none, none] [] h = f67 call (fun (l0 : Option Nat) (l3 : Option Nat) (l4 : Int32) (l5 : Int32) (l6 : Int32) (h : ag_H) => B 34 [some (.inr l0), none, none, some (.inr l3), some (.inl l4), some (.inl l5), some (.inl l6), none, none] [] h) l0 l1 l2 h := by
  rfl
set_option maxRecDepth 100000 in
set_option maxHeartbeats 4000000 in
theorem o67 (call : Nat → List ag_V → ag_H → ag_R) : ∀ n : Nat, (fun (l0 : Option Nat) (l3 : Option Nat) (l4 : Int32) (l5 : Int32) (l6 : Int32) (h : ag_H) => (ag_out 1 call t67 n) 34 [some (.inr l0), none, none, some (.inr l3), some (.inl l4), some (.inl l5), some (.inl l6), none, none] [] h) = g67 call n := by
  intro n
  induction n with
  | zero => rfl
  | succ n ih =>
    funext l0 l3 l4 l5 l6 h
    show ag_in 1 call (ag_out 1 call t67 n) t67 34 [some (.inr l0), none, none, some (.inr l3), some (.inl l4), some (.inl l5), some (.inl l6), none, none] [] h = f67_34 call (g67 call n) l0 l3 l4 l5 l6 h
    rw [i67_34, ih]
set_option maxRecDepth 100000 in
set_option maxHeartbeats 4000000 in
theorem r67 (d : Nat) (l0 : Option Nat) (l1 : Int32) (l2 : Int32) (h : ag_H) : ag_run gT (d + 1) 67 [.inr l0, .inl l1, .inl l2] h = f67 (ag_run gT d) (g67 (ag_run gT d) 3999) l0 l1 l2 h := by
  show ag_out 1 (ag_run gT d) t67 4000 0 [some (.inr l0), some (.inl l1), some (.inl l2), none, none, none, none, none, none] [] h = _
  rw [ag_out_top, i67, o67]
def f68_19 (call : Nat → List ag_V → ag_H → ag_R)   (h : ag_H) : ag_R :=
  some (.inr 0, ag_thr h)
/-- NameSpaces.write(III)I -/
def f68 (call : Nat → List ag_V → ag_H → ag_R)  (l0 : Option Nat) (l1 : Int32) (l2 : Int32) (l3 : Int32) (h : ag_H) : ag_R :=
  ag_at h l0 10 fun a1 _ => ag_bR (call 85 [.inr (some a1), .inl l1, .inl l2] h) fun x3 h2 =>
  if l3 < (ag_lit 0) then
    f68_19 call h2
  else
    if l3 ≤ (ag_lit16 255) then
      ag_gI h2 x3 3 3 fun x4 =>
      if x4 = (ag_lit 0) then
        some (.inr 3, ag_thr h2)
      else
        ag_at h2 x3 3 fun a5 _ => ag_bI (call 21 [.inr (some a5)] h2) fun x7 h6 =>
        ag_at h6 l0 10 fun a8 _ => ag_bR (call 83 [.inr (some a8), .inl x7] h6) fun x10 h9 =>
        ag_at h9 x3 3 fun a11 _ => ag_bI (call 22 [.inr (some a11)] h9) fun x13 h12 =>
        ag_gI h12 x3 3 5 fun x14 =>
        ag_at h12 x10 7 fun a15 _ => ag_bI (call 43 [.inr (some a15), .inl x13, .inl x14, .inl l3] h12) fun x17 h16 =>
        if x17 = (ag_lit8 102) then
          some (.inr 1, ag_thr h16)
        else
          if x17 = (ag_lit 0) then
            ag_gI h16 x3 3 5 fun x18 =>
            ag_pF h16 x3 3 5 (.inl (x18 + (ag_lit 1))) fun h19 =>
            ag_gR h19 x10 7 1 fun x20 =>
            ag_at h19 x20 1 fun a21 _ => ag_bI (call 12 [.inr (some a21), .inl (ag_lit8 7)] h19) fun x23 h22 =>
            some (.inl (some (.inl x23)), h22)
          else
            some (.inr 2, ag_thr h16)
    else
      f68_19 call h2
set_option maxRecDepth 100000 in
set_option maxHeartbeats 4000000 in
theorem i68 (call : Nat → List ag_V → ag_H → ag_R) (B : ag_K4) (l0 : Option Nat) (l1 : Int32) (l2 : Int32) (l3 : Int32) (h : ag_H) : ag_in 1 call B t68 0 [some (.inr l0), some (.inl l1), some (.inl l2), some (.inl l3), none, none, none] [] h = f68 call  l0 l1 l2 l3 h := by
  rfl
set_option maxRecDepth 100000 in
set_option maxHeartbeats 4000000 in
theorem r68 (d : Nat) (l0 : Option Nat) (l1 : Int32) (l2 : Int32) (l3 : Int32) (h : ag_H) : ag_run gT (d + 1) 68 [.inr l0, .inl l1, .inl l2, .inl l3] h = f68 (ag_run gT d)  l0 l1 l2 l3 h := by
  show ag_out 1 (ag_run gT d) t68 4000 0 [some (.inr l0), some (.inl l1), some (.inl l2), some (.inl l3), none, none, none] [] h = _
  rw [ag_out_top, i68]
/-- NameSpaces.close(II)I -/
def f69 (call : Nat → List ag_V → ag_H → ag_R)  (l0 : Option Nat) (l1 : Int32) (l2 : Int32) (h : ag_H) : ag_R :=
  ag_at h l0 10 fun a1 _ => ag_bR (call 84 [.inr (some a1), .inl l1] h) fun x3 h2 =>
  ag_at h2 l0 10 fun a4 _ => ag_bR (call 85 [.inr (some a4), .inl l1, .inl l2] h2) fun x6 h5 =>
  ag_at h5 l0 10 fun a7 _ => ag_bV (call 102 [.inr (some a7), .inr x6] h5) fun h8 =>
  ag_at h8 x3 6 fun a9 _ => ag_bI (call 33 [.inr (some a9)] h8) fun x11 h10 =>
  some (.inl (some (.inl x11)), h10)
set_option maxRecDepth 100000 in
set_option maxHeartbeats 4000000 in
theorem i69 (call : Nat → List ag_V → ag_H → ag_R) (B : ag_K4) (l0 : Option Nat) (l1 : Int32) (l2 : Int32) (h : ag_H) : ag_in 1 call B t69 0 [some (.inr l0), some (.inl l1), some (.inl l2), none] [] h = f69 call  l0 l1 l2 h := by
  rfl
set_option maxRecDepth 100000 in
set_option maxHeartbeats 4000000 in
theorem r69 (d : Nat) (l0 : Option Nat) (l1 : Int32) (l2 : Int32) (h : ag_H) : ag_run gT (d + 1) 69 [.inr l0, .inl l1, .inl l2] h = f69 (ag_run gT d)  l0 l1 l2 h := by
  show ag_out 1 (ag_run gT d) t69 4000 0 [some (.inr l0), some (.inl l1), some (.inl l2), none] [] h = _
  rw [ag_out_top, i69]
/-- NameSpaces.remove(I)I -/
def f70 (call : Nat → List ag_V → ag_H → ag_R)  (l0 : Option Nat) (l1 : Int32) (h : ag_H) : ag_R :=
  ag_at h l0 10 fun a1 _ => ag_bR (call 87 [.inr (some a1), .inl l1] h) fun x3 h2 =>
  ag_gR h2 l0 10 5 fun x4 =>
  ag_gI h2 x4 4 2 fun x5 =>
  if x5 = (ag_lit 0) then
    some (.inr 0, ag_thr h2)
  else
    ag_gR h2 l0 10 5 fun x6 =>
    ag_gI h2 x6 4 1 fun x7 =>
    if x7 = (ag_lit 0) then
      some (.inr 3, ag_thr h2)
    else
      ag_gR h2 x3 6 1 fun x8 =>
      ag_gR h2 l0 10 5 fun x9 =>
      ag_gR h2 l0 10 5 fun x10 =>
      ag_gI h2 x10 4 1 fun x11 =>
      ag_at h2 l0 10 fun a12 _ => ag_bV (call 91 [.inr (some a12), .inr x8, .inr x9, .inl x11] h2) fun h13 =>
      ag_gI h13 l0 10 9 fun x14 =>
      ag_at h13 l0 10 fun a15 _ => ag_bR (call 83 [.inr (some a15), .inl x14] h13) fun x17 h16 =>
      ag_gI h16 l0 10 10 fun x18 =>
      ag_at h16 x17 7 fun a19 _ => ag_bI (call 45 [.inr (some a19), .inl x18] h16) fun x21 h20 =>
      if x21 = (ag_lit 0) then
        ag_gI h20 l0 10 11 fun x22 =>
        some (.inl (some (.inl x22)), h20)
      else
        some (.inr 3, ag_thr h20)
set_option maxRecDepth 100000 in
set_option maxHeartbeats 4000000 in
theorem i70 (call : Nat → List ag_V → ag_H → ag_R) (B : ag_K4) (l0 : Option Nat) (l1 : Int32) (h : ag_H) : ag_in 1 call B t70 0 [some (.inr l0), some (.inl l1), none, none] [] h = f70 call  l0 l1 h := by
  rfl
set_option maxRecDepth 100000 in
set_option maxHeartbeats 4000000 in
theorem r70 (d : Nat) (l0 : Option Nat) (l1 : Int32) (h : ag_H) : ag_run gT (d + 1) 70 [.inr l0, .inl l1] h = f70 (ag_run gT d)  l0 l1 h := by
  show ag_out 1 (ag_run gT d) t70 4000 0 [some (.inr l0), some (.inl l1), none, none] [] h = _
  rw [ag_out_top, i70]
/-- NameSpaces.stat(I)I -/
def f71 (call : Nat → List ag_V → ag_H → ag_R)  (l0 : Option Nat) (l1 : Int32) (h : ag_H) : ag_R :=
  ag_at h l0 10 fun a1 _ => ag_bR (call 87 [.inr (some a1), .inl l1] h) fun x3 h2 =>
  ag_gR h2 l0 10 5 fun x4 =>
  ag_gI h2 x4 4 2 fun x5 =>
  if x5 = (ag_lit 0) then
    some (.inr 0, ag_thr h2)
  else
    ag_gR h2 x3 6 1 fun x6 =>
    ag_gR h2 l0 10 5 fun x7 =>
    ag_gR h2 l0 10 5 fun x8 =>
    ag_gI h2 x8 4 1 fun x9 =>
    ag_at h2 l0 10 fun a10 _ => ag_bV (call 91 [.inr (some a10), .inr x6, .inr x7, .inl x9] h2) fun h11 =>
    ag_gI h11 l0 10 9 fun x12 =>
    ag_at h11 l0 10 fun a13 _ => ag_bR (call 83 [.inr (some a13), .inl x12] h11) fun x15 h14 =>
    ag_gI h14 l0 10 10 fun x16 =>
    ag_at h14 x15 7 fun a17 _ => ag_bI (call 46 [.inr (some a17), .inl x16] h14) fun x19 h18 =>
    ag_gR h18 x15 7 1 fun x20 =>
    ag_at h18 x20 1 fun a21 _ => ag_bI (call 10 [.inr (some a21), .inl (ag_lit8 7)] h18) fun x23 h22 =>
    ag_gR h22 x15 7 1 fun x24 =>
    ag_at h22 x24 1 fun a25 _ => ag_bI (call 12 [.inr (some a25), .inl (ag_lit8 12)] h22) fun x27 h26 =>
    ag_gI h26 l0 10 9 fun x28 =>
    ag_gI h26 l0 10 10 fun x29 =>
    ag_at h26 l0 10 fun a30 _ => ag_bV (call 95 [.inr (some a30), .inl x28, .inl x29] h26) fun h31 =>
    ag_gI h31 l0 10 9 fun x32 =>
    some (.inl (some (.inl ((((ag_lit8 100) * x32) + ((ag_lit 2) * x27)) + x23))), h31)
set_option maxRecDepth 100000 in
set_option maxHeartbeats 4000000 in
theorem i71 (call : Nat → List ag_V → ag_H → ag_R) (B : ag_K4) (l0 : Option Nat) (l1 : Int32) (h : ag_H) : ag_in 1 call B t71 0 [some (.inr l0), some (.inl l1), none, none, none, none] [] h = f71 call  l0 l1 h := by
  rfl
set_option maxRecDepth 100000 in
set_option maxHeartbeats 4000000 in
theorem r71 (d : Nat) (l0 : Option Nat) (l1 : Int32) (h : ag_H) : ag_run gT (d + 1) 71 [.inr l0, .inl l1] h = f71 (ag_run gT d)  l0 l1 h := by
  show ag_out 1 (ag_run gT d) t71 4000 0 [some (.inr l0), some (.inl l1), none, none, none, none] [] h = _
  rw [ag_out_top, i71]
def f72_33 (call : Nat → List ag_V → ag_H → ag_R)   (h : ag_H) : ag_R :=
  some (.inr 0, ag_thr h)
/-- NameSpaces.bind(II)I -/
def f72 (call : Nat → List ag_V → ag_H → ag_R)  (l0 : Option Nat) (l1 : Int32) (l2 : Int32) (h : ag_H) : ag_R :=
  ag_at h l0 10 fun a1 _ => ag_bR (call 87 [.inr (some a1), .inl l1] h) fun x3 h2 =>
  ag_gR h2 l0 10 5 fun x4 =>
  ag_gI h2 x4 4 2 fun x5 =>
  if x5 = (ag_lit 0) then
    f72_33 call h2
  else
    ag_gR h2 l0 10 6 fun x6 =>
    ag_gI h2 x6 4 2 fun x7 =>
    if x7 = (ag_lit 0) then
      f72_33 call h2
    else
      ag_bI (call 81 [.inl l2] h2) fun x9 h8 =>
      if x9 = (ag_lit 0) then
        f72_33 call h8
      else
        ag_gR h8 x3 6 1 fun x10 =>
        ag_gR h8 l0 10 6 fun x11 =>
        ag_gR h8 l0 10 6 fun x12 =>
        ag_gI h8 x12 4 1 fun x13 =>
        ag_at h8 l0 10 fun a14 _ => ag_bV (call 91 [.inr (some a14), .inr x10, .inr x11, .inl x13] h8) fun h15 =>
        ag_gI h15 l0 10 12 fun x16 =>
        if x16 = (ag_lit 0) then
          ag_gI h15 l0 10 9 fun x25 =>
          ag_gI h15 l0 10 10 fun x26 =>
          ag_at h15 l0 10 fun a27 _ => ag_bV (call 95 [.inr (some a27), .inl x25, .inl x26] h15) fun h28 =>
          some (.inr 3, ag_thr h28)
        else
          ag_at h15 l0 10 fun a17 _ => ag_bI (call 97 [.inr (some a17)] h15) fun x19 h18 =>
          ag_gR h18 x3 6 1 fun x20 =>
          ag_gI h18 l0 10 9 fun x21 =>
          ag_at h18 l0 10 fun a22 _ => ag_bI (call 103 [.inr (some a22), .inr x20, .inl x21, .inl x19, .inl l2] h18) fun x24 h23 =>
          some (.inl (some (.inl x24)), h23)
set_option maxRecDepth 100000 in
set_option maxHeartbeats 4000000 in
theorem i72 (call : Nat → List ag_V → ag_H → ag_R) (B : ag_K4) (l0 : Option Nat) (l1 : Int32) (l2 : Int32) (h : ag_H) : ag_in 1 call B t72 0 [some (.inr l0), some (.inl l1), some (.inl l2), none, none] [] h = f72 call  l0 l1 l2 h := by
  rfl
set_option maxRecDepth 100000 in
set_option maxHeartbeats 4000000 in
theorem r72 (d : Nat) (l0 : Option Nat) (l1 : Int32) (l2 : Int32) (h : ag_H) : ag_run gT (d + 1) 72 [.inr l0, .inl l1, .inl l2] h = f72 (ag_run gT d)  l0 l1 l2 h := by
  show ag_out 1 (ag_run gT d) t72 4000 0 [some (.inr l0), some (.inl l1), some (.inl l2), none, none] [] h = _
  rw [ag_out_top, i72]
def f73_31 (call : Nat → List ag_V → ag_H → ag_R)   (h : ag_H) : ag_R :=
  some (.inr 0, ag_thr h)
/-- NameSpaces.mount(III)I -/
def f73 (call : Nat → List ag_V → ag_H → ag_R)  (l0 : Option Nat) (l1 : Int32) (l2 : Int32) (l3 : Int32) (h : ag_H) : ag_R :=
  ag_at h l0 10 fun a1 _ => ag_bR (call 87 [.inr (some a1), .inl l1] h) fun x3 h2 =>
  ag_gR h2 l0 10 5 fun x4 =>
  ag_gI h2 x4 4 2 fun x5 =>
  if x5 = (ag_lit 0) then
    f73_31 call h2
  else
    ag_bI (call 80 [.inl l2] h2) fun x7 h6 =>
    if x7 = (ag_lit 0) then
      f73_31 call h6
    else
      ag_bI (call 81 [.inl l3] h6) fun x9 h8 =>
      if x9 = (ag_lit 0) then
        f73_31 call h8
      else
        ag_at h8 l0 10 fun a10 _ => ag_bR (call 83 [.inr (some a10), .inl l2] h8) fun x12 h11 =>
        ag_at h11 x12 7 fun a13 _ => ag_bI (call 35 [.inr (some a13)] h11) fun x15 h14 =>
        ag_at h14 x12 7 fun a16 _ => ag_bV (call 37 [.inr (some a16), .inl x15] h14) fun h17 =>
        ag_gR h17 x3 6 1 fun x18 =>
        ag_at h17 l0 10 fun a19 _ => ag_bI (call 103 [.inr (some a19), .inr x18, .inl l2, .inl x15, .inl l3] h17) fun x21 h20 =>
        some (.inl (some (.inl x21)), h20)
set_option maxRecDepth 100000 in
set_option maxHeartbeats 4000000 in
theorem i73 (call : Nat → List ag_V → ag_H → ag_R) (B : ag_K4) (l0 : Option Nat) (l1 : Int32) (l2 : Int32) (l3 : Int32) (h : ag_H) : ag_in 1 call B t73 0 [some (.inr l0), some (.inl l1), some (.inl l2), some (.inl l3), none, none, none] [] h = f73 call  l0 l1 l2 l3 h := by
  rfl
set_option maxRecDepth 100000 in
set_option maxHeartbeats 4000000 in
theorem r73 (d : Nat) (l0 : Option Nat) (l1 : Int32) (l2 : Int32) (l3 : Int32) (h : ag_H) : ag_run gT (d + 1) 73 [.inr l0, .inl l1, .inl l2, .inl l3] h = f73 (ag_run gT d)  l0 l1 l2 l3 h := by
  show ag_out 1 (ag_run gT d) t73 4000 0 [some (.inr l0), some (.inl l1), some (.inl l2), some (.inl l3), none, none, none] [] h = _
  rw [ag_out_top, i73]
/-- NameSpaces.unmount(I)I -/
def f74 (call : Nat → List ag_V → ag_H → ag_R)  (l0 : Option Nat) (l1 : Int32) (h : ag_H) : ag_R :=
  ag_at h l0 10 fun a1 _ => ag_bR (call 87 [.inr (some a1), .inl l1] h) fun x3 h2 =>
  ag_gR h2 l0 10 5 fun x4 =>
  ag_gI h2 x4 4 2 fun x5 =>
  if x5 = (ag_lit 0) then
    some (.inr 0, ag_thr h2)
  else
    ag_gR h2 x3 6 1 fun x6 =>
    ag_gR h2 l0 10 5 fun x7 =>
    ag_gR h2 l0 10 5 fun x8 =>
    ag_gI h2 x8 4 1 fun x9 =>
    ag_at h2 l0 10 fun a10 _ => ag_bV (call 91 [.inr (some a10), .inr x6, .inr x7, .inl x9] h2) fun h11 =>
    ag_gR h11 x3 6 1 fun x12 =>
    ag_gI h11 l0 10 9 fun x13 =>
    ag_gI h11 l0 10 11 fun x14 =>
    ag_at h11 x12 2 fun a15 _ => ag_bI (call 14 [.inr (some a15), .inl x13, .inl x14] h11) fun x17 h16 =>
    ag_gR h16 x3 6 1 fun x18 =>
    ag_at h16 x18 2 fun a19 _ => ag_bR (call 15 [.inr (some a19), .inl x17] h16) fun x21 h20 =>
    if x21 = none then
      ag_gI h20 l0 10 9 fun x34 =>
      ag_gI h20 l0 10 10 fun x35 =>
      ag_at h20 l0 10 fun a36 _ => ag_bV (call 95 [.inr (some a36), .inl x34, .inl x35] h20) fun h37 =>
      some (.inr 3, ag_thr h37)
    else
      ag_gR h20 x21 5 0 fun x22 =>
      ag_at h20 l0 10 fun a23 _ => ag_bV (call 96 [.inr (some a23), .inr x22] h20) fun h24 =>
      ag_gI h24 l0 10 9 fun x25 =>
      ag_gI h24 l0 10 10 fun x26 =>
      ag_at h24 l0 10 fun a27 _ => ag_bV (call 95 [.inr (some a27), .inl x25, .inl x26] h24) fun h28 =>
      ag_gR h28 x3 6 1 fun x29 =>
      ag_at h28 x29 2 fun a30 _ => ag_bV (call 17 [.inr (some a30), .inl x17] h28) fun h31 =>
      ag_gR h31 x3 6 1 fun x32 =>
      ag_gI h31 x32 2 1 fun x33 =>
      some (.inl (some (.inl x33)), h31)
set_option maxRecDepth 100000 in
set_option maxHeartbeats 4000000 in
theorem i74 (call : Nat → List ag_V → ag_H → ag_R) (B : ag_K4) (l0 : Option Nat) (l1 : Int32) (h : ag_H) : ag_in 1 call B t74 0 [some (.inr l0), some (.inl l1), none, none, none] [] h = f74 call  l0 l1 h := by
  rfl
set_option maxRecDepth 100000 in
set_option maxHeartbeats 4000000 in
theorem r74 (d : Nat) (l0 : Option Nat) (l1 : Int32) (h : ag_H) : ag_run gT (d + 1) 74 [.inr l0, .inl l1] h = f74 (ag_run gT d)  l0 l1 h := by
  show ag_out 1 (ag_run gT d) t74 4000 0 [some (.inr l0), some (.inl l1), none, none, none] [] h = _
  rw [ag_out_top, i74]
def f75_64 (call : Nat → List ag_V → ag_H → ag_R)  (l0 : Option Nat) (l4 : Int32) (l5 : Option Nat) (h : ag_H) : ag_R :=
  ag_gR h l0 10 2 fun x1 =>
  ag_xR h x1 105 l4 fun x2 =>
  ag_at h x2 6 fun a3 _ => ag_bV (call 30 [.inr (some a3), .inr l5] h) fun h4 =>
  some (.inl (some (.inl l4)), h4)
def f75_39 (call : Nat → List ag_V → ag_H → ag_R)   (h : ag_H) : ag_R :=
  some (.inr 1, ag_thr h)
def f75_27 (call : Nat → List ag_V → ag_H → ag_R)  (l0 : Option Nat) (l2 : Int32) (l3 : Option Nat) (l4 : Int32) (s0 : Option Nat) (h : ag_H) : ag_R :=
  if l4 < (ag_lit 0) then
    f75_39 call h
  else
    if s0 = none then
      f75_39 call h
    else
      if l2 = (ag_lit 0) then
        ag_gR h l3 6 1 fun x1 =>
        ag_at h l0 10 fun a2 _ => ag_bV (call 110 [.inr (some a2), .inr x1, .inr s0] h) fun h3 =>
        f75_64 call l0 l4 s0 h3
      else
        f75_64 call l0 l4 s0 h
/-- NameSpaces.fork(IZ)I -/
def f75 (call : Nat → List ag_V → ag_H → ag_R)  (l0 : Option Nat) (l1 : Int32) (l2 : Int32) (h : ag_H) : ag_R :=
  ag_at h l0 10 fun a1 _ => ag_bR (call 84 [.inr (some a1), .inl l1] h) fun x3 h2 =>
  ag_at h2 l0 10 fun a4 _ => ag_bI (call 107 [.inr (some a4)] h2) fun x6 h5 =>
  if l2 = (ag_lit 0) then
    ag_at h5 l0 10 fun a7 _ => ag_bR (call 109 [.inr (some a7)] h5) fun x9 h8 =>
    f75_27 call l0 l2 x3 x6 x9 h8
  else
    ag_gR h5 x3 6 1 fun x10 =>
    f75_27 call l0 l2 x3 x6 x10 h5
set_option maxRecDepth 100000 in
set_option maxHeartbeats 4000000 in
theorem i75 (call : Nat → List ag_V → ag_H → ag_R) (B : ag_K4) (l0 : Option Nat) (l1 : Int32) (l2 : Int32) (h : ag_H) : ag_in 1 call B t75 0 [some (.inr l0), some (.inl l1), some (.inl l2), none, none, none] [] h = f75 call  l0 l1 l2 h := by
  rfl
set_option maxRecDepth 100000 in
set_option maxHeartbeats 4000000 in
theorem r75 (d : Nat) (l0 : Option Nat) (l1 : Int32) (l2 : Int32) (h : ag_H) : ag_run gT (d + 1) 75 [.inr l0, .inl l1, .inl l2] h = f75 (ag_run gT d)  l0 l1 l2 h := by
  show ag_out 1 (ag_run gT d) t75 4000 0 [some (.inr l0), some (.inl l1), some (.inl l2), none, none, none] [] h = _
  rw [ag_out_top, i75]
def f76_77 (call : Nat → List ag_V → ag_H → ag_R) (b23 : Option Nat → Option Nat → Int32 → ag_H → ag_R) (l0 : Option Nat) (h : ag_H) : ag_R :=
  ag_at h l0 10 fun a1 _ => ag_bI (call 108 [.inr (some a1)] h) fun x3 h2 =>
  some (.inl (some (.inl x3)), h2)
def f76_50 (call : Nat → List ag_V → ag_H → ag_R) (b23 : Option Nat → Option Nat → Int32 → ag_H → ag_R) (l0 : Option Nat) (l2 : Option Nat) (l3 : Int32) (h : ag_H) : ag_R :=
  b23 l0 l2 (l3 + ag_lit 1) h
def f76_23 (call : Nat → List ag_V → ag_H → ag_R) (b23 : Option Nat → Option Nat → Int32 → ag_H → ag_R) (l0 : Option Nat) (l2 : Option Nat) (l3 : Int32) (h : ag_H) : ag_R :=
  if (ag_lit 5) ≤ l3 then
    ag_gR h l2 6 1 fun x1 =>
    ag_at h l2 6 fun a2 _ => ag_bV (call 31 [.inr (some a2)] h) fun h3 =>
    ag_gI h3 x1 2 2 fun x4 =>
    if x4 = (ag_lit 0) then
      ag_at h3 l0 10 fun a5 _ => ag_bV (call 111 [.inr (some a5), .inr x1] h3) fun h6 =>
      f76_77 call b23 l0 h6
    else
      f76_77 call b23 l0 h3
  else
    ag_gR h l2 6 0 fun x7 =>
    ag_xR h x7 108 l3 fun x8 =>
    ag_gI h x8 3 1 fun x9 =>
    if x9 = (ag_lit 0) then
      f76_50 call b23 l0 l2 l3 h
    else
      ag_gR h l2 6 0 fun x10 =>
      ag_xR h x10 108 l3 fun x11 =>
      ag_at h l0 10 fun a12 _ => ag_bV (call 102 [.inr (some a12), .inr x11] h) fun h13 =>
      f76_50 call b23 l0 l2 l3 h13
/-- NameSpaces.exit(I)I -/
def f76 (call : Nat → List ag_V → ag_H → ag_R) (b23 : Option Nat → Option Nat → Int32 → ag_H → ag_R) (l0 : Option Nat) (l1 : Int32) (h : ag_H) : ag_R :=
  ag_at h l0 10 fun a1 _ => ag_bR (call 84 [.inr (some a1), .inl l1] h) fun x3 h2 =>
  if l1 = (ag_lit 0) then
    some (.inr 0, ag_thr h2)
  else
    f76_23 call b23 l0 x3 (ag_lit 0) h2
def g76 (call : Nat → List ag_V → ag_H → ag_R) : Nat → Option Nat → Option Nat → Int32 → ag_H → ag_R
  | 0 => fun _ _ _ _ => none
  | n + 1 => f76_23 call (g76 call n)
set_option maxRecDepth 100000 in
set_option maxHeartbeats 4000000 in
theorem i76_23 (call : Nat → List ag_V → ag_H → ag_R) (B : ag_K4) (l0 : Option Nat) (l2 : Option Nat) (l3 : Int32) (h : ag_H) : ag_in 1 call B t76 23 [some (.inr l0), none, some (.inr l2), some (.inl l3)] [] h = f76_23 call (fun (l0 : Option Nat) (l2 : Option Nat) (l3 : Int32) (h : ag_H) => B 23 [some (.inr l0), none, some (.inr l2), some (.inl l3)] [] h) l0 l2 l3 h := by
  rfl
set_option maxRecDepth 100000 in
set_option maxHeartbeats 4000000 in
theorem i76 (call : Nat → List ag_V → ag_H → ag_R) (B : ag_K4) (l0 : Option Nat) (l1 : Int32) (h : ag_H) : ag_in 1 call B t76 0 [some (.inr l0), some (.inl l1), none, none] [] h = f76 call (fun (l0 : Option Nat) (l2 : Option Nat) (l3 : Int32) (h : ag_H) => B 23 [some (.inr l0), none, some (.inr l2), some (.inl l3)] [] h) l0 l1 h := by
  rfl
set_option maxRecDepth 100000 in
set_option maxHeartbeats 4000000 in
theorem o76 (call : Nat → List ag_V → ag_H → ag_R) : ∀ n : Nat, (fun (l0 : Option Nat) (l2 : Option Nat) (l3 : Int32) (h : ag_H) => (ag_out 1 call t76 n) 23 [some (.inr l0), none, some (.inr l2), some (.inl l3)] [] h) = g76 call n := by
  intro n
  induction n with
  | zero => rfl
  | succ n ih =>
    funext l0 l2 l3 h
    show ag_in 1 call (ag_out 1 call t76 n) t76 23 [some (.inr l0), none, some (.inr l2), some (.inl l3)] [] h = f76_23 call (g76 call n) l0 l2 l3 h
    rw [i76_23, ih]
set_option maxRecDepth 100000 in
set_option maxHeartbeats 4000000 in
theorem r76 (d : Nat) (l0 : Option Nat) (l1 : Int32) (h : ag_H) : ag_run gT (d + 1) 76 [.inr l0, .inl l1] h = f76 (ag_run gT d) (g76 (ag_run gT d) 3999) l0 l1 h := by
  show ag_out 1 (ag_run gT d) t76 4000 0 [some (.inr l0), some (.inl l1), none, none] [] h = _
  rw [ag_out_top, i76, o76]
def f77_40 (call : Nat → List ag_V → ag_H → ag_R)  (s0 : Int32) (h : ag_H) : ag_R :=
  some (.inl (some (.inl s0)), h)
/-- NameSpaces.wire(II)I -/
def f77 (call : Nat → List ag_V → ag_H → ag_R)  (l0 : Option Nat) (l1 : Int32) (l2 : Int32) (h : ag_H) : ag_R :=
  ag_gR h l0 10 0 fun x1 =>
  ag_gI h l0 10 8 fun x2 =>
  ag_xR h x1 103 x2 fun x3 =>
  if l1 = (ag_lit 0) then
    ag_gR h x3 7 0 fun x8 =>
    ag_at h x8 1 fun a9 _ => ag_bI (call 11 [.inr (some a9), .inl l2] h) fun x11 h10 =>
    some (.inl (some (.inl x11)), h10)
  else
    if l1 = (ag_lit 1) then
      ag_gR h x3 7 1 fun x4 =>
      ag_at h x4 1 fun a5 _ => ag_bI (call 11 [.inr (some a5), .inl l2] h) fun x7 h6 =>
      f77_40 call x7 h6
    else
      f77_40 call (ag_lit (-1)) h
set_option maxRecDepth 100000 in
set_option maxHeartbeats 4000000 in
theorem i77 (call : Nat → List ag_V → ag_H → ag_R) (B : ag_K4) (l0 : Option Nat) (l1 : Int32) (l2 : Int32) (h : ag_H) : ag_in 1 call B t77 0 [some (.inr l0), some (.inl l1), some (.inl l2), none] [] h = f77 call  l0 l1 l2 h := by
  rfl
set_option maxRecDepth 100000 in
set_option maxHeartbeats 4000000 in
theorem r77 (d : Nat) (l0 : Option Nat) (l1 : Int32) (l2 : Int32) (h : ag_H) : ag_run gT (d + 1) 77 [.inr l0, .inl l1, .inl l2] h = f77 (ag_run gT d)  l0 l1 l2 h := by
  show ag_out 1 (ag_run gT d) t77 4000 0 [some (.inr l0), some (.inl l1), some (.inl l2), none] [] h = _
  rw [ag_out_top, i77]
/-- NameSpaces.server(II)I -/
def f78 (call : Nat → List ag_V → ag_H → ag_R)  (l0 : Option Nat) (l1 : Int32) (l2 : Int32) (h : ag_H) : ag_R :=
  ag_bI (call 80 [.inl l1] h) fun x2 h1 =>
  if x2 = (ag_lit 0) then
    some (.inl (some (.inl (ag_lit (-1)))), h1)
  else
    ag_gR h1 l0 10 0 fun x3 =>
    ag_xR h1 x3 103 l1 fun x4 =>
    ag_sw l2 0 [ag_gR h1 x4 7 0 fun x5 =>
      ag_gI h1 x5 1 2 fun x6 =>
      some (.inl (some (.inl x6)), h1),
      ag_at h1 x4 7 fun a7 _ => ag_bI (call 36 [.inr (some a7)] h1) fun x9 h8 =>
      some (.inl (some (.inl x9)), h8),
      ag_gI h1 x4 7 4 fun x10 =>
      some (.inl (some (.inl x10)), h1),
      ag_gI h1 x4 7 5 fun x11 =>
      some (.inl (some (.inl x11)), h1)]
      (some (.inl (some (.inl (ag_lit (-1)))), h1))
set_option maxRecDepth 100000 in
set_option maxHeartbeats 4000000 in
theorem i78 (call : Nat → List ag_V → ag_H → ag_R) (B : ag_K4) (l0 : Option Nat) (l1 : Int32) (l2 : Int32) (h : ag_H) : ag_in 1 call B t78 0 [some (.inr l0), some (.inl l1), some (.inl l2), none] [] h = f78 call  l0 l1 l2 h := by
  rfl
set_option maxRecDepth 100000 in
set_option maxHeartbeats 4000000 in
theorem r78 (d : Nat) (l0 : Option Nat) (l1 : Int32) (l2 : Int32) (h : ag_H) : ag_run gT (d + 1) 78 [.inr l0, .inl l1, .inl l2] h = f78 (ag_run gT d)  l0 l1 l2 h := by
  show ag_out 1 (ag_run gT d) t78 4000 0 [some (.inr l0), some (.inl l1), some (.inl l2), none] [] h = _
  rw [ag_out_top, i78]
def f79_18 (call : Nat → List ag_V → ag_H → ag_R)   (h : ag_H) : ag_R :=
  some (.inl (some (.inl (ag_lit (-1)))), h)
/-- NameSpaces.process(II)I -/
def f79 (call : Nat → List ag_V → ag_H → ag_R)  (l0 : Option Nat) (l1 : Int32) (l2 : Int32) (h : ag_H) : ag_R :=
  if l1 < (ag_lit 0) then
    f79_18 call h
  else
    if (ag_lit 4) ≤ l1 then
      f79_18 call h
    else
      if l2 < (ag_lit 0) then
        f79_18 call h
      else
        if l2 ≤ (ag_lit 3) then
          ag_gR h l0 10 2 fun x1 =>
          ag_xR h x1 105 l1 fun x2 =>
          ag_gR h x2 6 1 fun x3 =>
          if x3 = none then
            some (.inl (some (.inl (ag_lit 0))), h)
          else
            ag_sw l2 0 [some (.inl (some (.inl (ag_lit 1))), h),
              ag_at h x2 6 fun a4 _ => ag_bI (call 33 [.inr (some a4)] h) fun x6 h5 =>
              some (.inl (some (.inl x6)), h5),
              ag_gI h x3 2 1 fun x7 =>
              some (.inl (some (.inl x7)), h)]
              (ag_at h x3 2 fun a8 _ => ag_bI (call 18 [.inr (some a8)] h) fun x10 h9 =>
              some (.inl (some (.inl x10)), h9))
        else
          f79_18 call h
set_option maxRecDepth 100000 in
set_option maxHeartbeats 4000000 in
theorem i79 (call : Nat → List ag_V → ag_H → ag_R) (B : ag_K4) (l0 : Option Nat) (l1 : Int32) (l2 : Int32) (h : ag_H) : ag_in 1 call B t79 0 [some (.inr l0), some (.inl l1), some (.inl l2), none, none] [] h = f79 call  l0 l1 l2 h := by
  rfl
set_option maxRecDepth 100000 in
set_option maxHeartbeats 4000000 in
theorem r79 (d : Nat) (l0 : Option Nat) (l1 : Int32) (l2 : Int32) (h : ag_H) : ag_run gT (d + 1) 79 [.inr l0, .inl l1, .inl l2] h = f79 (ag_run gT d)  l0 l1 l2 h := by
  show ag_out 1 (ag_run gT d) t79 4000 0 [some (.inr l0), some (.inl l1), some (.inl l2), none, none] [] h = _
  rw [ag_out_top, i79]
def f80_14 (call : Nat → List ag_V → ag_H → ag_R)  (s0 : Int32) (h : ag_H) : ag_R :=
  ag_isB s0 (some (.inl (some (.inl s0)), h))
def f80_9 (call : Nat → List ag_V → ag_H → ag_R)   (h : ag_H) : ag_R :=
  f80_14 call (ag_lit 1) h
/-- NameSpaces.isServer(I)Z -/
def f80 (call : Nat → List ag_V → ag_H → ag_R)  (l0 : Int32) (h : ag_H) : ag_R :=
  if l0 = (ag_lit 0) then
    f80_9 call h
  else
    if l0 = (ag_lit 1) then
      f80_9 call h
    else
      f80_14 call (ag_lit 0) h
set_option maxRecDepth 100000 in
set_option maxHeartbeats 4000000 in
theorem i80 (call : Nat → List ag_V → ag_H → ag_R) (B : ag_K4) (l0 : Int32) (h : ag_H) : ag_in 4 call B t80 0 [some (.inl l0)] [] h = f80 call  l0 h := by
  rfl
set_option maxRecDepth 100000 in
set_option maxHeartbeats 4000000 in
theorem r80 (d : Nat) (l0 : Int32) (h : ag_H) : ag_run gT (d + 1) 80 [.inl l0] h = f80 (ag_run gT d)  l0 h := by
  show ag_out 4 (ag_run gT d) t80 4000 0 [some (.inl l0)] [] h = _
  rw [ag_out_top, i80]
def f81_22 (call : Nat → List ag_V → ag_H → ag_R)  (s0 : Int32) (h : ag_H) : ag_R :=
  ag_isB s0 (some (.inl (some (.inl s0)), h))
def f81_21 (call : Nat → List ag_V → ag_H → ag_R)   (h : ag_H) : ag_R :=
  f81_22 call (ag_lit 0) h
/-- NameSpaces.isHow(I)Z -/
def f81 (call : Nat → List ag_V → ag_H → ag_R)  (l0 : Int32) (h : ag_H) : ag_R :=
  if l0 < (ag_lit 0) then
    f81_21 call h
  else
    if (ag_lit8 6) < l0 then
      f81_21 call h
    else
      ag_dv (ag_lit 4) <|
      if (l0 - l0 / (ag_lit 4) * (ag_lit 4)) = (ag_lit 3) then
        f81_21 call h
      else
        f81_22 call (ag_lit 1) h
set_option maxRecDepth 100000 in
set_option maxHeartbeats 4000000 in
theorem i81 (call : Nat → List ag_V → ag_H → ag_R) (B : ag_K4) (l0 : Int32) (h : ag_H) : ag_in 4 call B t81 0 [some (.inl l0)] [] h = f81 call  l0 h := by
  rfl
set_option maxRecDepth 100000 in
set_option maxHeartbeats 4000000 in
theorem r81 (d : Nat) (l0 : Int32) (h : ag_H) : ag_run gT (d + 1) 81 [.inl l0] h = f81 (ag_run gT d)  l0 h := by
  show ag_out 4 (ag_run gT d) t81 4000 0 [some (.inl l0)] [] h = _
  rw [ag_out_top, i81]
def f82_13 (call : Nat → List ag_V → ag_H → ag_R)  (s0 : Int32) (h : ag_H) : ag_R :=
  ag_isB s0 (some (.inl (some (.inl s0)), h))
def f82_12 (call : Nat → List ag_V → ag_H → ag_R)   (h : ag_H) : ag_R :=
  f82_13 call (ag_lit 0) h
/-- NameSpaces.isBeginning(II)Z -/
def f82 (call : Nat → List ag_V → ag_H → ag_R)  (l0 : Int32) (l1 : Int32) (h : ag_H) : ag_R :=
  if l0 = (ag_lit 0) then
    if l1 = (ag_lit 0) then
      f82_13 call (ag_lit 1) h
    else
      f82_12 call h
  else
    f82_12 call h
set_option maxRecDepth 100000 in
set_option maxHeartbeats 4000000 in
theorem i82 (call : Nat → List ag_V → ag_H → ag_R) (B : ag_K4) (l0 : Int32) (l1 : Int32) (h : ag_H) : ag_in 4 call B t82 0 [some (.inl l0), some (.inl l1)] [] h = f82 call  l0 l1 h := by
  rfl
set_option maxRecDepth 100000 in
set_option maxHeartbeats 4000000 in
theorem r82 (d : Nat) (l0 : Int32) (l1 : Int32) (h : ag_H) : ag_run gT (d + 1) 82 [.inl l0, .inl l1] h = f82 (ag_run gT d)  l0 l1 h := by
  show ag_out 4 (ag_run gT d) t82 4000 0 [some (.inl l0), some (.inl l1)] [] h = _
  rw [ag_out_top, i82]
def f83_11 (call : Nat → List ag_V → ag_H → ag_R)  (l0 : Option Nat) (s0 : Option Nat) (s1 : Int32) (h : ag_H) : ag_R :=
  ag_pF h s0 10 8 (.inl s1) fun h1 =>
  ag_gR h1 l0 10 0 fun x2 =>
  ag_gI h1 l0 10 8 fun x3 =>
  ag_xR h1 x2 103 x3 fun x4 =>
  some (.inl (some (.inr x4)), h1)
/-- NameSpaces.to(I)LNameSpaces$Server; -/
def f83 (call : Nat → List ag_V → ag_H → ag_R)  (l0 : Option Nat) (l1 : Int32) (h : ag_H) : ag_R :=
  if l1 = (ag_lit 1) then
    f83_11 call l0 l0 (ag_lit 1) h
  else
    f83_11 call l0 l0 (ag_lit 0) h
set_option maxRecDepth 100000 in
set_option maxHeartbeats 4000000 in
theorem i83 (call : Nat → List ag_V → ag_H → ag_R) (B : ag_K4) (l0 : Option Nat) (l1 : Int32) (h : ag_H) : ag_in 2 call B t83 0 [some (.inr l0), some (.inl l1)] [] h = f83 call  l0 l1 h := by
  rfl
set_option maxRecDepth 100000 in
set_option maxHeartbeats 4000000 in
theorem r83 (d : Nat) (l0 : Option Nat) (l1 : Int32) (h : ag_H) : ag_run gT (d + 1) 83 [.inr l0, .inl l1] h = f83 (ag_run gT d)  l0 l1 h := by
  show ag_out 2 (ag_run gT d) t83 4000 0 [some (.inr l0), some (.inl l1)] [] h = _
  rw [ag_out_top, i83]
def f84_21 (call : Nat → List ag_V → ag_H → ag_R)   (h : ag_H) : ag_R :=
  some (.inr 0, ag_thr h)
/-- NameSpaces.processOf(I)LNameSpaces$Proc; -/
def f84 (call : Nat → List ag_V → ag_H → ag_R)  (l0 : Option Nat) (l1 : Int32) (h : ag_H) : ag_R :=
  if l1 < (ag_lit 0) then
    f84_21 call h
  else
    if (ag_lit 4) ≤ l1 then
      f84_21 call h
    else
      ag_gR h l0 10 2 fun x1 =>
      ag_xR h x1 105 l1 fun x2 =>
      ag_gR h x2 6 1 fun x3 =>
      if x3 = none then
        f84_21 call h
      else
        ag_gR h l0 10 2 fun x4 =>
        ag_xR h x4 105 l1 fun x5 =>
        some (.inl (some (.inr x5)), h)
set_option maxRecDepth 100000 in
set_option maxHeartbeats 4000000 in
theorem i84 (call : Nat → List ag_V → ag_H → ag_R) (B : ag_K4) (l0 : Option Nat) (l1 : Int32) (h : ag_H) : ag_in 2 call B t84 0 [some (.inr l0), some (.inl l1)] [] h = f84 call  l0 l1 h := by
  rfl
set_option maxRecDepth 100000 in
set_option maxHeartbeats 4000000 in
theorem r84 (d : Nat) (l0 : Option Nat) (l1 : Int32) (h : ag_H) : ag_run gT (d + 1) 84 [.inr l0, .inl l1] h = f84 (ag_run gT d)  l0 l1 h := by
  show ag_out 2 (ag_run gT d) t84 4000 0 [some (.inr l0), some (.inl l1)] [] h = _
  rw [ag_out_top, i84]
def f85_27 (call : Nat → List ag_V → ag_H → ag_R)   (h : ag_H) : ag_R :=
  some (.inr 0, ag_thr h)
/-- NameSpaces.openedFile(II)LNameSpaces$OpenFile; -/
def f85 (call : Nat → List ag_V → ag_H → ag_R)  (l0 : Option Nat) (l1 : Int32) (l2 : Int32) (h : ag_H) : ag_R :=
  ag_at h l0 10 fun a1 _ => ag_bR (call 84 [.inr (some a1), .inl l1] h) fun x3 h2 =>
  if l2 < (ag_lit 0) then
    f85_27 call h2
  else
    if (ag_lit 5) ≤ l2 then
      f85_27 call h2
    else
      ag_gR h2 x3 6 0 fun x4 =>
      ag_xR h2 x4 108 l2 fun x5 =>
      ag_gI h2 x5 3 1 fun x6 =>
      if x6 = (ag_lit 0) then
        f85_27 call h2
      else
        ag_gR h2 x3 6 0 fun x7 =>
        ag_xR h2 x7 108 l2 fun x8 =>
        some (.inl (some (.inr x8)), h2)
set_option maxRecDepth 100000 in
set_option maxHeartbeats 4000000 in
theorem i85 (call : Nat → List ag_V → ag_H → ag_R) (B : ag_K4) (l0 : Option Nat) (l1 : Int32) (l2 : Int32) (h : ag_H) : ag_in 2 call B t85 0 [some (.inr l0), some (.inl l1), some (.inl l2), none] [] h = f85 call  l0 l1 l2 h := by
  rfl
set_option maxRecDepth 100000 in
set_option maxHeartbeats 4000000 in
theorem r85 (d : Nat) (l0 : Option Nat) (l1 : Int32) (l2 : Int32) (h : ag_H) : ag_run gT (d + 1) 85 [.inr l0, .inl l1, .inl l2] h = f85 (ag_run gT d)  l0 l1 l2 h := by
  show ag_out 2 (ag_run gT d) t85 4000 0 [some (.inr l0), some (.inl l1), some (.inl l2), none] [] h = _
  rw [ag_out_top, i85]
def f86_9 (call : Nat → List ag_V → ag_H → ag_R)   (h : ag_H) : ag_R :=
  some (.inr 1, ag_thr h)
/-- NameSpaces.rowFor(LNameSpaces$Proc;I)LNameSpaces$OpenFile; -/
def f86 (call : Nat → List ag_V → ag_H → ag_R)  (l0 : Option Nat) (l1 : Int32) (h : ag_H) : ag_R :=
  if l1 < (ag_lit 0) then
    f86_9 call h
  else
    if l1 < (ag_lit 5) then
      ag_gR h l0 6 0 fun x1 =>
      ag_xR h x1 108 l1 fun x2 =>
      some (.inl (some (.inr x2)), h)
    else
      f86_9 call h
set_option maxRecDepth 100000 in
set_option maxHeartbeats 4000000 in
theorem i86 (call : Nat → List ag_V → ag_H → ag_R) (B : ag_K4) (l0 : Option Nat) (l1 : Int32) (h : ag_H) : ag_in 2 call B t86 0 [some (.inr l0), some (.inl l1)] [] h = f86 call  l0 l1 h := by
  rfl
set_option maxRecDepth 100000 in
set_option maxHeartbeats 4000000 in
theorem r86 (d : Nat) (l0 : Option Nat) (l1 : Int32) (h : ag_H) : ag_run gT (d + 1) 86 [.inr l0, .inl l1] h = f86 (ag_run gT d)  l0 l1 h := by
  show ag_out 2 (ag_run gT d) t86 4000 0 [some (.inr l0), some (.inl l1)] [] h = _
  rw [ag_out_top, i86]
/-- NameSpaces.takePaths(I)LNameSpaces$Proc; -/
def f87 (call : Nat → List ag_V → ag_H → ag_R)  (l0 : Option Nat) (l1 : Int32) (h : ag_H) : ag_R :=
  ag_at h l0 10 fun a1 _ => ag_bR (call 84 [.inr (some a1), .inl l1] h) fun x3 h2 =>
  ag_gR h2 l0 10 5 fun x4 =>
  ag_gR h2 l0 10 3 fun x5 =>
  ag_at h2 x4 4 fun a6 _ => ag_bV (call 25 [.inr (some a6), .inr x5] h2) fun h7 =>
  ag_gR h7 l0 10 6 fun x8 =>
  ag_gR h7 l0 10 4 fun x9 =>
  ag_at h7 x8 4 fun a10 _ => ag_bV (call 25 [.inr (some a10), .inr x9] h7) fun h11 =>
  ag_gR h11 l0 10 3 fun x12 =>
  ag_pF h11 x12 8 1 (.inl (ag_lit 0)) fun h13 =>
  ag_gR h13 l0 10 4 fun x14 =>
  ag_pF h13 x14 8 1 (.inl (ag_lit 0)) fun h15 =>
  some (.inl (some (.inr x3)), h15)
set_option maxRecDepth 100000 in
set_option maxHeartbeats 4000000 in
theorem i87 (call : Nat → List ag_V → ag_H → ag_R) (B : ag_K4) (l0 : Option Nat) (l1 : Int32) (h : ag_H) : ag_in 2 call B t87 0 [some (.inr l0), some (.inl l1), none] [] h = f87 call  l0 l1 h := by
  rfl
set_option maxRecDepth 100000 in
set_option maxHeartbeats 4000000 in
theorem r87 (d : Nat) (l0 : Option Nat) (l1 : Int32) (h : ag_H) : ag_run gT (d + 1) 87 [.inr l0, .inl l1] h = f87 (ag_run gT d)  l0 l1 h := by
  show ag_out 2 (ag_run gT d) t87 4000 0 [some (.inr l0), some (.inl l1), none] [] h = _
  rw [ag_out_top, i87]
/-- NameSpaces.refuseWalk(C)V -/
def f88 (call : Nat → List ag_V → ag_H → ag_R)  (l0 : Int32) (h : ag_H) : ag_R :=
  if l0 = (ag_lit8 100) then
    some (.inr 3, ag_thr h)
  else
    some (.inr 2, ag_thr h)
set_option maxRecDepth 100000 in
set_option maxHeartbeats 4000000 in
theorem i88 (call : Nat → List ag_V → ag_H → ag_R) (B : ag_K4) (l0 : Int32) (h : ag_H) : ag_in 0 call B t88 0 [some (.inl l0)] [] h = f88 call  l0 h := by
  rfl
set_option maxRecDepth 100000 in
set_option maxHeartbeats 4000000 in
theorem r88 (d : Nat) (l0 : Int32) (h : ag_H) : ag_run gT (d + 1) 88 [.inl l0] h = f88 (ag_run gT d)  l0 h := by
  show ag_out 0 (ag_run gT d) t88 4000 0 [some (.inl l0)] [] h = _
  rw [ag_out_top, i88]
/-- NameSpaces.refuseOpening(C)V -/
def f89 (call : Nat → List ag_V → ag_H → ag_R)  (l0 : Int32) (h : ag_H) : ag_R :=
  if l0 = (ag_lit8 112) then
    some (.inr 3, ag_thr h)
  else
    some (.inr 2, ag_thr h)
set_option maxRecDepth 100000 in
set_option maxHeartbeats 4000000 in
theorem i89 (call : Nat → List ag_V → ag_H → ag_R) (B : ag_K4) (l0 : Int32) (h : ag_H) : ag_in 0 call B t89 0 [some (.inl l0)] [] h = f89 call  l0 h := by
  rfl
set_option maxRecDepth 100000 in
set_option maxHeartbeats 4000000 in
theorem r89 (d : Nat) (l0 : Int32) (h : ag_H) : ag_run gT (d + 1) 89 [.inl l0] h = f89 (ag_run gT d)  l0 h := by
  show ag_out 0 (ag_run gT d) t89 4000 0 [some (.inl l0)] [] h = _
  rw [ag_out_top, i89]
/-- NameSpaces.refuseMaking(C)V -/
def f90 (call : Nat → List ag_V → ag_H → ag_R)  (l0 : Int32) (h : ag_H) : ag_R :=
  if l0 = (ag_lit8 102) then
    some (.inr 1, ag_thr h)
  else
    if l0 = (ag_lit8 110) then
      some (.inr 2, ag_thr h)
    else
      some (.inr 3, ag_thr h)
set_option maxRecDepth 100000 in
set_option maxHeartbeats 4000000 in
theorem i90 (call : Nat → List ag_V → ag_H → ag_R) (B : ag_K4) (l0 : Int32) (h : ag_H) : ag_in 0 call B t90 0 [some (.inl l0)] [] h = f90 call  l0 h := by
  rfl
set_option maxRecDepth 100000 in
set_option maxHeartbeats 4000000 in
theorem r90 (d : Nat) (l0 : Int32) (h : ag_H) : ag_run gT (d + 1) 90 [.inl l0] h = f90 (ag_run gT d)  l0 h := by
  show ag_out 0 (ag_run gT d) t90 4000 0 [some (.inl l0)] [] h = _
  rw [ag_out_top, i90]
def f91_19 (call : Nat → List ag_V → ag_H → ag_R)   (h : ag_H) : ag_R :=
  some (.inl none, h)
/-- NameSpaces.walkOrRefuse(LNameSpaces$NameSpace;LNameSpaces$Path;I)V -/
def f91 (call : Nat → List ag_V → ag_H → ag_R)  (l0 : Option Nat) (l1 : Option Nat) (l2 : Option Nat) (l3 : Int32) (h : ag_H) : ag_R :=
  ag_at h l0 10 fun a1 _ => ag_bI (call 92 [.inr (some a1), .inr l1, .inr l2, .inl l3] h) fun x3 h2 =>
  if x3 = (ag_lit 0) then
    f91_19 call h2
  else
    ag_bV (call 88 [.inl x3] h2) fun h4 =>
    f91_19 call h4
set_option maxRecDepth 100000 in
set_option maxHeartbeats 4000000 in
theorem i91 (call : Nat → List ag_V → ag_H → ag_R) (B : ag_K4) (l0 : Option Nat) (l1 : Option Nat) (l2 : Option Nat) (l3 : Int32) (h : ag_H) : ag_in 0 call B t91 0 [some (.inr l0), some (.inr l1), some (.inr l2), some (.inl l3), none] [] h = f91 call  l0 l1 l2 l3 h := by
  rfl
set_option maxRecDepth 100000 in
set_option maxHeartbeats 4000000 in
theorem r91 (d : Nat) (l0 : Option Nat) (l1 : Option Nat) (l2 : Option Nat) (l3 : Int32) (h : ag_H) : ag_run gT (d + 1) 91 [.inr l0, .inr l1, .inr l2, .inl l3] h = f91 (ag_run gT d)  l0 l1 l2 l3 h := by
  show ag_out 0 (ag_run gT d) t91 4000 0 [some (.inr l0), some (.inr l1), some (.inr l2), some (.inl l3), none] [] h = _
  rw [ag_out_top, i91]
def f92_80 (call : Nat → List ag_V → ag_H → ag_R) (b26 : Option Nat → Option Nat → Option Nat → Int32 → Int32 → Int32 → ag_H → ag_R) (l4 : Int32) (h : ag_H) : ag_R :=
  ag_isC l4 (some (.inl (some (.inl l4)), h))
def f92_26 (call : Nat → List ag_V → ag_H → ag_R) (b26 : Option Nat → Option Nat → Option Nat → Int32 → Int32 → Int32 → ag_H → ag_R) (l0 : Option Nat) (l1 : Option Nat) (l2 : Option Nat) (l3 : Int32) (l4 : Int32) (l5 : Int32) (h : ag_H) : ag_R :=
  if l3 ≤ l5 then
    f92_80 call b26 l4 h
  else
    if l4 = (ag_lit 0) then
      ag_gI h l0 10 9 fun x1 =>
      ag_gI h l0 10 10 fun x2 =>
      ag_at h l0 10 fun a3 _ => ag_bR (call 93 [.inr (some a3), .inr l1] h) fun x5 h4 =>
      ag_at h4 l2 4 fun a6 _ => ag_bI (call 27 [.inr (some a6), .inl l5] h4) fun x8 h7 =>
      ag_at h7 l0 10 fun a9 _ => ag_bI (call 94 [.inr (some a9), .inr x5, .inl x8] h7) fun x11 h10 =>
      ag_at h10 l0 10 fun a12 _ => ag_bV (call 95 [.inr (some a12), .inl x1, .inl x2] h10) fun h13 =>
      b26 l0 l1 l2 l3 x11 (l5 + ag_lit 1) h13
    else
      f92_80 call b26 l4 h
/-- NameSpaces.walkNames(LNameSpaces$NameSpace;LNameSpaces$Path;I)C -/
def f92 (call : Nat → List ag_V → ag_H → ag_R) (b26 : Option Nat → Option Nat → Option Nat → Int32 → Int32 → Int32 → ag_H → ag_R) (l0 : Option Nat) (l1 : Option Nat) (l2 : Option Nat) (l3 : Int32) (h : ag_H) : ag_R :=
  ag_pF h l0 10 9 (.inl (ag_lit 0)) fun h1 =>
  ag_pF h1 l0 10 10 (.inl (ag_lit 0)) fun h2 =>
  ag_pF h2 l0 10 11 (.inl (ag_lit 0)) fun h3 =>
  ag_isB (ag_lit 1) <| ag_pF h3 l0 10 12 (.inl (ag_lit 1)) fun h4 =>
  f92_26 call b26 l0 l1 l2 l3 (ag_lit 0) (ag_lit 0) h4
def g92 (call : Nat → List ag_V → ag_H → ag_R) : Nat → Option Nat → Option Nat → Option Nat → Int32 → Int32 → Int32 → ag_H → ag_R
  | 0 => fun _ _ _ _ _ _ _ => none
  | n + 1 => f92_26 call (g92 call n)
set_option maxRecDepth 100000 in
set_option maxHeartbeats 4000000 in
theorem i92_26 (call : Nat → List ag_V → ag_H → ag_R) (B : ag_K4) (l0 : Option Nat) (l1 : Option Nat) (l2 : Option Nat) (l3 : Int32) (l4 : Int32) (l5 : Int32) (h : ag_H) : ag_in 3 call B t92 26 [some (.inr l0), some (.inr l1), some (.inr l2), some (.inl l3), some (.inl l4), some (.inl l5), none, none] [] h = f92_26 call (fun (l0 : Option Nat) (l1 : Option Nat) (l2 : Option Nat) (l3 : Int32) (l4 : Int32) (l5 : Int32) (h : ag_H) => B 26 [some (.inr l0), some (.inr l1), some (.inr l2), some (.inl l3), some (.inl l4), some (.inl l5), none, none] [] h) l0 l1 l2 l3 l4 l5 h := by
  rfl
set_option maxRecDepth 100000 in
set_option maxHeartbeats 4000000 in
theorem i92 (call : Nat → List ag_V → ag_H → ag_R) (B : ag_K4) (l0 : Option Nat) (l1 : Option Nat) (l2 : Option Nat) (l3 : Int32) (h : ag_H) : ag_in 3 call B t92 0 [some (.inr l0), some (.inr l1), some (.inr l2), some (.inl l3), none, none, none, none] [] h = f92 call (fun (l0 : Option Nat) (l1 : Option Nat) (l2 : Option Nat) (l3 : Int32) (l4 : Int32) (l5 : Int32) (h : ag_H) => B 26 [some (.inr l0), some (.inr l1), some (.inr l2), some (.inl l3), some (.inl l4), some (.inl l5), none, none] [] h) l0 l1 l2 l3 h := by
  rfl
set_option maxRecDepth 100000 in
set_option maxHeartbeats 4000000 in
theorem o92 (call : Nat → List ag_V → ag_H → ag_R) : ∀ n : Nat, (fun (l0 : Option Nat) (l1 : Option Nat) (l2 : Option Nat) (l3 : Int32) (l4 : Int32) (l5 : Int32) (h : ag_H) => (ag_out 3 call t92 n) 26 [some (.inr l0), some (.inr l1), some (.inr l2), some (.inl l3), some (.inl l4), some (.inl l5), none, none] [] h) = g92 call n := by
  intro n
  induction n with
  | zero => rfl
  | succ n ih =>
    funext l0 l1 l2 l3 l4 l5 h
    show ag_in 3 call (ag_out 3 call t92 n) t92 26 [some (.inr l0), some (.inr l1), some (.inr l2), some (.inl l3), some (.inl l4), some (.inl l5), none, none] [] h = f92_26 call (g92 call n) l0 l1 l2 l3 l4 l5 h
    rw [i92_26, ih]
set_option maxRecDepth 100000 in
set_option maxHeartbeats 4000000 in
theorem r92 (d : Nat) (l0 : Option Nat) (l1 : Option Nat) (l2 : Option Nat) (l3 : Int32) (h : ag_H) : ag_run gT (d + 1) 92 [.inr l0, .inr l1, .inr l2, .inl l3] h = f92 (ag_run gT d) (g92 (ag_run gT d) 3999) l0 l1 l2 l3 h := by
  show ag_out 3 (ag_run gT d) t92 4000 0 [some (.inr l0), some (.inr l1), some (.inr l2), some (.inl l3), none, none, none, none] [] h = _
  rw [ag_out_top, i92, o92]
/-- NameSpaces.standing(LNameSpaces$NameSpace;)LNameSpaces$Handles; -/
def f93 (call : Nat → List ag_V → ag_H → ag_R)  (l0 : Option Nat) (l1 : Option Nat) (h : ag_H) : ag_R :=
  ag_gI h l0 10 9 fun x1 =>
  ag_gI h l0 10 11 fun x2 =>
  ag_at h l1 2 fun a3 _ => ag_bI (call 14 [.inr (some a3), .inl x1, .inl x2] h) fun x5 h4 =>
  ag_at h4 l1 2 fun a6 _ => ag_bR (call 15 [.inr (some a6), .inl x5] h4) fun x8 h7 =>
  if x8 = none then
    ag_gR h7 l0 10 7 fun x9 =>
    ag_pF h7 x9 0 3 (.inl (ag_lit 0)) fun h10 =>
    ag_gR h10 l0 10 7 fun x11 =>
    ag_gI h10 l0 10 9 fun x12 =>
    ag_gI h10 l0 10 10 fun x13 =>
    ag_at h10 x11 0 fun a14 _ => ag_bV (call 1 [.inr (some a14), .inl (ag_lit 0), .inl x12, .inl x13, .inl (ag_lit 1)] h10) fun h15 =>
    ag_gR h15 l0 10 7 fun x16 =>
    some (.inl (some (.inr x16)), h15)
  else
    ag_gR h7 x8 5 0 fun x17 =>
    some (.inl (some (.inr x17)), h7)
set_option maxRecDepth 100000 in
set_option maxHeartbeats 4000000 in
theorem i93 (call : Nat → List ag_V → ag_H → ag_R) (B : ag_K4) (l0 : Option Nat) (l1 : Option Nat) (h : ag_H) : ag_in 2 call B t93 0 [some (.inr l0), some (.inr l1), none] [] h = f93 call  l0 l1 h := by
  rfl
set_option maxRecDepth 100000 in
set_option maxHeartbeats 4000000 in
theorem r93 (d : Nat) (l0 : Option Nat) (l1 : Option Nat) (h : ag_H) : ag_run gT (d + 1) 93 [.inr l0, .inr l1] h = f93 (ag_run gT d)  l0 l1 h := by
  show ag_out 2 (ag_run gT d) t93 4000 0 [some (.inr l0), some (.inr l1), none] [] h = _
  rw [ag_out_top, i93]
def f94_103 (call : Nat → List ag_V → ag_H → ag_R) (b6 : Option Nat → Option Nat → Int32 → Int32 → Int32 → ag_H → ag_R) (s0 : Option Nat) (s1 : Int32) (h : ag_H) : ag_R :=
  ag_isB s1 <| ag_pF h s0 10 12 (.inl s1) fun h1 =>
  ag_isC (ag_lit 0) (some (.inl (some (.inl (ag_lit 0))), h1))
def f94_6 (call : Nat → List ag_V → ag_H → ag_R) (b6 : Option Nat → Option Nat → Int32 → Int32 → Int32 → ag_H → ag_R) (l0 : Option Nat) (l1 : Option Nat) (l2 : Int32) (l3 : Int32) (l4 : Int32) (h : ag_H) : ag_R :=
  ag_gI h l1 0 3 fun x1 =>
  if x1 ≤ l4 then
    ag_isC l3 (some (.inl (some (.inl l3)), h))
  else
    ag_at h l1 0 fun a2 _ => ag_bI (call 3 [.inr (some a2), .inl l4] h) fun x4 h3 =>
    ag_at h3 l0 10 fun a5 _ => ag_bR (call 83 [.inr (some a5), .inl x4] h3) fun x7 h6 =>
    ag_at h6 x7 7 fun a8 _ => ag_bI (call 35 [.inr (some a8)] h6) fun x10 h9 =>
    ag_at h9 l1 0 fun a11 _ => ag_bI (call 4 [.inr (some a11), .inl l4] h9) fun x13 h12 =>
    ag_at h12 x7 7 fun a14 _ => ag_bI (call 39 [.inr (some a14), .inl x13, .inl x10, .inl l2] h12) fun x16 h15 =>
    if x16 = (ag_lit 0) then
      ag_pF h15 l0 10 9 (.inl x4) fun h17 =>
      ag_pF h17 l0 10 10 (.inl x10) fun h18 =>
      ag_gR h18 x7 7 1 fun x19 =>
      ag_at h18 x19 1 fun a20 _ => ag_bI (call 12 [.inr (some a20), .inl (ag_lit8 12)] h18) fun x22 h21 =>
      ag_pF h21 l0 10 11 (.inl x22) fun h23 =>
      ag_gR h23 x7 7 1 fun x24 =>
      ag_at h23 x24 1 fun a25 _ => ag_bI (call 10 [.inr (some a25), .inl (ag_lit8 7)] h23) fun x27 h26 =>
      if x27 = (ag_lit 1) then
        f94_103 call b6 l0 (ag_lit 1) h26
      else
        f94_103 call b6 l0 (ag_lit 0) h26
    else
      b6 l0 l1 l2 x16 (l4 + ag_lit 1) h15
/-- NameSpaces.walkFirst(LNameSpaces$Handles;C)C -/
def f94 (call : Nat → List ag_V → ag_H → ag_R) (b6 : Option Nat → Option Nat → Int32 → Int32 → Int32 → ag_H → ag_R) (l0 : Option Nat) (l1 : Option Nat) (l2 : Int32) (h : ag_H) : ag_R :=
  f94_6 call b6 l0 l1 l2 (ag_lit8 110) (ag_lit 0) h
def g94 (call : Nat → List ag_V → ag_H → ag_R) : Nat → Option Nat → Option Nat → Int32 → Int32 → Int32 → ag_H → ag_R
  | 0 => fun _ _ _ _ _ _ => none
  | n + 1 => f94_6 call (g94 call n)
set_option maxRecDepth 100000 in
set_option maxHeartbeats 4000000 in
theorem i94_6 (call : Nat → List ag_V → ag_H → ag_R) (B : ag_K4) (l0 : Option Nat) (l1 : Option Nat) (l2 : Int32) (l3 : Int32) (l4 : Int32) (h : ag_H) : ag_in 3 call B t94 6 [some (.inr l0), some (.inr l1), some (.inl l2), some (.inl l3), some (.inl l4), none, none, none] [] h = f94_6 call (fun (l0 : Option Nat) (l1 : Option Nat) (l2 : Int32) (l3 : Int32) (l4 : Int32) (h : ag_H) => B 6 [some (.inr l0), some (.inr l1), some (.inl l2), some (.inl l3), some (.inl l4), none, none, none] [] h) l0 l1 l2 l3 l4 h := by
  rfl
set_option maxRecDepth 100000 in
set_option maxHeartbeats 4000000 in
theorem i94 (call : Nat → List ag_V → ag_H → ag_R) (B : ag_K4) (l0 : Option Nat) (l1 : Option Nat) (l2 : Int32) (h : ag_H) : ag_in 3 call B t94 0 [some (.inr l0), some (.inr l1), some (.inl l2), none, none, none, none, none] [] h = f94 call (fun (l0 : Option Nat) (l1 : Option Nat) (l2 : Int32) (l3 : Int32) (l4 : Int32) (h : ag_H) => B 6 [some (.inr l0), some (.inr l1), some (.inl l2), some (.inl l3), some (.inl l4), none, none, none] [] h) l0 l1 l2 h := by
  rfl
set_option maxRecDepth 100000 in
set_option maxHeartbeats 4000000 in
theorem o94 (call : Nat → List ag_V → ag_H → ag_R) : ∀ n : Nat, (fun (l0 : Option Nat) (l1 : Option Nat) (l2 : Int32) (l3 : Int32) (l4 : Int32) (h : ag_H) => (ag_out 3 call t94 n) 6 [some (.inr l0), some (.inr l1), some (.inl l2), some (.inl l3), some (.inl l4), none, none, none] [] h) = g94 call n := by
  intro n
  induction n with
  | zero => rfl
  | succ n ih =>
    funext l0 l1 l2 l3 l4 h
    show ag_in 3 call (ag_out 3 call t94 n) t94 6 [some (.inr l0), some (.inr l1), some (.inl l2), some (.inl l3), some (.inl l4), none, none, none] [] h = f94_6 call (g94 call n) l0 l1 l2 l3 l4 h
    rw [i94_6, ih]
set_option maxRecDepth 100000 in
set_option maxHeartbeats 4000000 in
theorem r94 (d : Nat) (l0 : Option Nat) (l1 : Option Nat) (l2 : Int32) (h : ag_H) : ag_run gT (d + 1) 94 [.inr l0, .inr l1, .inl l2] h = f94 (ag_run gT d) (g94 (ag_run gT d) 3999) l0 l1 l2 h := by
  show ag_out 3 (ag_run gT d) t94 4000 0 [some (.inr l0), some (.inr l1), some (.inl l2), none, none, none, none, none] [] h = _
  rw [ag_out_top, i94, o94]
def f95_17 (call : Nat → List ag_V → ag_H → ag_R)   (h : ag_H) : ag_R :=
  some (.inl none, h)
/-- NameSpaces.letGo(II)V -/
def f95 (call : Nat → List ag_V → ag_H → ag_R)  (l0 : Option Nat) (l1 : Int32) (l2 : Int32) (h : ag_H) : ag_R :=
  ag_bI (call 82 [.inl l1, .inl l2] h) fun x2 h1 =>
  if x2 = (ag_lit 0) then
    ag_at h1 l0 10 fun a3 _ => ag_bR (call 83 [.inr (some a3), .inl l1] h1) fun x5 h4 =>
    ag_at h4 x5 7 fun a6 _ => ag_bV (call 44 [.inr (some a6), .inl l2] h4) fun h7 =>
    f95_17 call h7
  else
    f95_17 call h1
set_option maxRecDepth 100000 in
set_option maxHeartbeats 4000000 in
theorem i95 (call : Nat → List ag_V → ag_H → ag_R) (B : ag_K4) (l0 : Option Nat) (l1 : Int32) (l2 : Int32) (h : ag_H) : ag_in 0 call B t95 0 [some (.inr l0), some (.inl l1), some (.inl l2)] [] h = f95 call  l0 l1 l2 h := by
  rfl
set_option maxRecDepth 100000 in
set_option maxHeartbeats 4000000 in
theorem r95 (d : Nat) (l0 : Option Nat) (l1 : Int32) (l2 : Int32) (h : ag_H) : ag_run gT (d + 1) 95 [.inr l0, .inl l1, .inl l2] h = f95 (ag_run gT d)  l0 l1 l2 h := by
  show ag_out 0 (ag_run gT d) t95 4000 0 [some (.inr l0), some (.inl l1), some (.inl l2)] [] h = _
  rw [ag_out_top, i95]
def f96_2 (call : Nat → List ag_V → ag_H → ag_R) (b2 : Option Nat → Option Nat → Int32 → ag_H → ag_R) (l0 : Option Nat) (l1 : Option Nat) (l2 : Int32) (h : ag_H) : ag_R :=
  ag_gI h l1 0 3 fun x1 =>
  if x1 ≤ l2 then
    some (.inl none, h)
  else
    ag_at h l1 0 fun a2 _ => ag_bI (call 3 [.inr (some a2), .inl l2] h) fun x4 h3 =>
    ag_at h3 l0 10 fun a5 _ => ag_bR (call 83 [.inr (some a5), .inl x4] h3) fun x7 h6 =>
    ag_at h6 l1 0 fun a8 _ => ag_bI (call 4 [.inr (some a8), .inl l2] h6) fun x10 h9 =>
    ag_at h9 x7 7 fun a11 _ => ag_bV (call 44 [.inr (some a11), .inl x10] h9) fun h12 =>
    b2 l0 l1 (l2 + ag_lit 1) h12
/-- NameSpaces.clunkAll(LNameSpaces$Handles;)V -/
def f96 (call : Nat → List ag_V → ag_H → ag_R) (b2 : Option Nat → Option Nat → Int32 → ag_H → ag_R) (l0 : Option Nat) (l1 : Option Nat) (h : ag_H) : ag_R :=
  f96_2 call b2 l0 l1 (ag_lit 0) h
def g96 (call : Nat → List ag_V → ag_H → ag_R) : Nat → Option Nat → Option Nat → Int32 → ag_H → ag_R
  | 0 => fun _ _ _ _ => none
  | n + 1 => f96_2 call (g96 call n)
set_option maxRecDepth 100000 in
set_option maxHeartbeats 4000000 in
theorem i96_2 (call : Nat → List ag_V → ag_H → ag_R) (B : ag_K4) (l0 : Option Nat) (l1 : Option Nat) (l2 : Int32) (h : ag_H) : ag_in 0 call B t96 2 [some (.inr l0), some (.inr l1), some (.inl l2)] [] h = f96_2 call (fun (l0 : Option Nat) (l1 : Option Nat) (l2 : Int32) (h : ag_H) => B 2 [some (.inr l0), some (.inr l1), some (.inl l2)] [] h) l0 l1 l2 h := by
  rfl
set_option maxRecDepth 100000 in
set_option maxHeartbeats 4000000 in
theorem i96 (call : Nat → List ag_V → ag_H → ag_R) (B : ag_K4) (l0 : Option Nat) (l1 : Option Nat) (h : ag_H) : ag_in 0 call B t96 0 [some (.inr l0), some (.inr l1), none] [] h = f96 call (fun (l0 : Option Nat) (l1 : Option Nat) (l2 : Int32) (h : ag_H) => B 2 [some (.inr l0), some (.inr l1), some (.inl l2)] [] h) l0 l1 h := by
  rfl
set_option maxRecDepth 100000 in
set_option maxHeartbeats 4000000 in
theorem o96 (call : Nat → List ag_V → ag_H → ag_R) : ∀ n : Nat, (fun (l0 : Option Nat) (l1 : Option Nat) (l2 : Int32) (h : ag_H) => (ag_out 0 call t96 n) 2 [some (.inr l0), some (.inr l1), some (.inl l2)] [] h) = g96 call n := by
  intro n
  induction n with
  | zero => rfl
  | succ n ih =>
    funext l0 l1 l2 h
    show ag_in 0 call (ag_out 0 call t96 n) t96 2 [some (.inr l0), some (.inr l1), some (.inl l2)] [] h = f96_2 call (g96 call n) l0 l1 l2 h
    rw [i96_2, ih]
set_option maxRecDepth 100000 in
set_option maxHeartbeats 4000000 in
theorem r96 (d : Nat) (l0 : Option Nat) (l1 : Option Nat) (h : ag_H) : ag_run gT (d + 1) 96 [.inr l0, .inr l1] h = f96 (ag_run gT d) (g96 (ag_run gT d) 3999) l0 l1 h := by
  show ag_out 0 (ag_run gT d) t96 4000 0 [some (.inr l0), some (.inr l1), none] [] h = _
  rw [ag_out_top, i96, o96]
def f97_36 (call : Nat → List ag_V → ag_H → ag_R)  (s0 : Int32) (h : ag_H) : ag_R :=
  some (.inl (some (.inl s0)), h)
/-- NameSpaces.ownHandle()I -/
def f97 (call : Nat → List ag_V → ag_H → ag_R)  (l0 : Option Nat) (h : ag_H) : ag_R :=
  ag_gI h l0 10 9 fun x1 =>
  ag_gI h l0 10 10 fun x2 =>
  ag_bI (call 82 [.inl x1, .inl x2] h) fun x4 h3 =>
  if x4 = (ag_lit 0) then
    ag_gI h3 l0 10 10 fun x5 =>
    f97_36 call x5 h3
  else
    ag_gI h3 l0 10 9 fun x6 =>
    ag_at h3 l0 10 fun a7 _ => ag_bR (call 83 [.inr (some a7), .inl x6] h3) fun x9 h8 =>
    ag_gI h8 l0 10 10 fun x10 =>
    ag_at h8 x9 7 fun a11 _ => ag_bI (call 38 [.inr (some a11), .inl x10] h8) fun x13 h12 =>
    f97_36 call x13 h12
set_option maxRecDepth 100000 in
set_option maxHeartbeats 4000000 in
theorem i97 (call : Nat → List ag_V → ag_H → ag_R) (B : ag_K4) (l0 : Option Nat) (h : ag_H) : ag_in 1 call B t97 0 [some (.inr l0)] [] h = f97 call  l0 h := by
  rfl
set_option maxRecDepth 100000 in
set_option maxHeartbeats 4000000 in
theorem r97 (d : Nat) (l0 : Option Nat) (h : ag_H) : ag_run gT (d + 1) 97 [.inr l0] h = f97 (ag_run gT d)  l0 h := by
  show ag_out 1 (ag_run gT d) t97 4000 0 [some (.inr l0)] [] h = _
  rw [ag_out_top, i97]
def f98_64 (call : Nat → List ag_V → ag_H → ag_R)  (l2 : Option Nat) (l3 : Option Nat) (h : ag_H) : ag_R :=
  ag_gI h l3 0 3 fun x1 =>
  ag_pF h l2 3 2 (.inl x1) fun h2 =>
  some (.inl none, h2)
/-- NameSpaces.takeHandles(LNameSpaces$NameSpace;LNameSpaces$OpenFile;)V -/
def f98 (call : Nat → List ag_V → ag_H → ag_R)  (l0 : Option Nat) (l1 : Option Nat) (l2 : Option Nat) (h : ag_H) : ag_R :=
  ag_gR h l2 3 0 fun x1 =>
  ag_pF h x1 0 3 (.inl (ag_lit 0)) fun h2 =>
  ag_gI h2 l0 10 9 fun x3 =>
  ag_gI h2 l0 10 11 fun x4 =>
  ag_at h2 l1 2 fun a5 _ => ag_bI (call 14 [.inr (some a5), .inl x3, .inl x4] h2) fun x7 h6 =>
  if (ag_lit 0) ≤ x7 then
    ag_at h6 l0 10 fun a8 _ => ag_bR (call 93 [.inr (some a8), .inr l1] h6) fun x10 h9 =>
    ag_at h9 l0 10 fun a11 _ => ag_bV (call 99 [.inr (some a11), .inr x10, .inr x1] h9) fun h12 =>
    ag_gI h12 l0 10 9 fun x13 =>
    ag_gI h12 l0 10 10 fun x14 =>
    ag_at h12 l0 10 fun a15 _ => ag_bV (call 95 [.inr (some a15), .inl x13, .inl x14] h12) fun h16 =>
    f98_64 call l2 x1 h16
  else
    ag_gI h6 l0 10 9 fun x17 =>
    ag_at h6 l0 10 fun a18 _ => ag_bI (call 97 [.inr (some a18)] h6) fun x20 h19 =>
    ag_at h19 x1 0 fun a21 _ => ag_bV (call 1 [.inr (some a21), .inl (ag_lit 0), .inl x17, .inl x20, .inl (ag_lit 0)] h19) fun h22 =>
    f98_64 call l2 x1 h22
set_option maxRecDepth 100000 in
set_option maxHeartbeats 4000000 in
theorem i98 (call : Nat → List ag_V → ag_H → ag_R) (B : ag_K4) (l0 : Option Nat) (l1 : Option Nat) (l2 : Option Nat) (h : ag_H) : ag_in 0 call B t98 0 [some (.inr l0), some (.inr l1), some (.inr l2), none] [] h = f98 call  l0 l1 l2 h := by
  rfl
set_option maxRecDepth 100000 in
set_option maxHeartbeats 4000000 in
theorem r98 (d : Nat) (l0 : Option Nat) (l1 : Option Nat) (l2 : Option Nat) (h : ag_H) : ag_run gT (d + 1) 98 [.inr l0, .inr l1, .inr l2] h = f98 (ag_run gT d)  l0 l1 l2 h := by
  show ag_out 0 (ag_run gT d) t98 4000 0 [some (.inr l0), some (.inr l1), some (.inr l2), none] [] h = _
  rw [ag_out_top, i98]
def f99_2 (call : Nat → List ag_V → ag_H → ag_R) (b2 : Option Nat → Option Nat → Option Nat → Int32 → ag_H → ag_R) (l0 : Option Nat) (l1 : Option Nat) (l2 : Option Nat) (l3 : Int32) (h : ag_H) : ag_R :=
  ag_gI h l1 0 3 fun x1 =>
  if x1 ≤ l3 then
    some (.inl none, h)
  else
    ag_at h l1 0 fun a2 _ => ag_bI (call 3 [.inr (some a2), .inl l3] h) fun x4 h3 =>
    ag_gI h3 l2 0 3 fun x5 =>
    ag_at h3 l0 10 fun a6 _ => ag_bR (call 83 [.inr (some a6), .inl x4] h3) fun x8 h7 =>
    ag_at h7 l1 0 fun a9 _ => ag_bI (call 4 [.inr (some a9), .inl l3] h7) fun x11 h10 =>
    ag_at h10 x8 7 fun a12 _ => ag_bI (call 38 [.inr (some a12), .inl x11] h10) fun x14 h13 =>
    ag_at h13 l1 0 fun a15 _ => ag_bI (call 5 [.inr (some a15), .inl l3] h13) fun x17 h16 =>
    ag_at h16 l2 0 fun a18 _ => ag_bV (call 1 [.inr (some a18), .inl x5, .inl x4, .inl x14, .inl x17] h16) fun h19 =>
    b2 l0 l1 l2 (l3 + ag_lit 1) h19
/-- NameSpaces.copyHandles(LNameSpaces$Handles;LNameSpaces$Handles;)V -/
def f99 (call : Nat → List ag_V → ag_H → ag_R) (b2 : Option Nat → Option Nat → Option Nat → Int32 → ag_H → ag_R) (l0 : Option Nat) (l1 : Option Nat) (l2 : Option Nat) (h : ag_H) : ag_R :=
  f99_2 call b2 l0 l1 l2 (ag_lit 0) h
def g99 (call : Nat → List ag_V → ag_H → ag_R) : Nat → Option Nat → Option Nat → Option Nat → Int32 → ag_H → ag_R
  | 0 => fun _ _ _ _ _ => none
  | n + 1 => f99_2 call (g99 call n)
set_option maxRecDepth 100000 in
set_option maxHeartbeats 4000000 in
theorem i99_2 (call : Nat → List ag_V → ag_H → ag_R) (B : ag_K4) (l0 : Option Nat) (l1 : Option Nat) (l2 : Option Nat) (l3 : Int32) (h : ag_H) : ag_in 0 call B t99 2 [some (.inr l0), some (.inr l1), some (.inr l2), some (.inl l3), none] [] h = f99_2 call (fun (l0 : Option Nat) (l1 : Option Nat) (l2 : Option Nat) (l3 : Int32) (h : ag_H) => B 2 [some (.inr l0), some (.inr l1), some (.inr l2), some (.inl l3), none] [] h) l0 l1 l2 l3 h := by
  rfl
set_option maxRecDepth 100000 in
set_option maxHeartbeats 4000000 in
theorem i99 (call : Nat → List ag_V → ag_H → ag_R) (B : ag_K4) (l0 : Option Nat) (l1 : Option Nat) (l2 : Option Nat) (h : ag_H) : ag_in 0 call B t99 0 [some (.inr l0), some (.inr l1), some (.inr l2), none, none] [] h = f99 call (fun (l0 : Option Nat) (l1 : Option Nat) (l2 : Option Nat) (l3 : Int32) (h : ag_H) => B 2 [some (.inr l0), some (.inr l1), some (.inr l2), some (.inl l3), none] [] h) l0 l1 l2 h := by
  rfl
set_option maxRecDepth 100000 in
set_option maxHeartbeats 4000000 in
theorem o99 (call : Nat → List ag_V → ag_H → ag_R) : ∀ n : Nat, (fun (l0 : Option Nat) (l1 : Option Nat) (l2 : Option Nat) (l3 : Int32) (h : ag_H) => (ag_out 0 call t99 n) 2 [some (.inr l0), some (.inr l1), some (.inr l2), some (.inl l3), none] [] h) = g99 call n := by
  intro n
  induction n with
  | zero => rfl
  | succ n ih =>
    funext l0 l1 l2 l3 h
    show ag_in 0 call (ag_out 0 call t99 n) t99 2 [some (.inr l0), some (.inr l1), some (.inr l2), some (.inl l3), none] [] h = f99_2 call (g99 call n) l0 l1 l2 l3 h
    rw [i99_2, ih]
set_option maxRecDepth 100000 in
set_option maxHeartbeats 4000000 in
theorem r99 (d : Nat) (l0 : Option Nat) (l1 : Option Nat) (l2 : Option Nat) (h : ag_H) : ag_run gT (d + 1) 99 [.inr l0, .inr l1, .inr l2] h = f99 (ag_run gT d) (g99 (ag_run gT d) 3999) l0 l1 l2 h := by
  show ag_out 0 (ag_run gT d) t99 4000 0 [some (.inr l0), some (.inr l1), some (.inr l2), none, none] [] h = _
  rw [ag_out_top, i99, o99]
def f100_79 (call : Nat → List ag_V → ag_H → ag_R) (b14 : Option Nat → Option Nat → Int32 → Int32 → Int32 → Int32 → Int32 → ag_H → ag_R) (l0 : Option Nat) (l1 : Option Nat) (l2 : Int32) (l3 : Int32) (l4 : Int32) (l5 : Int32) (l6 : Int32) (h : ag_H) : ag_R :=
  b14 l0 l1 l2 l3 l4 l5 (l6 + ag_lit 1) h
def f100_14 (call : Nat → List ag_V → ag_H → ag_R) (b14 : Option Nat → Option Nat → Int32 → Int32 → Int32 → Int32 → Int32 → ag_H → ag_R) (l0 : Option Nat) (l1 : Option Nat) (l2 : Int32) (l3 : Int32) (l4 : Int32) (l5 : Int32) (l6 : Int32) (h : ag_H) : ag_R :=
  if l4 ≤ l6 then
    ag_isC l3 (some (.inl (some (.inl l3)), h))
  else
    ag_at h l1 0 fun a1 _ => ag_bI (call 3 [.inr (some a1), .inl l5] h) fun x3 h2 =>
    ag_at h2 l1 0 fun a4 _ => ag_bI (call 4 [.inr (some a4), .inl l5] h2) fun x6 h5 =>
    ag_at h5 l0 10 fun a7 _ => ag_bR (call 83 [.inr (some a7), .inl x3] h5) fun x9 h8 =>
    ag_at h8 x9 7 fun a10 _ => ag_bI (call 40 [.inr (some a10), .inl x6, .inl l2] h8) fun x12 h11 =>
    if x12 = (ag_lit 0) then
      f100_79 call b14 l0 l1 l2 l3 l4 (l5 + ag_lit 1) l6 h11
    else
      ag_at h11 l0 10 fun a13 _ => ag_bV (call 95 [.inr (some a13), .inl x3, .inl x6] h11) fun h14 =>
      ag_at h14 l1 0 fun a15 _ => ag_bV (call 2 [.inr (some a15), .inl l5] h14) fun h16 =>
      f100_79 call b14 l0 l1 l2 x12 l4 l5 l6 h16
/-- NameSpaces.openHandles(LNameSpaces$Handles;I)C -/
def f100 (call : Nat → List ag_V → ag_H → ag_R) (b14 : Option Nat → Option Nat → Int32 → Int32 → Int32 → Int32 → Int32 → ag_H → ag_R) (l0 : Option Nat) (l1 : Option Nat) (l2 : Int32) (h : ag_H) : ag_R :=
  ag_gI h l1 0 3 fun x1 =>
  f100_14 call b14 l0 l1 l2 (ag_lit 0) x1 (ag_lit 0) (ag_lit 0) h
def g100 (call : Nat → List ag_V → ag_H → ag_R) : Nat → Option Nat → Option Nat → Int32 → Int32 → Int32 → Int32 → Int32 → ag_H → ag_R
  | 0 => fun _ _ _ _ _ _ _ _ => none
  | n + 1 => f100_14 call (g100 call n)
set_option maxRecDepth 100000 in
set_option maxHeartbeats 4000000 in
theorem i100_14 (call : Nat → List ag_V → ag_H → ag_R) (B : ag_K4) (l0 : Option Nat) (l1 : Option Nat) (l2 : Int32) (l3 : Int32) (l4 : Int32) (l5 : Int32) (l6 : Int32) (h : ag_H) : ag_in 3 call B t100 14 [some (.inr l0), some (.inr l1), some (.inl l2), some (.inl l3), some (.inl l4), some (.inl l5), some (.inl l6), none, none, none] [] h = f100_14 call (fun (l0 : Option Nat) (l1 : Option Nat) (l2 : Int32) (l3 : Int32) (l4 : Int32) (l5 : Int32) (l6 : Int32) (h : ag_H) => B 14 [some (.inr l0), some (.inr l1), some (.inl l2), some (.inl l3), some (.inl l4), some (.inl l5), some (.inl l6), none, none, none] [] h) l0 l1 l2 l3 l4 l5 l6 h := by
  rfl
set_option maxRecDepth 100000 in
set_option maxHeartbeats 4000000 in
theorem i100 (call : Nat → List ag_V → ag_H → ag_R) (B : ag_K4) (l0 : Option Nat) (l1 : Option Nat) (l2 : Int32) (h : ag_H) : ag_in 3 call B t100 0 [some (.inr l0), some (.inr l1), some (.inl l2), none, none, none, none, none, none, none] [] h = f100 call (fun (l0 : Option Nat) (l1 : Option Nat) (l2 : Int32) (l3 : Int32) (l4 : Int32) (l5 : Int32) (l6 : Int32) (h : ag_H) => B 14 [some (.inr l0), some (.inr l1), some (.inl l2), some (.inl l3), some (.inl l4), some (.inl l5), some (.inl l6), none, none, none] [] h) l0 l1 l2 h := by
  rfl
set_option maxRecDepth 100000 in
set_option maxHeartbeats 4000000 in
theorem o100 (call : Nat → List ag_V → ag_H → ag_R) : ∀ n : Nat, (fun (l0 : Option Nat) (l1 : Option Nat) (l2 : Int32) (l3 : Int32) (l4 : Int32) (l5 : Int32) (l6 : Int32) (h : ag_H) => (ag_out 3 call t100 n) 14 [some (.inr l0), some (.inr l1), some (.inl l2), some (.inl l3), some (.inl l4), some (.inl l5), some (.inl l6), none, none, none] [] h) = g100 call n := by
  intro n
  induction n with
  | zero => rfl
  | succ n ih =>
    funext l0 l1 l2 l3 l4 l5 l6 h
    show ag_in 3 call (ag_out 3 call t100 n) t100 14 [some (.inr l0), some (.inr l1), some (.inl l2), some (.inl l3), some (.inl l4), some (.inl l5), some (.inl l6), none, none, none] [] h = f100_14 call (g100 call n) l0 l1 l2 l3 l4 l5 l6 h
    rw [i100_14, ih]
set_option maxRecDepth 100000 in
set_option maxHeartbeats 4000000 in
theorem r100 (d : Nat) (l0 : Option Nat) (l1 : Option Nat) (l2 : Int32) (h : ag_H) : ag_run gT (d + 1) 100 [.inr l0, .inr l1, .inl l2] h = f100 (ag_run gT d) (g100 (ag_run gT d) 3999) l0 l1 l2 h := by
  show ag_out 3 (ag_run gT d) t100 4000 0 [some (.inr l0), some (.inr l1), some (.inl l2), none, none, none, none, none, none, none] [] h = _
  rw [ag_out_top, i100, o100]
def f101_146 (call : Nat → List ag_V → ag_H → ag_R)  (l2 : Option Nat) (l6 : Int32) (l7 : Int32) (s0 : Option Nat) (s1 : Int32) (s2 : Int32) (h : ag_H) : ag_R :=
  ag_at h s0 7 fun a1 _ => ag_bI (call 40 [.inr (some a1), .inl s1, .inl s2] h) fun x3 h2 =>
  ag_gR h2 l2 3 0 fun x4 =>
  ag_pF h2 x4 0 3 (.inl (ag_lit 0)) fun h5 =>
  ag_gR h5 l2 3 0 fun x6 =>
  ag_at h5 x6 0 fun a7 _ => ag_bV (call 1 [.inr (some a7), .inl (ag_lit 0), .inl l6, .inl l7, .inl (ag_lit 0)] h5) fun h8 =>
  ag_pF h8 l2 3 2 (.inl (ag_lit 1)) fun h9 =>
  some (.inl none, h9)
def f101_129 (call : Nat → List ag_V → ag_H → ag_R)  (l0 : Option Nat) (l2 : Option Nat) (l3 : Int32) (l6 : Int32) (l7 : Int32) (h : ag_H) : ag_R :=
  ag_at h l0 10 fun a1 _ => ag_bR (call 83 [.inr (some a1), .inl l6] h) fun x3 h2 =>
  if l3 = (ag_lit 0) then
    f101_146 call l2 l6 l7 x3 l7 (ag_lit 2) h2
  else
    f101_146 call l2 l6 l7 x3 l7 (ag_lit 0) h2
/-- NameSpaces.makeFile(LNameSpaces$NameSpace;LNameSpaces$OpenFile;Z)V -/
def f101 (call : Nat → List ag_V → ag_H → ag_R)  (l0 : Option Nat) (l1 : Option Nat) (l2 : Option Nat) (l3 : Int32) (h : ag_H) : ag_R :=
  ag_at h l0 10 fun a1 _ => ag_bR (call 93 [.inr (some a1), .inr l1] h) fun x3 h2 =>
  ag_at h2 x3 0 fun a4 _ => ag_bI (call 6 [.inr (some a4)] h2) fun x6 h5 =>
  if (ag_lit 0) ≤ x6 then
    ag_at h5 x3 0 fun a7 _ => ag_bI (call 3 [.inr (some a7), .inl x6] h5) fun x9 h8 =>
    ag_at h8 l0 10 fun a10 _ => ag_bR (call 83 [.inr (some a10), .inl x9] h8) fun x12 h11 =>
    ag_at h11 x3 0 fun a13 _ => ag_bI (call 4 [.inr (some a13), .inl x6] h11) fun x15 h14 =>
    ag_at h14 x12 7 fun a16 _ => ag_bI (call 38 [.inr (some a16), .inl x15] h14) fun x18 h17 =>
    ag_gI h17 l0 10 9 fun x19 =>
    ag_gI h17 l0 10 10 fun x20 =>
    ag_at h17 l0 10 fun a21 _ => ag_bV (call 95 [.inr (some a21), .inl x19, .inl x20] h17) fun h22 =>
    ag_at h22 l0 10 fun a23 _ => ag_bR (call 83 [.inr (some a23), .inl x9] h22) fun x25 h24 =>
    ag_gR h24 l0 10 5 fun x26 =>
    ag_gR h24 l0 10 5 fun x27 =>
    ag_gI h24 x27 4 1 fun x28 =>
    ag_at h24 x26 4 fun a29 _ => ag_bI (call 27 [.inr (some a29), .inl (x28 - (ag_lit 1))] h24) fun x31 h30 =>
    ag_at h30 x25 7 fun a32 _ => ag_bI (call 41 [.inr (some a32), .inl x18, .inl x31, .inl l3] h30) fun x34 h33 =>
    if x34 = (ag_lit 0) then
      f101_129 call l0 l2 l3 x9 x18 h33
    else
      ag_at h33 l0 10 fun a35 _ => ag_bV (call 95 [.inr (some a35), .inl x9, .inl x18] h33) fun h36 =>
      ag_bV (call 90 [.inl x34] h36) fun h37 =>
      f101_129 call l0 l2 l3 x9 x18 h37
  else
    ag_gI h5 l0 10 9 fun x38 =>
    ag_gI h5 l0 10 10 fun x39 =>
    ag_at h5 l0 10 fun a40 _ => ag_bV (call 95 [.inr (some a40), .inl x38, .inl x39] h5) fun h41 =>
    some (.inr 3, ag_thr h41)
set_option maxRecDepth 100000 in
set_option maxHeartbeats 4000000 in
theorem i101 (call : Nat → List ag_V → ag_H → ag_R) (B : ag_K4) (l0 : Option Nat) (l1 : Option Nat) (l2 : Option Nat) (l3 : Int32) (h : ag_H) : ag_in 0 call B t101 0 [some (.inr l0), some (.inr l1), some (.inr l2), some (.inl l3), none, none, none, none, none] [] h = f101 call  l0 l1 l2 l3 h := by
  rfl
set_option maxRecDepth 100000 in
set_option maxHeartbeats 4000000 in
theorem r101 (d : Nat) (l0 : Option Nat) (l1 : Option Nat) (l2 : Option Nat) (l3 : Int32) (h : ag_H) : ag_run gT (d + 1) 101 [.inr l0, .inr l1, .inr l2, .inl l3] h = f101 (ag_run gT d)  l0 l1 l2 l3 h := by
  show ag_out 0 (ag_run gT d) t101 4000 0 [some (.inr l0), some (.inr l1), some (.inr l2), some (.inl l3), none, none, none, none, none] [] h = _
  rw [ag_out_top, i101]
/-- NameSpaces.closeFile(LNameSpaces$OpenFile;)V -/
def f102 (call : Nat → List ag_V → ag_H → ag_R)  (l0 : Option Nat) (l1 : Option Nat) (h : ag_H) : ag_R :=
  ag_gR h l1 3 0 fun x1 =>
  ag_at h l0 10 fun a2 _ => ag_bV (call 96 [.inr (some a2), .inr x1] h) fun h3 =>
  ag_isB (ag_lit 0) <| ag_pF h3 l1 3 1 (.inl (ag_lit 0)) fun h4 =>
  some (.inl none, h4)
set_option maxRecDepth 100000 in
set_option maxHeartbeats 4000000 in
theorem i102 (call : Nat → List ag_V → ag_H → ag_R) (B : ag_K4) (l0 : Option Nat) (l1 : Option Nat) (h : ag_H) : ag_in 0 call B t102 0 [some (.inr l0), some (.inr l1)] [] h = f102 call  l0 l1 h := by
  rfl
set_option maxRecDepth 100000 in
set_option maxHeartbeats 4000000 in
theorem r102 (d : Nat) (l0 : Option Nat) (l1 : Option Nat) (h : ag_H) : ag_run gT (d + 1) 102 [.inr l0, .inr l1] h = f102 (ag_run gT d)  l0 l1 h := by
  show ag_out 0 (ag_run gT d) t102 4000 0 [some (.inr l0), some (.inr l1)] [] h = _
  rw [ag_out_top, i102]
def f103_207 (call : Nat → List ag_V → ag_H → ag_R)  (l9 : Option Nat) (s0 : Option Nat) (s1 : Int32) (s2 : Int32) (s3 : Int32) (s4 : Int32) (h : ag_H) : ag_R :=
  ag_at h s0 0 fun a1 _ => ag_bV (call 1 [.inr (some a1), .inl s1, .inl s2, .inl s3, .inl s4] h) fun h2 =>
  ag_gI h2 l9 0 3 fun x3 =>
  some (.inl (some (.inl x3)), h2)
def f103_192 (call : Nat → List ag_V → ag_H → ag_R)  (l2 : Int32) (l3 : Int32) (l4 : Int32) (l9 : Option Nat) (s0 : Option Nat) (s1 : Int32) (h : ag_H) : ag_R :=
  ag_dv (ag_lit 4) <|
  if (l4 / (ag_lit 4)) = (ag_lit 1) then
    f103_207 call l9 s0 s1 l2 l3 (ag_lit 1) h
  else
    f103_207 call l9 s0 s1 l2 l3 (ag_lit 0) h
def f103_171 (call : Nat → List ag_V → ag_H → ag_R)  (l2 : Int32) (l3 : Int32) (l4 : Int32) (s0 : Option Nat) (h : ag_H) : ag_R :=
  ag_dv (ag_lit 4) <|
  if (l4 - l4 / (ag_lit 4) * (ag_lit 4)) = (ag_lit 1) then
    f103_192 call l2 l3 l4 s0 s0 (ag_lit 0) h
  else
    ag_gI h s0 0 3 fun x1 =>
    f103_192 call l2 l3 l4 s0 s0 x1 h
def f103_148 (call : Nat → List ag_V → ag_H → ag_R)  (l0 : Option Nat) (l1 : Option Nat) (l2 : Int32) (l3 : Int32) (l4 : Int32) (l6 : Option Nat) (l7 : Int32) (h : ag_H) : ag_R :=
  if l6 = none then
    ag_at h l0 10 fun a4 _ => ag_bR (call 105 [.inr (some a4), .inr l1, .inl l7] h) fun x6 h5 =>
    f103_171 call l2 l3 l4 x6 h5
  else
    ag_at h l0 10 fun a1 _ => ag_bR (call 106 [.inr (some a1), .inr l6, .inl l7] h) fun x3 h2 =>
    f103_171 call l2 l3 l4 x3 h2
def f103_123 (call : Nat → List ag_V → ag_H → ag_R)  (l0 : Option Nat) (l1 : Option Nat) (l2 : Int32) (l3 : Int32) (l4 : Int32) (l6 : Option Nat) (l7 : Int32) (h : ag_H) : ag_R :=
  ag_gI h l0 10 9 fun x1 =>
  ag_gI h l0 10 10 fun x2 =>
  ag_at h l0 10 fun a3 _ => ag_bV (call 95 [.inr (some a3), .inl x1, .inl x2] h) fun h4 =>
  ag_at h4 l0 10 fun a5 _ => ag_bV (call 95 [.inr (some a5), .inl l2, .inl l3] h4) fun h6 =>
  ag_gI h6 l0 10 12 fun x7 =>
  ag_bV (call 104 [.inl x7] h6) fun h8 =>
  f103_148 call l0 l1 l2 l3 l4 l6 l7 h8
def f103_109 (call : Nat → List ag_V → ag_H → ag_R)  (l0 : Option Nat) (l1 : Option Nat) (l2 : Int32) (l3 : Int32) (l4 : Int32) (l6 : Option Nat) (l7 : Int32) (s0 : Int32) (h : ag_H) : ag_R :=
  ag_gI h l0 10 12 fun x1 =>
  if x1 = (ag_lit 0) then
    f103_123 call l0 l1 l2 l3 l4 l6 l7 h
  else
    if s0 = (ag_lit 0) then
      f103_148 call l0 l1 l2 l3 l4 l6 l7 h
    else
      f103_123 call l0 l1 l2 l3 l4 l6 l7 h
def f103_108 (call : Nat → List ag_V → ag_H → ag_R)  (l0 : Option Nat) (l1 : Option Nat) (l2 : Int32) (l3 : Int32) (l4 : Int32) (l6 : Option Nat) (l7 : Int32) (h : ag_H) : ag_R :=
  f103_109 call l0 l1 l2 l3 l4 l6 l7 (ag_lit 0) h
def f103_64 (call : Nat → List ag_V → ag_H → ag_R)  (l0 : Option Nat) (l1 : Option Nat) (l2 : Int32) (l3 : Int32) (l4 : Int32) (l6 : Option Nat) (s0 : Int32) (h : ag_H) : ag_R :=
  if l6 = none then
    ag_gI h l1 2 1 fun x3 =>
    if x3 < (ag_lit 4) then
      f103_109 call l0 l1 l2 l3 l4 l6 s0 (ag_lit 0) h
    else
      f103_109 call l0 l1 l2 l3 l4 l6 s0 (ag_lit 1) h
  else
    if s0 = (ag_lit 0) then
      ag_gR h l6 5 0 fun x1 =>
      ag_gI h x1 0 3 fun x2 =>
      if x2 < (ag_lit 3) then
        f103_108 call l0 l1 l2 l3 l4 l6 s0 h
      else
        f103_109 call l0 l1 l2 l3 l4 l6 s0 (ag_lit 1) h
    else
      f103_108 call l0 l1 l2 l3 l4 l6 s0 h
def f103_34 (call : Nat → List ag_V → ag_H → ag_R)  (l0 : Option Nat) (l1 : Option Nat) (l2 : Int32) (l3 : Int32) (l4 : Int32) (h : ag_H) : ag_R :=
  ag_gI h l0 10 9 fun x1 =>
  ag_gI h l0 10 11 fun x2 =>
  ag_at h l1 2 fun a3 _ => ag_bI (call 14 [.inr (some a3), .inl x1, .inl x2] h) fun x5 h4 =>
  ag_at h4 l1 2 fun a6 _ => ag_bR (call 15 [.inr (some a6), .inl x5] h4) fun x8 h7 =>
  ag_dv (ag_lit 4) <|
  if (l4 - l4 / (ag_lit 4) * (ag_lit 4)) = (ag_lit 0) then
    f103_64 call l0 l1 l2 l3 l4 x8 (ag_lit 1) h7
  else
    f103_64 call l0 l1 l2 l3 l4 x8 (ag_lit 0) h7
/-- NameSpaces.join(LNameSpaces$NameSpace;III)I -/
def f103 (call : Nat → List ag_V → ag_H → ag_R)  (l0 : Option Nat) (l1 : Option Nat) (l2 : Int32) (l3 : Int32) (l4 : Int32) (h : ag_H) : ag_R :=
  ag_gR h l0 10 5 fun x1 =>
  ag_gR h l0 10 5 fun x2 =>
  ag_gI h x2 4 1 fun x3 =>
  ag_at h l0 10 fun a4 _ => ag_bI (call 92 [.inr (some a4), .inr l1, .inr x1, .inl x3] h) fun x6 h5 =>
  if x6 = (ag_lit 0) then
    f103_34 call l0 l1 l2 l3 l4 h5
  else
    ag_at h5 l0 10 fun a7 _ => ag_bV (call 95 [.inr (some a7), .inl l2, .inl l3] h5) fun h8 =>
    ag_bV (call 88 [.inl x6] h8) fun h9 =>
    f103_34 call l0 l1 l2 l3 l4 h9
set_option maxRecDepth 100000 in
set_option maxHeartbeats 4000000 in
theorem i103 (call : Nat → List ag_V → ag_H → ag_R) (B : ag_K4) (l0 : Option Nat) (l1 : Option Nat) (l2 : Int32) (l3 : Int32) (l4 : Int32) (h : ag_H) : ag_in 1 call B t103 0 [some (.inr l0), some (.inr l1), some (.inl l2), some (.inl l3), some (.inl l4), none, none, none, none, none] [] h = f103 call  l0 l1 l2 l3 l4 h := by
  rfl
set_option maxRecDepth 100000 in
set_option maxHeartbeats 4000000 in
theorem r103 (d : Nat) (l0 : Option Nat) (l1 : Option Nat) (l2 : Int32) (l3 : Int32) (l4 : Int32) (h : ag_H) : ag_run gT (d + 1) 103 [.inr l0, .inr l1, .inl l2, .inl l3, .inl l4] h = f103 (ag_run gT d)  l0 l1 l2 l3 l4 h := by
  show ag_out 1 (ag_run gT d) t103 4000 0 [some (.inr l0), some (.inr l1), some (.inl l2), some (.inl l3), some (.inl l4), none, none, none, none, none] [] h = _
  rw [ag_out_top, i103]
/-- NameSpaces.refuseJoining(Z)V -/
def f104 (call : Nat → List ag_V → ag_H → ag_R)  (l0 : Int32) (h : ag_H) : ag_R :=
  if l0 = (ag_lit 0) then
    some (.inr 3, ag_thr h)
  else
    some (.inr 1, ag_thr h)
set_option maxRecDepth 100000 in
set_option maxHeartbeats 4000000 in
theorem i104 (call : Nat → List ag_V → ag_H → ag_R) (B : ag_K4) (l0 : Int32) (h : ag_H) : ag_in 0 call B t104 0 [some (.inl l0)] [] h = f104 call  l0 h := by
  rfl
set_option maxRecDepth 100000 in
set_option maxHeartbeats 4000000 in
theorem r104 (d : Nat) (l0 : Int32) (h : ag_H) : ag_run gT (d + 1) 104 [.inl l0] h = f104 (ag_run gT d)  l0 h := by
  show ag_out 0 (ag_run gT d) t104 4000 0 [some (.inl l0)] [] h = _
  rw [ag_out_top, i104]
def f105_46 (call : Nat → List ag_V → ag_H → ag_R)  (l3 : Option Nat) (h : ag_H) : ag_R :=
  some (.inl (some (.inr l3)), h)
/-- NameSpaces.newMembers(LNameSpaces$NameSpace;Z)LNameSpaces$Handles; -/
def f105 (call : Nat → List ag_V → ag_H → ag_R)  (l0 : Option Nat) (l1 : Option Nat) (l2 : Int32) (h : ag_H) : ag_R :=
  ag_gI h l0 10 9 fun x1 =>
  ag_gI h l0 10 11 fun x2 =>
  ag_at h l1 2 fun a3 _ => ag_bR (call 16 [.inr (some a3), .inl x1, .inl x2] h) fun x5 h4 =>
  if l2 = (ag_lit 0) then
    ag_gI h4 l0 10 9 fun x6 =>
    ag_at h4 l0 10 fun a7 _ => ag_bI (call 97 [.inr (some a7)] h4) fun x9 h8 =>
    ag_at h8 x5 0 fun a10 _ => ag_bV (call 1 [.inr (some a10), .inl (ag_lit 0), .inl x6, .inl x9, .inl (ag_lit 1)] h8) fun h11 =>
    f105_46 call x5 h11
  else
    ag_gI h4 l0 10 9 fun x12 =>
    ag_gI h4 l0 10 10 fun x13 =>
    ag_at h4 l0 10 fun a14 _ => ag_bV (call 95 [.inr (some a14), .inl x12, .inl x13] h4) fun h15 =>
    f105_46 call x5 h15
set_option maxRecDepth 100000 in
set_option maxHeartbeats 4000000 in
theorem i105 (call : Nat → List ag_V → ag_H → ag_R) (B : ag_K4) (l0 : Option Nat) (l1 : Option Nat) (l2 : Int32) (h : ag_H) : ag_in 2 call B t105 0 [some (.inr l0), some (.inr l1), some (.inl l2), none] [] h = f105 call  l0 l1 l2 h := by
  rfl
set_option maxRecDepth 100000 in
set_option maxHeartbeats 4000000 in
theorem r105 (d : Nat) (l0 : Option Nat) (l1 : Option Nat) (l2 : Int32) (h : ag_H) : ag_run gT (d + 1) 105 [.inr l0, .inr l1, .inl l2] h = f105 (ag_run gT d)  l0 l1 l2 h := by
  show ag_out 2 (ag_run gT d) t105 4000 0 [some (.inr l0), some (.inr l1), some (.inl l2), none] [] h = _
  rw [ag_out_top, i105]
def f106_20 (call : Nat → List ag_V → ag_H → ag_R)  (l0 : Option Nat) (l1 : Option Nat) (h : ag_H) : ag_R :=
  ag_gI h l0 10 9 fun x1 =>
  ag_gI h l0 10 10 fun x2 =>
  ag_at h l0 10 fun a3 _ => ag_bV (call 95 [.inr (some a3), .inl x1, .inl x2] h) fun h4 =>
  ag_gR h4 l1 5 0 fun x5 =>
  some (.inl (some (.inr x5)), h4)
/-- NameSpaces.oldMembers(LNameSpaces$Place;Z)LNameSpaces$Handles; -/
def f106 (call : Nat → List ag_V → ag_H → ag_R)  (l0 : Option Nat) (l1 : Option Nat) (l2 : Int32) (h : ag_H) : ag_R :=
  if l2 = (ag_lit 0) then
    f106_20 call l0 l1 h
  else
    ag_gR h l1 5 0 fun x1 =>
    ag_at h l0 10 fun a2 _ => ag_bV (call 96 [.inr (some a2), .inr x1] h) fun h3 =>
    ag_gR h3 l1 5 0 fun x4 =>
    ag_pF h3 x4 0 3 (.inl (ag_lit 0)) fun h5 =>
    f106_20 call l0 l1 h5
set_option maxRecDepth 100000 in
set_option maxHeartbeats 4000000 in
theorem i106 (call : Nat → List ag_V → ag_H → ag_R) (B : ag_K4) (l0 : Option Nat) (l1 : Option Nat) (l2 : Int32) (h : ag_H) : ag_in 2 call B t106 0 [some (.inr l0), some (.inr l1), some (.inl l2)] [] h = f106 call  l0 l1 l2 h := by
  rfl
set_option maxRecDepth 100000 in
set_option maxHeartbeats 4000000 in
theorem r106 (d : Nat) (l0 : Option Nat) (l1 : Option Nat) (l2 : Int32) (h : ag_H) : ag_run gT (d + 1) 106 [.inr l0, .inr l1, .inl l2] h = f106 (ag_run gT d)  l0 l1 l2 h := by
  show ag_out 2 (ag_run gT d) t106 4000 0 [some (.inr l0), some (.inr l1), some (.inl l2)] [] h = _
  rw [ag_out_top, i106]
def f107_2 (call : Nat → List ag_V → ag_H → ag_R) (b2 : Option Nat → Int32 → ag_H → ag_R) (l0 : Option Nat) (l1 : Int32) (h : ag_H) : ag_R :=
  if (ag_lit 4) ≤ l1 then
    some (.inl (some (.inl (ag_lit (-1)))), h)
  else
    ag_gR h l0 10 2 fun x1 =>
    ag_xR h x1 105 l1 fun x2 =>
    ag_gR h x2 6 1 fun x3 =>
    if x3 = none then
      some (.inl (some (.inl l1)), h)
    else
      b2 l0 (l1 + ag_lit 1) h
/-- NameSpaces.leastAbsent()I -/
def f107 (call : Nat → List ag_V → ag_H → ag_R) (b2 : Option Nat → Int32 → ag_H → ag_R) (l0 : Option Nat) (h : ag_H) : ag_R :=
  f107_2 call b2 l0 (ag_lit 0) h
def g107 (call : Nat → List ag_V → ag_H → ag_R) : Nat → Option Nat → Int32 → ag_H → ag_R
  | 0 => fun _ _ _ => none
  | n + 1 => f107_2 call (g107 call n)
set_option maxRecDepth 100000 in
set_option maxHeartbeats 4000000 in
theorem i107_2 (call : Nat → List ag_V → ag_H → ag_R) (B : ag_K4) (l0 : Option Nat) (l1 : Int32) (h : ag_H) : ag_in 1 call B t107 2 [some (.inr l0), some (.inl l1)] [] h = f107_2 call (fun (l0 : Option Nat) (l1 : Int32) (h : ag_H) => B 2 [some (.inr l0), some (.inl l1)] [] h) l0 l1 h := by
  rfl
set_option maxRecDepth 100000 in
set_option maxHeartbeats 4000000 in
theorem i107 (call : Nat → List ag_V → ag_H → ag_R) (B : ag_K4) (l0 : Option Nat) (h : ag_H) : ag_in 1 call B t107 0 [some (.inr l0), none] [] h = f107 call (fun (l0 : Option Nat) (l1 : Int32) (h : ag_H) => B 2 [some (.inr l0), some (.inl l1)] [] h) l0 h := by
  rfl
set_option maxRecDepth 100000 in
set_option maxHeartbeats 4000000 in
theorem o107 (call : Nat → List ag_V → ag_H → ag_R) : ∀ n : Nat, (fun (l0 : Option Nat) (l1 : Int32) (h : ag_H) => (ag_out 1 call t107 n) 2 [some (.inr l0), some (.inl l1)] [] h) = g107 call n := by
  intro n
  induction n with
  | zero => rfl
  | succ n ih =>
    funext l0 l1 h
    show ag_in 1 call (ag_out 1 call t107 n) t107 2 [some (.inr l0), some (.inl l1)] [] h = f107_2 call (g107 call n) l0 l1 h
    rw [i107_2, ih]
set_option maxRecDepth 100000 in
set_option maxHeartbeats 4000000 in
theorem r107 (d : Nat) (l0 : Option Nat) (h : ag_H) : ag_run gT (d + 1) 107 [.inr l0] h = f107 (ag_run gT d) (g107 (ag_run gT d) 3999) l0 h := by
  show ag_out 1 (ag_run gT d) t107 4000 0 [some (.inr l0), none] [] h = _
  rw [ag_out_top, i107, o107]
def f108_24 (call : Nat → List ag_V → ag_H → ag_R) (b4 : Option Nat → Int32 → Int32 → ag_H → ag_R) (l0 : Option Nat) (l1 : Int32) (l2 : Int32) (h : ag_H) : ag_R :=
  b4 l0 l1 (l2 + ag_lit 1) h
def f108_4 (call : Nat → List ag_V → ag_H → ag_R) (b4 : Option Nat → Int32 → Int32 → ag_H → ag_R) (l0 : Option Nat) (l1 : Int32) (l2 : Int32) (h : ag_H) : ag_R :=
  if (ag_lit 4) ≤ l2 then
    some (.inl (some (.inl l1)), h)
  else
    ag_gR h l0 10 2 fun x1 =>
    ag_xR h x1 105 l2 fun x2 =>
    ag_gR h x2 6 1 fun x3 =>
    if x3 = none then
      f108_24 call b4 l0 l1 l2 h
    else
      f108_24 call b4 l0 (l1 + ag_lit 1) l2 h
/-- NameSpaces.processes()I -/
def f108 (call : Nat → List ag_V → ag_H → ag_R) (b4 : Option Nat → Int32 → Int32 → ag_H → ag_R) (l0 : Option Nat) (h : ag_H) : ag_R :=
  f108_4 call b4 l0 (ag_lit 0) (ag_lit 0) h
def g108 (call : Nat → List ag_V → ag_H → ag_R) : Nat → Option Nat → Int32 → Int32 → ag_H → ag_R
  | 0 => fun _ _ _ _ => none
  | n + 1 => f108_4 call (g108 call n)
set_option maxRecDepth 100000 in
set_option maxHeartbeats 4000000 in
theorem i108_4 (call : Nat → List ag_V → ag_H → ag_R) (B : ag_K4) (l0 : Option Nat) (l1 : Int32) (l2 : Int32) (h : ag_H) : ag_in 1 call B t108 4 [some (.inr l0), some (.inl l1), some (.inl l2)] [] h = f108_4 call (fun (l0 : Option Nat) (l1 : Int32) (l2 : Int32) (h : ag_H) => B 4 [some (.inr l0), some (.inl l1), some (.inl l2)] [] h) l0 l1 l2 h := by
  rfl
set_option maxRecDepth 100000 in
set_option maxHeartbeats 4000000 in
theorem i108 (call : Nat → List ag_V → ag_H → ag_R) (B : ag_K4) (l0 : Option Nat) (h : ag_H) : ag_in 1 call B t108 0 [some (.inr l0), none, none] [] h = f108 call (fun (l0 : Option Nat) (l1 : Int32) (l2 : Int32) (h : ag_H) => B 4 [some (.inr l0), some (.inl l1), some (.inl l2)] [] h) l0 h := by
  rfl
set_option maxRecDepth 100000 in
set_option maxHeartbeats 4000000 in
theorem o108 (call : Nat → List ag_V → ag_H → ag_R) : ∀ n : Nat, (fun (l0 : Option Nat) (l1 : Int32) (l2 : Int32) (h : ag_H) => (ag_out 1 call t108 n) 4 [some (.inr l0), some (.inl l1), some (.inl l2)] [] h) = g108 call n := by
  intro n
  induction n with
  | zero => rfl
  | succ n ih =>
    funext l0 l1 l2 h
    show ag_in 1 call (ag_out 1 call t108 n) t108 4 [some (.inr l0), some (.inl l1), some (.inl l2)] [] h = f108_4 call (g108 call n) l0 l1 l2 h
    rw [i108_4, ih]
set_option maxRecDepth 100000 in
set_option maxHeartbeats 4000000 in
theorem r108 (d : Nat) (l0 : Option Nat) (h : ag_H) : ag_run gT (d + 1) 108 [.inr l0] h = f108 (ag_run gT d) (g108 (ag_run gT d) 3999) l0 h := by
  show ag_out 1 (ag_run gT d) t108 4000 0 [some (.inr l0), none, none] [] h = _
  rw [ag_out_top, i108, o108]
def f109_2 (call : Nat → List ag_V → ag_H → ag_R) (b2 : Option Nat → Int32 → ag_H → ag_R) (l0 : Option Nat) (l1 : Int32) (h : ag_H) : ag_R :=
  if (ag_lit 4) ≤ l1 then
    some (.inl (some (.inr none)), h)
  else
    ag_gR h l0 10 1 fun x1 =>
    ag_xR h x1 104 l1 fun x2 =>
    ag_gI h x2 2 2 fun x3 =>
    if x3 = (ag_lit 0) then
      ag_gR h l0 10 1 fun x4 =>
      ag_xR h x4 104 l1 fun x5 =>
      some (.inl (some (.inr x5)), h)
    else
      b2 l0 (l1 + ag_lit 1) h
/-- NameSpaces.unusedSpace()LNameSpaces$NameSpace; -/
def f109 (call : Nat → List ag_V → ag_H → ag_R) (b2 : Option Nat → Int32 → ag_H → ag_R) (l0 : Option Nat) (h : ag_H) : ag_R :=
  f109_2 call b2 l0 (ag_lit 0) h
def g109 (call : Nat → List ag_V → ag_H → ag_R) : Nat → Option Nat → Int32 → ag_H → ag_R
  | 0 => fun _ _ _ => none
  | n + 1 => f109_2 call (g109 call n)
set_option maxRecDepth 100000 in
set_option maxHeartbeats 4000000 in
theorem i109_2 (call : Nat → List ag_V → ag_H → ag_R) (B : ag_K4) (l0 : Option Nat) (l1 : Int32) (h : ag_H) : ag_in 2 call B t109 2 [some (.inr l0), some (.inl l1)] [] h = f109_2 call (fun (l0 : Option Nat) (l1 : Int32) (h : ag_H) => B 2 [some (.inr l0), some (.inl l1)] [] h) l0 l1 h := by
  rfl
set_option maxRecDepth 100000 in
set_option maxHeartbeats 4000000 in
theorem i109 (call : Nat → List ag_V → ag_H → ag_R) (B : ag_K4) (l0 : Option Nat) (h : ag_H) : ag_in 2 call B t109 0 [some (.inr l0), none] [] h = f109 call (fun (l0 : Option Nat) (l1 : Int32) (h : ag_H) => B 2 [some (.inr l0), some (.inl l1)] [] h) l0 h := by
  rfl
set_option maxRecDepth 100000 in
set_option maxHeartbeats 4000000 in
theorem o109 (call : Nat → List ag_V → ag_H → ag_R) : ∀ n : Nat, (fun (l0 : Option Nat) (l1 : Int32) (h : ag_H) => (ag_out 2 call t109 n) 2 [some (.inr l0), some (.inl l1)] [] h) = g109 call n := by
  intro n
  induction n with
  | zero => rfl
  | succ n ih =>
    funext l0 l1 h
    show ag_in 2 call (ag_out 2 call t109 n) t109 2 [some (.inr l0), some (.inl l1)] [] h = f109_2 call (g109 call n) l0 l1 h
    rw [i109_2, ih]
set_option maxRecDepth 100000 in
set_option maxHeartbeats 4000000 in
theorem r109 (d : Nat) (l0 : Option Nat) (h : ag_H) : ag_run gT (d + 1) 109 [.inr l0] h = f109 (ag_run gT d) (g109 (ag_run gT d) 3999) l0 h := by
  show ag_out 2 (ag_run gT d) t109 4000 0 [some (.inr l0), none] [] h = _
  rw [ag_out_top, i109, o109]
def f110_50 (call : Nat → List ag_V → ag_H → ag_R) (b7 : Option Nat → Option Nat → Option Nat → Int32 → ag_H → ag_R) (l0 : Option Nat) (l1 : Option Nat) (l2 : Option Nat) (l3 : Int32) (h : ag_H) : ag_R :=
  b7 l0 l1 l2 (l3 + ag_lit 1) h
def f110_7 (call : Nat → List ag_V → ag_H → ag_R) (b7 : Option Nat → Option Nat → Option Nat → Int32 → ag_H → ag_R) (l0 : Option Nat) (l1 : Option Nat) (l2 : Option Nat) (l3 : Int32) (h : ag_H) : ag_R :=
  ag_gI h l1 2 1 fun x1 =>
  if x1 ≤ l3 then
    some (.inl none, h)
  else
    ag_at h l1 2 fun a2 _ => ag_bR (call 15 [.inr (some a2), .inl l3] h) fun x4 h3 =>
    if x4 = none then
      f110_50 call b7 l0 l1 l2 l3 h3
    else
      ag_gR h3 x4 5 0 fun x5 =>
      ag_gI h3 x4 5 1 fun x6 =>
      ag_gI h3 x4 5 2 fun x7 =>
      ag_at h3 l2 2 fun a8 _ => ag_bR (call 16 [.inr (some a8), .inl x6, .inl x7] h3) fun x10 h9 =>
      ag_at h9 l0 10 fun a11 _ => ag_bV (call 99 [.inr (some a11), .inr x5, .inr x10] h9) fun h12 =>
      f110_50 call b7 l0 l1 l2 l3 h12
/-- NameSpaces.copySpace(LNameSpaces$NameSpace;LNameSpaces$NameSpace;)V -/
def f110 (call : Nat → List ag_V → ag_H → ag_R) (b7 : Option Nat → Option Nat → Option Nat → Int32 → ag_H → ag_R) (l0 : Option Nat) (l1 : Option Nat) (l2 : Option Nat) (h : ag_H) : ag_R :=
  ag_pF h l2 2 1 (.inl (ag_lit 0)) fun h1 =>
  f110_7 call b7 l0 l1 l2 (ag_lit 0) h1
def g110 (call : Nat → List ag_V → ag_H → ag_R) : Nat → Option Nat → Option Nat → Option Nat → Int32 → ag_H → ag_R
  | 0 => fun _ _ _ _ _ => none
  | n + 1 => f110_7 call (g110 call n)
set_option maxRecDepth 100000 in
set_option maxHeartbeats 4000000 in
theorem i110_7 (call : Nat → List ag_V → ag_H → ag_R) (B : ag_K4) (l0 : Option Nat) (l1 : Option Nat) (l2 : Option Nat) (l3 : Int32) (h : ag_H) : ag_in 0 call B t110 7 [some (.inr l0), some (.inr l1), some (.inr l2), some (.inl l3), none] [] h = f110_7 call (fun (l0 : Option Nat) (l1 : Option Nat) (l2 : Option Nat) (l3 : Int32) (h : ag_H) => B 7 [some (.inr l0), some (.inr l1), some (.inr l2), some (.inl l3), none] [] h) l0 l1 l2 l3 h := by
  rfl
set_option maxRecDepth 100000 in
set_option maxHeartbeats 4000000 in
theorem i110 (call : Nat → List ag_V → ag_H → ag_R) (B : ag_K4) (l0 : Option Nat) (l1 : Option Nat) (l2 : Option Nat) (h : ag_H) : ag_in 0 call B t110 0 [some (.inr l0), some (.inr l1), some (.inr l2), none, none] [] h = f110 call (fun (l0 : Option Nat) (l1 : Option Nat) (l2 : Option Nat) (l3 : Int32) (h : ag_H) => B 7 [some (.inr l0), some (.inr l1), some (.inr l2), some (.inl l3), none] [] h) l0 l1 l2 h := by
  rfl
set_option maxRecDepth 100000 in
set_option maxHeartbeats 4000000 in
theorem o110 (call : Nat → List ag_V → ag_H → ag_R) : ∀ n : Nat, (fun (l0 : Option Nat) (l1 : Option Nat) (l2 : Option Nat) (l3 : Int32) (h : ag_H) => (ag_out 0 call t110 n) 7 [some (.inr l0), some (.inr l1), some (.inr l2), some (.inl l3), none] [] h) = g110 call n := by
  intro n
  induction n with
  | zero => rfl
  | succ n ih =>
    funext l0 l1 l2 l3 h
    show ag_in 0 call (ag_out 0 call t110 n) t110 7 [some (.inr l0), some (.inr l1), some (.inr l2), some (.inl l3), none] [] h = f110_7 call (g110 call n) l0 l1 l2 l3 h
    rw [i110_7, ih]
set_option maxRecDepth 100000 in
set_option maxHeartbeats 4000000 in
theorem r110 (d : Nat) (l0 : Option Nat) (l1 : Option Nat) (l2 : Option Nat) (h : ag_H) : ag_run gT (d + 1) 110 [.inr l0, .inr l1, .inr l2] h = f110 (ag_run gT d) (g110 (ag_run gT d) 3999) l0 l1 l2 h := by
  show ag_out 0 (ag_run gT d) t110 4000 0 [some (.inr l0), some (.inr l1), some (.inr l2), none, none] [] h = _
  rw [ag_out_top, i110, o110]
def f111_28 (call : Nat → List ag_V → ag_H → ag_R) (b2 : Option Nat → Option Nat → Int32 → ag_H → ag_R) (l0 : Option Nat) (l1 : Option Nat) (l2 : Int32) (h : ag_H) : ag_R :=
  b2 l0 l1 (l2 + ag_lit 1) h
def f111_2 (call : Nat → List ag_V → ag_H → ag_R) (b2 : Option Nat → Option Nat → Int32 → ag_H → ag_R) (l0 : Option Nat) (l1 : Option Nat) (l2 : Int32) (h : ag_H) : ag_R :=
  ag_gI h l1 2 1 fun x1 =>
  if x1 ≤ l2 then
    ag_pF h l1 2 1 (.inl (ag_lit 0)) fun h2 =>
    some (.inl none, h2)
  else
    ag_at h l1 2 fun a3 _ => ag_bR (call 15 [.inr (some a3), .inl l2] h) fun x5 h4 =>
    if x5 = none then
      f111_28 call b2 l0 l1 l2 h4
    else
      ag_gR h4 x5 5 0 fun x6 =>
      ag_at h4 l0 10 fun a7 _ => ag_bV (call 96 [.inr (some a7), .inr x6] h4) fun h8 =>
      f111_28 call b2 l0 l1 l2 h8
/-- NameSpaces.emptySpace(LNameSpaces$NameSpace;)V -/
def f111 (call : Nat → List ag_V → ag_H → ag_R) (b2 : Option Nat → Option Nat → Int32 → ag_H → ag_R) (l0 : Option Nat) (l1 : Option Nat) (h : ag_H) : ag_R :=
  f111_2 call b2 l0 l1 (ag_lit 0) h
def g111 (call : Nat → List ag_V → ag_H → ag_R) : Nat → Option Nat → Option Nat → Int32 → ag_H → ag_R
  | 0 => fun _ _ _ _ => none
  | n + 1 => f111_2 call (g111 call n)
set_option maxRecDepth 100000 in
set_option maxHeartbeats 4000000 in
theorem i111_2 (call : Nat → List ag_V → ag_H → ag_R) (B : ag_K4) (l0 : Option Nat) (l1 : Option Nat) (l2 : Int32) (h : ag_H) : ag_in 0 call B t111 2 [some (.inr l0), some (.inr l1), some (.inl l2), none] [] h = f111_2 call (fun (l0 : Option Nat) (l1 : Option Nat) (l2 : Int32) (h : ag_H) => B 2 [some (.inr l0), some (.inr l1), some (.inl l2), none] [] h) l0 l1 l2 h := by
  rfl
set_option maxRecDepth 100000 in
set_option maxHeartbeats 4000000 in
theorem i111 (call : Nat → List ag_V → ag_H → ag_R) (B : ag_K4) (l0 : Option Nat) (l1 : Option Nat) (h : ag_H) : ag_in 0 call B t111 0 [some (.inr l0), some (.inr l1), none, none] [] h = f111 call (fun (l0 : Option Nat) (l1 : Option Nat) (l2 : Int32) (h : ag_H) => B 2 [some (.inr l0), some (.inr l1), some (.inl l2), none] [] h) l0 l1 h := by
  rfl
set_option maxRecDepth 100000 in
set_option maxHeartbeats 4000000 in
theorem o111 (call : Nat → List ag_V → ag_H → ag_R) : ∀ n : Nat, (fun (l0 : Option Nat) (l1 : Option Nat) (l2 : Int32) (h : ag_H) => (ag_out 0 call t111 n) 2 [some (.inr l0), some (.inr l1), some (.inl l2), none] [] h) = g111 call n := by
  intro n
  induction n with
  | zero => rfl
  | succ n ih =>
    funext l0 l1 l2 h
    show ag_in 0 call (ag_out 0 call t111 n) t111 2 [some (.inr l0), some (.inr l1), some (.inl l2), none] [] h = f111_2 call (g111 call n) l0 l1 l2 h
    rw [i111_2, ih]
set_option maxRecDepth 100000 in
set_option maxHeartbeats 4000000 in
theorem r111 (d : Nat) (l0 : Option Nat) (l1 : Option Nat) (h : ag_H) : ag_run gT (d + 1) 111 [.inr l0, .inr l1] h = f111 (ag_run gT d) (g111 (ag_run gT d) 3999) l0 l1 h := by
  show ag_out 0 (ag_run gT d) t111 4000 0 [some (.inr l0), some (.inr l1), none, none] [] h = _
  rw [ag_out_top, i111, o111]
end
section
def f112_264 (call : Nat → List ag_V → ag_H → ag_R) (b264 : Option Nat → Int32 → ag_H → ag_R) (l0 : Option Nat) (l1 : Int32) (h : ag_H) : ag_R :=
  if (ag_lit 2) ≤ l1 then
    some (.inl none, h)
  else
    ag_gR h l0 11 7 fun x1 =>
    ag_isB (ag_lit 1) <| ag_xP h x1 102 ((ag_lit16 300) * l1) (.inl (ag_lit 1)) fun h2 =>
    ag_gR h2 l0 11 8 fun x3 =>
    ag_isB (ag_lit 1) <| ag_xP h2 x3 102 ((ag_lit16 300) * l1) (.inl (ag_lit 1)) fun h4 =>
    ag_gR h4 l0 11 9 fun x5 =>
    ag_xP h4 x5 100 ((ag_lit16 300) * l1) (.inl (ag_lit (-1))) fun h6 =>
    ag_gR h6 l0 11 10 fun x7 =>
    ag_xP h6 x7 100 ((ag_lit16 300) * l1) (.inl (ag_lit (-1))) fun h8 =>
    ag_gR h8 l0 11 6 fun x9 =>
    ag_xP h8 x9 100 l1 (.inl (ag_lit 1)) fun h10 =>
    ag_at h10 l0 11 fun a11 _ => ag_bV (call 123 [.inr (some a11), .inl l1, .inl (ag_lit 0)] h10) fun h12 =>
    b264 l0 (l1 + ag_lit 1) h12
/-- NameSpacesModel.<init>()V -/
def f112 (call : Nat → List ag_V → ag_H → ag_R) (b264 : Option Nat → Int32 → ag_H → ag_R) (l0 : Option Nat) (h : ag_H) : ag_R :=
  ag_nn l0 <|
  ag_na h (ag_lit8 24) 101 (.inl 0) fun o1 h2 =>
  ag_pF h2 l0 11 1 (.inr o1) fun h3 =>
  ag_na h3 (ag_lit8 24) 101 (.inl 0) fun o4 h5 =>
  ag_pF h5 l0 11 3 (.inr o4) fun h6 =>
  ag_na h6 (ag_lit8 12) 100 (.inl 0) fun o7 h8 =>
  ag_pF h8 l0 11 5 (.inr o7) fun h9 =>
  ag_na h9 (ag_lit 2) 100 (.inl 0) fun o10 h11 =>
  ag_pF h11 l0 11 6 (.inr o10) fun h12 =>
  ag_na h12 (ag_lit16 600) 102 (.inl 0) fun o13 h14 =>
  ag_pF h14 l0 11 7 (.inr o13) fun h15 =>
  ag_na h15 (ag_lit16 600) 102 (.inl 0) fun o16 h17 =>
  ag_pF h17 l0 11 8 (.inr o16) fun h18 =>
  ag_na h18 (ag_lit16 600) 100 (.inl 0) fun o19 h20 =>
  ag_pF h20 l0 11 9 (.inr o19) fun h21 =>
  ag_na h21 (ag_lit16 600) 100 (.inl 0) fun o22 h23 =>
  ag_pF h23 l0 11 10 (.inr o22) fun h24 =>
  ag_na h24 (ag_lit16 600) 100 (.inl 0) fun o25 h26 =>
  ag_pF h26 l0 11 11 (.inr o25) fun h27 =>
  ag_na h27 (ag_lit16 600) 100 (.inl 0) fun o28 h29 =>
  ag_pF h29 l0 11 12 (.inr o28) fun h30 =>
  ag_na h30 (ag_lit16 4800) 100 (.inl 0) fun o31 h32 =>
  ag_pF h32 l0 11 13 (.inr o31) fun h33 =>
  ag_na h33 (ag_lit16 400) 100 (.inl 0) fun o34 h35 =>
  ag_pF h35 l0 11 14 (.inr o34) fun h36 =>
  ag_na h36 (ag_lit 2) 100 (.inl 0) fun o37 h38 =>
  ag_pF h38 l0 11 15 (.inr o37) fun h39 =>
  ag_na h39 (ag_lit8 40) 100 (.inl 0) fun o40 h41 =>
  ag_pF h41 l0 11 16 (.inr o40) fun h42 =>
  ag_na h42 (ag_lit8 24) 100 (.inl 0) fun o43 h44 =>
  ag_pF h44 l0 11 18 (.inr o43) fun h45 =>
  ag_na h45 (ag_lit 4) 100 (.inl 0) fun o46 h47 =>
  ag_pF h47 l0 11 22 (.inr o46) fun h48 =>
  ag_na h48 (ag_lit8 16) 100 (.inl 0) fun o49 h50 =>
  ag_pF h50 l0 11 23 (.inr o49) fun h51 =>
  ag_na h51 (ag_lit8 16) 100 (.inl 0) fun o52 h53 =>
  ag_pF h53 l0 11 24 (.inr o52) fun h54 =>
  ag_na h54 (ag_lit8 16) 100 (.inl 0) fun o55 h56 =>
  ag_pF h56 l0 11 25 (.inr o55) fun h57 =>
  ag_na h57 (ag_lit8 48) 100 (.inl 0) fun o58 h59 =>
  ag_pF h59 l0 11 26 (.inr o58) fun h60 =>
  ag_na h60 (ag_lit8 48) 100 (.inl 0) fun o61 h62 =>
  ag_pF h62 l0 11 27 (.inr o61) fun h63 =>
  ag_na h63 (ag_lit8 48) 102 (.inl 0) fun o64 h65 =>
  ag_pF h65 l0 11 28 (.inr o64) fun h66 =>
  ag_na h66 (ag_lit 4) 102 (.inl 0) fun o67 h68 =>
  ag_pF h68 l0 11 29 (.inr o67) fun h69 =>
  ag_na h69 (ag_lit 4) 100 (.inl 0) fun o70 h71 =>
  ag_pF h71 l0 11 30 (.inr o70) fun h72 =>
  ag_na h72 (ag_lit8 20) 100 (.inl 0) fun o73 h74 =>
  ag_pF h74 l0 11 31 (.inr o73) fun h75 =>
  ag_na h75 (ag_lit8 20) 102 (.inl 0) fun o76 h77 =>
  ag_pF h77 l0 11 32 (.inr o76) fun h78 =>
  ag_na h78 (ag_lit8 60) 100 (.inl 0) fun o79 h80 =>
  ag_pF h80 l0 11 33 (.inr o79) fun h81 =>
  ag_na h81 (ag_lit8 60) 100 (.inl 0) fun o82 h83 =>
  ag_pF h83 l0 11 34 (.inr o82) fun h84 =>
  ag_na h84 (ag_lit8 20) 100 (.inl 0) fun o85 h86 =>
  ag_pF h86 l0 11 35 (.inr o85) fun h87 =>
  ag_na h87 (ag_lit8 20) 100 (.inl 0) fun o88 h89 =>
  ag_pF h89 l0 11 36 (.inr o88) fun h90 =>
  ag_na h90 (ag_lit8 20) 100 (.inl 0) fun o91 h92 =>
  ag_pF h92 l0 11 37 (.inr o91) fun h93 =>
  ag_gR h93 l0 11 29 fun x94 =>
  ag_isB (ag_lit 1) <| ag_xP h93 x94 102 (ag_lit 0) (.inl (ag_lit 1)) fun h95 =>
  f112_264 call b264 l0 (ag_lit 0) h95
def g112 (call : Nat → List ag_V → ag_H → ag_R) : Nat → Option Nat → Int32 → ag_H → ag_R
  | 0 => fun _ _ _ => none
  | n + 1 => f112_264 call (g112 call n)
set_option maxRecDepth 100000 in
set_option maxHeartbeats 4000000 in
theorem i112_264 (call : Nat → List ag_V → ag_H → ag_R) (B : ag_K4) (l0 : Option Nat) (l1 : Int32) (h : ag_H) : ag_in 0 call B t112 264 [some (.inr l0), some (.inl l1)] [] h = f112_264 call (fun (l0 : Option Nat) (l1 : Int32) (h : ag_H) => B 264 [some (.inr l0), some (.inl l1)] [] h) l0 l1 h := by
  rfl
set_option maxRecDepth 100000 in
set_option maxHeartbeats 4000000 in
theorem i112 (call : Nat → List ag_V → ag_H → ag_R) (B : ag_K4) (l0 : Option Nat) (h : ag_H) : ag_in 0 call B t112 0 [some (.inr l0), none] [] h = f112 call (fun (l0 : Option Nat) (l1 : Int32) (h : ag_H) => B 264 [some (.inr l0), some (.inl l1)] [] h) l0 h := by
  rfl
set_option maxRecDepth 100000 in
set_option maxHeartbeats 4000000 in
theorem o112 (call : Nat → List ag_V → ag_H → ag_R) : ∀ n : Nat, (fun (l0 : Option Nat) (l1 : Int32) (h : ag_H) => (ag_out 0 call t112 n) 264 [some (.inr l0), some (.inl l1)] [] h) = g112 call n := by
  intro n
  induction n with
  | zero => rfl
  | succ n ih =>
    funext l0 l1 h
    show ag_in 0 call (ag_out 0 call t112 n) t112 264 [some (.inr l0), some (.inl l1)] [] h = f112_264 call (g112 call n) l0 l1 h
    rw [i112_264, ih]
set_option maxRecDepth 100000 in
set_option maxHeartbeats 4000000 in
theorem r112 (d : Nat) (l0 : Option Nat) (h : ag_H) : ag_run gT (d + 1) 112 [.inr l0] h = f112 (ag_run gT d) (g112 (ag_run gT d) 3999) l0 h := by
  show ag_out 0 (ag_run gT d) t112 4000 0 [some (.inr l0), none] [] h = _
  rw [ag_out_top, i112, o112]
/-- NameSpacesModel.thrown()I -/
def f113 (call : Nat → List ag_V → ag_H → ag_R)  (l0 : Option Nat) (h : ag_H) : ag_R :=
  ag_gI h l0 11 41 fun x1 =>
  some (.inl (some (.inl x1)), h)
set_option maxRecDepth 100000 in
set_option maxHeartbeats 4000000 in
theorem i113 (call : Nat → List ag_V → ag_H → ag_R) (B : ag_K4) (l0 : Option Nat) (h : ag_H) : ag_in 1 call B t113 0 [some (.inr l0)] [] h = f113 call  l0 h := by
  rfl
set_option maxRecDepth 100000 in
set_option maxHeartbeats 4000000 in
theorem r113 (d : Nat) (l0 : Option Nat) (h : ag_H) : ag_run gT (d + 1) 113 [.inr l0] h = f113 (ag_run gT d)  l0 h := by
  show ag_out 1 (ag_run gT d) t113 4000 0 [some (.inr l0)] [] h = _
  rw [ag_out_top, i113]
def f114_15 (call : Nat → List ag_V → ag_H → ag_R)  (s0 : Int32) (h : ag_H) : ag_R :=
  ag_isB s0 (some (.inl (some (.inl s0)), h))
def f114_10 (call : Nat → List ag_V → ag_H → ag_R)   (h : ag_H) : ag_R :=
  f114_15 call (ag_lit 1) h
/-- NameSpacesModel.outside(III)Z -/
def f114 (call : Nat → List ag_V → ag_H → ag_R)  (l0 : Int32) (l1 : Int32) (l2 : Int32) (h : ag_H) : ag_R :=
  if l0 < l1 then
    f114_10 call h
  else
    if l0 ≤ l2 then
      f114_15 call (ag_lit 0) h
    else
      f114_10 call h
set_option maxRecDepth 100000 in
set_option maxHeartbeats 4000000 in
theorem i114 (call : Nat → List ag_V → ag_H → ag_R) (B : ag_K4) (l0 : Int32) (l1 : Int32) (l2 : Int32) (h : ag_H) : ag_in 4 call B t114 0 [some (.inl l0), some (.inl l1), some (.inl l2)] [] h = f114 call  l0 l1 l2 h := by
  rfl
set_option maxRecDepth 100000 in
set_option maxHeartbeats 4000000 in
theorem r114 (d : Nat) (l0 : Int32) (l1 : Int32) (l2 : Int32) (h : ag_H) : ag_run gT (d + 1) 114 [.inl l0, .inl l1, .inl l2] h = f114 (ag_run gT d)  l0 l1 l2 h := by
  show ag_out 4 (ag_run gT d) t114 4000 0 [some (.inl l0), some (.inl l1), some (.inl l2)] [] h = _
  rw [ag_out_top, i114]
def f115_2 (call : Nat → List ag_V → ag_H → ag_R) (b2 : Option Nat → Int32 → Int32 → Int32 → ag_H → ag_R) (l0 : Option Nat) (l1 : Int32) (l2 : Int32) (l3 : Int32) (h : ag_H) : ag_R :=
  if l2 ≤ l3 then
    some (.inl none, h)
  else
    ag_gR h l0 11 16 fun x1 =>
    ag_gI h l0 11 17 fun x2 =>
    ag_xP h x1 100 x2 (.inl (((l1.toUInt32 >>> (((ag_lit8 8) * l3).toUInt32 &&& Int32.toUInt32 31)).toInt32) &&& (ag_lit16 255))) fun h3 =>
    ag_gI h3 l0 11 17 fun x4 =>
    ag_pF h3 l0 11 17 (.inl (x4 + (ag_lit 1))) fun h5 =>
    b2 l0 l1 l2 (l3 + ag_lit 1) h5
/-- NameSpacesModel.number(II)V -/
def f115 (call : Nat → List ag_V → ag_H → ag_R) (b2 : Option Nat → Int32 → Int32 → Int32 → ag_H → ag_R) (l0 : Option Nat) (l1 : Int32) (l2 : Int32) (h : ag_H) : ag_R :=
  f115_2 call b2 l0 l1 l2 (ag_lit 0) h
def g115 (call : Nat → List ag_V → ag_H → ag_R) : Nat → Option Nat → Int32 → Int32 → Int32 → ag_H → ag_R
  | 0 => fun _ _ _ _ _ => none
  | n + 1 => f115_2 call (g115 call n)
set_option maxRecDepth 100000 in
set_option maxHeartbeats 4000000 in
theorem i115_2 (call : Nat → List ag_V → ag_H → ag_R) (B : ag_K4) (l0 : Option Nat) (l1 : Int32) (l2 : Int32) (l3 : Int32) (h : ag_H) : ag_in 0 call B t115 2 [some (.inr l0), some (.inl l1), some (.inl l2), some (.inl l3)] [] h = f115_2 call (fun (l0 : Option Nat) (l1 : Int32) (l2 : Int32) (l3 : Int32) (h : ag_H) => B 2 [some (.inr l0), some (.inl l1), some (.inl l2), some (.inl l3)] [] h) l0 l1 l2 l3 h := by
  rfl
set_option maxRecDepth 100000 in
set_option maxHeartbeats 4000000 in
theorem i115 (call : Nat → List ag_V → ag_H → ag_R) (B : ag_K4) (l0 : Option Nat) (l1 : Int32) (l2 : Int32) (h : ag_H) : ag_in 0 call B t115 0 [some (.inr l0), some (.inl l1), some (.inl l2), none] [] h = f115 call (fun (l0 : Option Nat) (l1 : Int32) (l2 : Int32) (l3 : Int32) (h : ag_H) => B 2 [some (.inr l0), some (.inl l1), some (.inl l2), some (.inl l3)] [] h) l0 l1 l2 h := by
  rfl
set_option maxRecDepth 100000 in
set_option maxHeartbeats 4000000 in
theorem o115 (call : Nat → List ag_V → ag_H → ag_R) : ∀ n : Nat, (fun (l0 : Option Nat) (l1 : Int32) (l2 : Int32) (l3 : Int32) (h : ag_H) => (ag_out 0 call t115 n) 2 [some (.inr l0), some (.inl l1), some (.inl l2), some (.inl l3)] [] h) = g115 call n := by
  intro n
  induction n with
  | zero => rfl
  | succ n ih =>
    funext l0 l1 l2 l3 h
    show ag_in 0 call (ag_out 0 call t115 n) t115 2 [some (.inr l0), some (.inl l1), some (.inl l2), some (.inl l3)] [] h = f115_2 call (g115 call n) l0 l1 l2 l3 h
    rw [i115_2, ih]
set_option maxRecDepth 100000 in
set_option maxHeartbeats 4000000 in
theorem r115 (d : Nat) (l0 : Option Nat) (l1 : Int32) (l2 : Int32) (h : ag_H) : ag_run gT (d + 1) 115 [.inr l0, .inl l1, .inl l2] h = f115 (ag_run gT d) (g115 (ag_run gT d) 3999) l0 l1 l2 h := by
  show ag_out 0 (ag_run gT d) t115 4000 0 [some (.inr l0), some (.inl l1), some (.inl l2), none] [] h = _
  rw [ag_out_top, i115, o115]
def f116_2 (call : Nat → List ag_V → ag_H → ag_R) (b2 : Option Nat → Int32 → Int32 → Int32 → ag_H → ag_R) (l0 : Option Nat) (l1 : Int32) (l2 : Int32) (l3 : Int32) (h : ag_H) : ag_R :=
  if l2 ≤ l3 then
    some (.inl none, h)
  else
    ag_gR h l0 11 18 fun x1 =>
    ag_gI h l0 11 19 fun x2 =>
    ag_xP h x1 100 x2 (.inl (((l1.toUInt32 >>> (((ag_lit8 8) * l3).toUInt32 &&& Int32.toUInt32 31)).toInt32) &&& (ag_lit16 255))) fun h3 =>
    ag_gI h3 l0 11 19 fun x4 =>
    ag_pF h3 l0 11 19 (.inl (x4 + (ag_lit 1))) fun h5 =>
    b2 l0 l1 l2 (l3 + ag_lit 1) h5
/-- NameSpacesModel.back(II)V -/
def f116 (call : Nat → List ag_V → ag_H → ag_R) (b2 : Option Nat → Int32 → Int32 → Int32 → ag_H → ag_R) (l0 : Option Nat) (l1 : Int32) (l2 : Int32) (h : ag_H) : ag_R :=
  f116_2 call b2 l0 l1 l2 (ag_lit 0) h
def g116 (call : Nat → List ag_V → ag_H → ag_R) : Nat → Option Nat → Int32 → Int32 → Int32 → ag_H → ag_R
  | 0 => fun _ _ _ _ _ => none
  | n + 1 => f116_2 call (g116 call n)
set_option maxRecDepth 100000 in
set_option maxHeartbeats 4000000 in
theorem i116_2 (call : Nat → List ag_V → ag_H → ag_R) (B : ag_K4) (l0 : Option Nat) (l1 : Int32) (l2 : Int32) (l3 : Int32) (h : ag_H) : ag_in 0 call B t116 2 [some (.inr l0), some (.inl l1), some (.inl l2), some (.inl l3)] [] h = f116_2 call (fun (l0 : Option Nat) (l1 : Int32) (l2 : Int32) (l3 : Int32) (h : ag_H) => B 2 [some (.inr l0), some (.inl l1), some (.inl l2), some (.inl l3)] [] h) l0 l1 l2 l3 h := by
  rfl
set_option maxRecDepth 100000 in
set_option maxHeartbeats 4000000 in
theorem i116 (call : Nat → List ag_V → ag_H → ag_R) (B : ag_K4) (l0 : Option Nat) (l1 : Int32) (l2 : Int32) (h : ag_H) : ag_in 0 call B t116 0 [some (.inr l0), some (.inl l1), some (.inl l2), none] [] h = f116 call (fun (l0 : Option Nat) (l1 : Int32) (l2 : Int32) (l3 : Int32) (h : ag_H) => B 2 [some (.inr l0), some (.inl l1), some (.inl l2), some (.inl l3)] [] h) l0 l1 l2 h := by
  rfl
set_option maxRecDepth 100000 in
set_option maxHeartbeats 4000000 in
theorem o116 (call : Nat → List ag_V → ag_H → ag_R) : ∀ n : Nat, (fun (l0 : Option Nat) (l1 : Int32) (l2 : Int32) (l3 : Int32) (h : ag_H) => (ag_out 0 call t116 n) 2 [some (.inr l0), some (.inl l1), some (.inl l2), some (.inl l3)] [] h) = g116 call n := by
  intro n
  induction n with
  | zero => rfl
  | succ n ih =>
    funext l0 l1 l2 l3 h
    show ag_in 0 call (ag_out 0 call t116 n) t116 2 [some (.inr l0), some (.inl l1), some (.inl l2), some (.inl l3)] [] h = f116_2 call (g116 call n) l0 l1 l2 l3 h
    rw [i116_2, ih]
set_option maxRecDepth 100000 in
set_option maxHeartbeats 4000000 in
theorem r116 (d : Nat) (l0 : Option Nat) (l1 : Int32) (l2 : Int32) (h : ag_H) : ag_run gT (d + 1) 116 [.inr l0, .inl l1, .inl l2] h = f116 (ag_run gT d) (g116 (ag_run gT d) 3999) l0 l1 l2 h := by
  show ag_out 0 (ag_run gT d) t116 4000 0 [some (.inr l0), some (.inl l1), some (.inl l2), none] [] h = _
  rw [ag_out_top, i116, o116]
/-- NameSpacesModel.ask(III)V -/
def f117 (call : Nat → List ag_V → ag_H → ag_R)  (l0 : Option Nat) (l1 : Int32) (l2 : Int32) (l3 : Int32) (h : ag_H) : ag_R :=
  ag_pF h l0 11 17 (.inl (ag_lit 4)) fun h1 =>
  ag_at h1 l0 11 fun a2 _ => ag_bV (call 115 [.inr (some a2), .inl l2, .inl (ag_lit 1)] h1) fun h3 =>
  ag_at h3 l0 11 fun a4 _ => ag_bV (call 115 [.inr (some a4), .inl (ag_lit 1), .inl (ag_lit 2)] h3) fun h5 =>
  ag_at h5 l0 11 fun a6 _ => ag_bV (call 115 [.inr (some a6), .inl l3, .inl (ag_lit 4)] h5) fun h7 =>
  ag_gR h7 l0 11 15 fun x8 =>
  ag_xI h7 x8 100 l1 fun x9 =>
  ag_xP h7 x8 100 l1 (.inl (x9 + (ag_lit 1))) fun h10 =>
  ag_pF h10 l0 11 20 (.inl (ag_lit 0)) fun h11 =>
  ag_pF h11 l0 11 19 (.inl (ag_lit 4)) fun h12 =>
  ag_at h12 l0 11 fun a13 _ => ag_bV (call 116 [.inr (some a13), .inl (l2 + (ag_lit 1)), .inl (ag_lit 1)] h12) fun h14 =>
  ag_at h14 l0 11 fun a15 _ => ag_bV (call 116 [.inr (some a15), .inl (ag_lit 1), .inl (ag_lit 2)] h14) fun h16 =>
  some (.inl none, h16)
set_option maxRecDepth 100000 in
set_option maxHeartbeats 4000000 in
theorem i117 (call : Nat → List ag_V → ag_H → ag_R) (B : ag_K4) (l0 : Option Nat) (l1 : Int32) (l2 : Int32) (l3 : Int32) (h : ag_H) : ag_in 0 call B t117 0 [some (.inr l0), some (.inl l1), some (.inl l2), some (.inl l3)] [] h = f117 call  l0 l1 l2 l3 h := by
  rfl
set_option maxRecDepth 100000 in
set_option maxHeartbeats 4000000 in
theorem r117 (d : Nat) (l0 : Option Nat) (l1 : Int32) (l2 : Int32) (l3 : Int32) (h : ag_H) : ag_run gT (d + 1) 117 [.inr l0, .inl l1, .inl l2, .inl l3] h = f117 (ag_run gT d)  l0 l1 l2 l3 h := by
  show ag_out 0 (ag_run gT d) t117 4000 0 [some (.inr l0), some (.inl l1), some (.inl l2), some (.inl l3)] [] h = _
  rw [ag_out_top, i117]
/-- NameSpacesModel.wrong(I)V -/
def f118 (call : Nat → List ag_V → ag_H → ag_R)  (l0 : Option Nat) (l1 : Int32) (h : ag_H) : ag_R :=
  ag_pF h l0 11 20 (.inl l1) fun h1 =>
  ag_pF h1 l0 11 19 (.inl (ag_lit 4)) fun h2 =>
  ag_at h2 l0 11 fun a3 _ => ag_bV (call 116 [.inr (some a3), .inl (ag_lit8 107), .inl (ag_lit 1)] h2) fun h4 =>
  ag_at h4 l0 11 fun a5 _ => ag_bV (call 116 [.inr (some a5), .inl (ag_lit 1), .inl (ag_lit 2)] h4) fun h6 =>
  ag_at h6 l0 11 fun a7 _ => ag_bV (call 116 [.inr (some a7), .inl (ag_lit 1), .inl (ag_lit 2)] h6) fun h8 =>
  ag_at h8 l0 11 fun a9 _ => ag_bV (call 116 [.inr (some a9), .inl l1, .inl (ag_lit 1)] h8) fun h10 =>
  some (.inl none, h10)
set_option maxRecDepth 100000 in
set_option maxHeartbeats 4000000 in
theorem i118 (call : Nat → List ag_V → ag_H → ag_R) (B : ag_K4) (l0 : Option Nat) (l1 : Int32) (h : ag_H) : ag_in 0 call B t118 0 [some (.inr l0), some (.inl l1)] [] h = f118 call  l0 l1 h := by
  rfl
set_option maxRecDepth 100000 in
set_option maxHeartbeats 4000000 in
theorem r118 (d : Nat) (l0 : Option Nat) (l1 : Int32) (h : ag_H) : ag_run gT (d + 1) 118 [.inr l0, .inl l1] h = f118 (ag_run gT d)  l0 l1 h := by
  show ag_out 0 (ag_run gT d) t118 4000 0 [some (.inr l0), some (.inl l1)] [] h = _
  rw [ag_out_top, i118]
def f119_15 (call : Nat → List ag_V → ag_H → ag_R)  (l0 : Option Nat) (l1 : Int32) (s0 : Option Nat) (s1 : Int32) (h : ag_H) : ag_R :=
  ag_at h s0 11 fun a1 _ => ag_bV (call 116 [.inr (some a1), .inl s1, .inl (ag_lit 1)] h) fun h2 =>
  ag_gR h2 l0 11 12 fun x3 =>
  ag_xI h2 x3 100 l1 fun x4 =>
  ag_at h2 l0 11 fun a5 _ => ag_bV (call 116 [.inr (some a5), .inl x4, .inl (ag_lit 4)] h2) fun h6 =>
  ag_dv (ag_lit16 300) <|
  ag_at h6 l0 11 fun a7 _ => ag_bV (call 116 [.inr (some a7), .inl (l1 - l1 / (ag_lit16 300) * (ag_lit16 300)), .inl (ag_lit 4)] h6) fun h8 =>
  some (.inl none, h8)
/-- NameSpacesModel.tell(I)V -/
def f119 (call : Nat → List ag_V → ag_H → ag_R)  (l0 : Option Nat) (l1 : Int32) (h : ag_H) : ag_R :=
  ag_gR h l0 11 8 fun x1 =>
  ag_xI h x1 102 l1 fun x2 =>
  if x2 = (ag_lit 0) then
    f119_15 call l0 l1 l0 (ag_lit 0) h
  else
    f119_15 call l0 l1 l0 (ag_lit 1) h
set_option maxRecDepth 100000 in
set_option maxHeartbeats 4000000 in
theorem i119 (call : Nat → List ag_V → ag_H → ag_R) (B : ag_K4) (l0 : Option Nat) (l1 : Int32) (h : ag_H) : ag_in 0 call B t119 0 [some (.inr l0), some (.inl l1)] [] h = f119 call  l0 l1 h := by
  rfl
set_option maxRecDepth 100000 in
set_option maxHeartbeats 4000000 in
theorem r119 (d : Nat) (l0 : Option Nat) (l1 : Int32) (h : ag_H) : ag_run gT (d + 1) 119 [.inr l0, .inl l1] h = f119 (ag_run gT d)  l0 l1 h := by
  show ag_out 0 (ag_run gT d) t119 4000 0 [some (.inr l0), some (.inl l1)] [] h = _
  rw [ag_out_top, i119]
def f120_2 (call : Nat → List ag_V → ag_H → ag_R) (b2 : Option Nat → Int32 → ag_H → ag_R) (l0 : Option Nat) (l1 : Int32) (h : ag_H) : ag_R :=
  if (ag_lit 4) ≤ l1 then
    some (.inl none, h)
  else
    ag_gR h l0 11 16 fun x1 =>
    ag_gI h l0 11 17 fun x2 =>
    ag_xP h x1 100 l1 (.inl (((x2.toUInt32 >>> (((ag_lit8 8) * l1).toUInt32 &&& Int32.toUInt32 31)).toInt32) &&& (ag_lit16 255))) fun h3 =>
    ag_gR h3 l0 11 18 fun x4 =>
    ag_gI h3 l0 11 19 fun x5 =>
    ag_xP h3 x4 100 l1 (.inl (((x5.toUInt32 >>> (((ag_lit8 8) * l1).toUInt32 &&& Int32.toUInt32 31)).toInt32) &&& (ag_lit16 255))) fun h6 =>
    b2 l0 (l1 + ag_lit 1) h6
/-- NameSpacesModel.sent()V -/
def f120 (call : Nat → List ag_V → ag_H → ag_R) (b2 : Option Nat → Int32 → ag_H → ag_R) (l0 : Option Nat) (h : ag_H) : ag_R :=
  f120_2 call b2 l0 (ag_lit 0) h
def g120 (call : Nat → List ag_V → ag_H → ag_R) : Nat → Option Nat → Int32 → ag_H → ag_R
  | 0 => fun _ _ _ => none
  | n + 1 => f120_2 call (g120 call n)
set_option maxRecDepth 100000 in
set_option maxHeartbeats 4000000 in
theorem i120_2 (call : Nat → List ag_V → ag_H → ag_R) (B : ag_K4) (l0 : Option Nat) (l1 : Int32) (h : ag_H) : ag_in 0 call B t120 2 [some (.inr l0), some (.inl l1)] [] h = f120_2 call (fun (l0 : Option Nat) (l1 : Int32) (h : ag_H) => B 2 [some (.inr l0), some (.inl l1)] [] h) l0 l1 h := by
  rfl
set_option maxRecDepth 100000 in
set_option maxHeartbeats 4000000 in
theorem i120 (call : Nat → List ag_V → ag_H → ag_R) (B : ag_K4) (l0 : Option Nat) (h : ag_H) : ag_in 0 call B t120 0 [some (.inr l0), none] [] h = f120 call (fun (l0 : Option Nat) (l1 : Int32) (h : ag_H) => B 2 [some (.inr l0), some (.inl l1)] [] h) l0 h := by
  rfl
set_option maxRecDepth 100000 in
set_option maxHeartbeats 4000000 in
theorem o120 (call : Nat → List ag_V → ag_H → ag_R) : ∀ n : Nat, (fun (l0 : Option Nat) (l1 : Int32) (h : ag_H) => (ag_out 0 call t120 n) 2 [some (.inr l0), some (.inl l1)] [] h) = g120 call n := by
  intro n
  induction n with
  | zero => rfl
  | succ n ih =>
    funext l0 l1 h
    show ag_in 0 call (ag_out 0 call t120 n) t120 2 [some (.inr l0), some (.inl l1)] [] h = f120_2 call (g120 call n) l0 l1 h
    rw [i120_2, ih]
set_option maxRecDepth 100000 in
set_option maxHeartbeats 4000000 in
theorem r120 (d : Nat) (l0 : Option Nat) (h : ag_H) : ag_run gT (d + 1) 120 [.inr l0] h = f120 (ag_run gT d) (g120 (ag_run gT d) 3999) l0 h := by
  show ag_out 0 (ag_run gT d) t120 4000 0 [some (.inr l0), none] [] h = _
  rw [ag_out_top, i120, o120]
/-- NameSpacesModel.fileOf(II)I -/
def f121 (call : Nat → List ag_V → ag_H → ag_R)  (l0 : Option Nat) (l1 : Int32) (l2 : Int32) (h : ag_H) : ag_R :=
  ag_gR h l0 11 14 fun x1 =>
  ag_xI h x1 100 (((ag_lit16 200) * l1) + l2) fun x2 =>
  some (.inl (some (.inl ((((ag_lit16 300) * l1) + x2) - (ag_lit 1)))), h)
set_option maxRecDepth 100000 in
set_option maxHeartbeats 4000000 in
theorem i121 (call : Nat → List ag_V → ag_H → ag_R) (B : ag_K4) (l0 : Option Nat) (l1 : Int32) (l2 : Int32) (h : ag_H) : ag_in 1 call B t121 0 [some (.inr l0), some (.inl l1), some (.inl l2)] [] h = f121 call  l0 l1 l2 h := by
  rfl
set_option maxRecDepth 100000 in
set_option maxHeartbeats 4000000 in
theorem r121 (d : Nat) (l0 : Option Nat) (l1 : Int32) (l2 : Int32) (h : ag_H) : ag_run gT (d + 1) 121 [.inr l0, .inl l1, .inl l2] h = f121 (ag_run gT d)  l0 l1 l2 h := by
  show ag_out 1 (ag_run gT d) t121 4000 0 [some (.inr l0), some (.inl l1), some (.inl l2)] [] h = _
  rw [ag_out_top, i121]
def f122_2 (call : Nat → List ag_V → ag_H → ag_R) (b2 : Option Nat → Int32 → Int32 → ag_H → ag_R) (l0 : Option Nat) (l1 : Int32) (l2 : Int32) (h : ag_H) : ag_R :=
  ag_gR h l0 11 14 fun x1 =>
  ag_xI h x1 100 (((ag_lit16 200) * l1) + l2) fun x2 =>
  if x2 = (ag_lit 0) then
    some (.inl (some (.inl l2)), h)
  else
    b2 l0 l1 (l2 + ag_lit 1) h
/-- NameSpacesModel.fresh(I)I -/
def f122 (call : Nat → List ag_V → ag_H → ag_R) (b2 : Option Nat → Int32 → Int32 → ag_H → ag_R) (l0 : Option Nat) (l1 : Int32) (h : ag_H) : ag_R :=
  f122_2 call b2 l0 l1 (ag_lit 0) h
def g122 (call : Nat → List ag_V → ag_H → ag_R) : Nat → Option Nat → Int32 → Int32 → ag_H → ag_R
  | 0 => fun _ _ _ _ => none
  | n + 1 => f122_2 call (g122 call n)
set_option maxRecDepth 100000 in
set_option maxHeartbeats 4000000 in
theorem i122_2 (call : Nat → List ag_V → ag_H → ag_R) (B : ag_K4) (l0 : Option Nat) (l1 : Int32) (l2 : Int32) (h : ag_H) : ag_in 1 call B t122 2 [some (.inr l0), some (.inl l1), some (.inl l2)] [] h = f122_2 call (fun (l0 : Option Nat) (l1 : Int32) (l2 : Int32) (h : ag_H) => B 2 [some (.inr l0), some (.inl l1), some (.inl l2)] [] h) l0 l1 l2 h := by
  rfl
set_option maxRecDepth 100000 in
set_option maxHeartbeats 4000000 in
theorem i122 (call : Nat → List ag_V → ag_H → ag_R) (B : ag_K4) (l0 : Option Nat) (l1 : Int32) (h : ag_H) : ag_in 1 call B t122 0 [some (.inr l0), some (.inl l1), none] [] h = f122 call (fun (l0 : Option Nat) (l1 : Int32) (l2 : Int32) (h : ag_H) => B 2 [some (.inr l0), some (.inl l1), some (.inl l2)] [] h) l0 l1 h := by
  rfl
set_option maxRecDepth 100000 in
set_option maxHeartbeats 4000000 in
theorem o122 (call : Nat → List ag_V → ag_H → ag_R) : ∀ n : Nat, (fun (l0 : Option Nat) (l1 : Int32) (l2 : Int32) (h : ag_H) => (ag_out 1 call t122 n) 2 [some (.inr l0), some (.inl l1), some (.inl l2)] [] h) = g122 call n := by
  intro n
  induction n with
  | zero => rfl
  | succ n ih =>
    funext l0 l1 l2 h
    show ag_in 1 call (ag_out 1 call t122 n) t122 2 [some (.inr l0), some (.inl l1), some (.inl l2)] [] h = f122_2 call (g122 call n) l0 l1 l2 h
    rw [i122_2, ih]
set_option maxRecDepth 100000 in
set_option maxHeartbeats 4000000 in
theorem r122 (d : Nat) (l0 : Option Nat) (l1 : Int32) (h : ag_H) : ag_run gT (d + 1) 122 [.inr l0, .inl l1] h = f122 (ag_run gT d) (g122 (ag_run gT d) 3999) l0 l1 h := by
  show ag_out 1 (ag_run gT d) t122 4000 0 [some (.inr l0), some (.inl l1), none] [] h = _
  rw [ag_out_top, i122, o122]
/-- NameSpacesModel.attach(II)V -/
def f123 (call : Nat → List ag_V → ag_H → ag_R)  (l0 : Option Nat) (l1 : Int32) (l2 : Int32) (h : ag_H) : ag_R :=
  ag_at h l0 11 fun a1 _ => ag_bV (call 117 [.inr (some a1), .inl l1, .inl (ag_lit8 104), .inl l2] h) fun h2 =>
  ag_gR h2 l0 11 14 fun x3 =>
  ag_xP h2 x3 100 (((ag_lit16 200) * l1) + l2) (.inl (ag_lit 1)) fun h4 =>
  ag_at h4 l0 11 fun a5 _ => ag_bV (call 119 [.inr (some a5), .inl ((ag_lit16 300) * l1)] h4) fun h6 =>
  ag_at h6 l0 11 fun a7 _ => ag_bV (call 120 [.inr (some a7)] h6) fun h8 =>
  some (.inl none, h8)
set_option maxRecDepth 100000 in
set_option maxHeartbeats 4000000 in
theorem i123 (call : Nat → List ag_V → ag_H → ag_R) (B : ag_K4) (l0 : Option Nat) (l1 : Int32) (l2 : Int32) (h : ag_H) : ag_in 0 call B t123 0 [some (.inr l0), some (.inl l1), some (.inl l2)] [] h = f123 call  l0 l1 l2 h := by
  rfl
set_option maxRecDepth 100000 in
set_option maxHeartbeats 4000000 in
theorem r123 (d : Nat) (l0 : Option Nat) (l1 : Int32) (l2 : Int32) (h : ag_H) : ag_run gT (d + 1) 123 [.inr l0, .inl l1, .inl l2] h = f123 (ag_run gT d)  l0 l1 l2 h := by
  show ag_out 0 (ag_run gT d) t123 4000 0 [some (.inr l0), some (.inl l1), some (.inl l2)] [] h = _
  rw [ag_out_top, i123]
def f124_59 (call : Nat → List ag_V → ag_H → ag_R) (b7 : Option Nat → Int32 → Int32 → Int32 → Int32 → ag_H → ag_R) (l0 : Option Nat) (l1 : Int32) (l2 : Int32) (l3 : Int32) (l4 : Int32) (h : ag_H) : ag_R :=
  b7 l0 l1 l2 l3 (l4 + ag_lit 1) h
def f124_7 (call : Nat → List ag_V → ag_H → ag_R) (b7 : Option Nat → Int32 → Int32 → Int32 → Int32 → ag_H → ag_R) (l0 : Option Nat) (l1 : Int32) (l2 : Int32) (l3 : Int32) (l4 : Int32) (h : ag_H) : ag_R :=
  ag_gR h l0 11 6 fun x1 =>
  ag_xI h x1 100 l1 fun x2 =>
  if (((ag_lit16 300) * l1) + x2) ≤ l4 then
    some (.inl (some (.inl (ag_lit (-1)))), h)
  else
    ag_gR h l0 11 7 fun x3 =>
    ag_xI h x3 102 l4 fun x4 =>
    if x4 = (ag_lit 0) then
      f124_59 call b7 l0 l1 l2 l3 l4 h
    else
      ag_gR h l0 11 10 fun x5 =>
      ag_xI h x5 100 l4 fun x6 =>
      if x6 = l2 then
        ag_gR h l0 11 9 fun x7 =>
        ag_xI h x7 100 l4 fun x8 =>
        if x8 = l3 then
          some (.inl (some (.inl l4)), h)
        else
          f124_59 call b7 l0 l1 l2 l3 l4 h
      else
        f124_59 call b7 l0 l1 l2 l3 l4 h
/-- NameSpacesModel.inside(III)I -/
def f124 (call : Nat → List ag_V → ag_H → ag_R) (b7 : Option Nat → Int32 → Int32 → Int32 → Int32 → ag_H → ag_R) (l0 : Option Nat) (l1 : Int32) (l2 : Int32) (l3 : Int32) (h : ag_H) : ag_R :=
  f124_7 call b7 l0 l1 l2 l3 ((ag_lit16 300) * l1) h
def g124 (call : Nat → List ag_V → ag_H → ag_R) : Nat → Option Nat → Int32 → Int32 → Int32 → Int32 → ag_H → ag_R
  | 0 => fun _ _ _ _ _ _ => none
  | n + 1 => f124_7 call (g124 call n)
set_option maxRecDepth 100000 in
set_option maxHeartbeats 4000000 in
theorem i124_7 (call : Nat → List ag_V → ag_H → ag_R) (B : ag_K4) (l0 : Option Nat) (l1 : Int32) (l2 : Int32) (l3 : Int32) (l4 : Int32) (h : ag_H) : ag_in 1 call B t124 7 [some (.inr l0), some (.inl l1), some (.inl l2), some (.inl l3), some (.inl l4)] [] h = f124_7 call (fun (l0 : Option Nat) (l1 : Int32) (l2 : Int32) (l3 : Int32) (l4 : Int32) (h : ag_H) => B 7 [some (.inr l0), some (.inl l1), some (.inl l2), some (.inl l3), some (.inl l4)] [] h) l0 l1 l2 l3 l4 h := by
  rfl
set_option maxRecDepth 100000 in
set_option maxHeartbeats 4000000 in
theorem i124 (call : Nat → List ag_V → ag_H → ag_R) (B : ag_K4) (l0 : Option Nat) (l1 : Int32) (l2 : Int32) (l3 : Int32) (h : ag_H) : ag_in 1 call B t124 0 [some (.inr l0), some (.inl l1), some (.inl l2), some (.inl l3), none] [] h = f124 call (fun (l0 : Option Nat) (l1 : Int32) (l2 : Int32) (l3 : Int32) (l4 : Int32) (h : ag_H) => B 7 [some (.inr l0), some (.inl l1), some (.inl l2), some (.inl l3), some (.inl l4)] [] h) l0 l1 l2 l3 h := by
  rfl
set_option maxRecDepth 100000 in
set_option maxHeartbeats 4000000 in
theorem o124 (call : Nat → List ag_V → ag_H → ag_R) : ∀ n : Nat, (fun (l0 : Option Nat) (l1 : Int32) (l2 : Int32) (l3 : Int32) (l4 : Int32) (h : ag_H) => (ag_out 1 call t124 n) 7 [some (.inr l0), some (.inl l1), some (.inl l2), some (.inl l3), some (.inl l4)] [] h) = g124 call n := by
  intro n
  induction n with
  | zero => rfl
  | succ n ih =>
    funext l0 l1 l2 l3 l4 h
    show ag_in 1 call (ag_out 1 call t124 n) t124 7 [some (.inr l0), some (.inl l1), some (.inl l2), some (.inl l3), some (.inl l4)] [] h = f124_7 call (g124 call n) l0 l1 l2 l3 l4 h
    rw [i124_7, ih]
set_option maxRecDepth 100000 in
set_option maxHeartbeats 4000000 in
theorem r124 (d : Nat) (l0 : Option Nat) (l1 : Int32) (l2 : Int32) (l3 : Int32) (h : ag_H) : ag_run gT (d + 1) 124 [.inr l0, .inl l1, .inl l2, .inl l3] h = f124 (ag_run gT d) (g124 (ag_run gT d) 3999) l0 l1 l2 l3 h := by
  show ag_out 1 (ag_run gT d) t124 4000 0 [some (.inr l0), some (.inl l1), some (.inl l2), some (.inl l3), none] [] h = _
  rw [ag_out_top, i124, o124]
def f125_192 (call : Nat → List ag_V → ag_H → ag_R)  (l0 : Option Nat) (h : ag_H) : ag_R :=
  ag_at h l0 11 fun a1 _ => ag_bV (call 120 [.inr (some a1)] h) fun h2 =>
  some (.inl none, h2)
def f125_67 (call : Nat → List ag_V → ag_H → ag_R)  (l0 : Option Nat) (l1 : Int32) (l2 : Int32) (l3 : Int32) (l4 : Int32) (h : ag_H) : ag_R :=
  if (ag_lit 0) ≤ l3 then
    ag_gR h l0 11 7 fun x1 =>
    ag_xI h x1 102 l4 fun x2 =>
    if x2 = (ag_lit 0) then
      ag_at h l0 11 fun a17 _ => ag_bV (call 118 [.inr (some a17), .inl (ag_lit8 110)] h) fun h18 =>
      f125_192 call l0 h18
    else
      ag_gR h l0 11 8 fun x3 =>
      ag_xI h x3 102 l4 fun x4 =>
      if x4 = (ag_lit 0) then
        ag_at h l0 11 fun a15 _ => ag_bV (call 118 [.inr (some a15), .inl (ag_lit8 100)] h) fun h16 =>
        f125_192 call l0 h16
      else
        ag_at h l0 11 fun a5 _ => ag_bI (call 124 [.inr (some a5), .inl l1, .inl l4, .inl l3] h) fun x7 h6 =>
        if (ag_lit 0) ≤ x7 then
          ag_gR h6 l0 11 14 fun x8 =>
          ag_gI h6 l0 11 40 fun x9 =>
          ag_dv (ag_lit16 300) <|
          ag_xP h6 x8 100 (((ag_lit16 200) * l1) + x9) (.inl ((x7 - x7 / (ag_lit16 300) * (ag_lit16 300)) + (ag_lit 1))) fun h10 =>
          ag_at h10 l0 11 fun a11 _ => ag_bV (call 119 [.inr (some a11), .inl x7] h10) fun h12 =>
          f125_192 call l0 h12
        else
          ag_at h6 l0 11 fun a13 _ => ag_bV (call 118 [.inr (some a13), .inl (ag_lit8 110)] h6) fun h14 =>
          f125_192 call l0 h14
  else
    ag_gR h l0 11 14 fun x19 =>
    ag_gI h l0 11 40 fun x20 =>
    ag_gR h l0 11 14 fun x21 =>
    ag_xI h x21 100 (((ag_lit16 200) * l1) + l2) fun x22 =>
    ag_xP h x19 100 (((ag_lit16 200) * l1) + x20) (.inl x22) fun h23 =>
    f125_192 call l0 h23
def f125_44 (call : Nat → List ag_V → ag_H → ag_R)  (l0 : Option Nat) (l1 : Int32) (l2 : Int32) (l3 : Int32) (l4 : Int32) (s0 : Option Nat) (s1 : Int32) (h : ag_H) : ag_R :=
  ag_at h s0 11 fun a1 _ => ag_bV (call 115 [.inr (some a1), .inl s1, .inl (ag_lit 2)] h) fun h2 =>
  if l3 < (ag_lit 0) then
    f125_67 call l0 l1 l2 l3 l4 h2
  else
    ag_at h2 l0 11 fun a3 _ => ag_bV (call 115 [.inr (some a3), .inl (ag_lit 1), .inl (ag_lit 2)] h2) fun h4 =>
    ag_at h4 l0 11 fun a5 _ => ag_bV (call 115 [.inr (some a5), .inl ((ag_lit8 97) + l3), .inl (ag_lit 1)] h4) fun h6 =>
    f125_67 call l0 l1 l2 l3 l4 h6
/-- NameSpacesModel.walkOne(III)V -/
def f125 (call : Nat → List ag_V → ag_H → ag_R)  (l0 : Option Nat) (l1 : Int32) (l2 : Int32) (l3 : Int32) (h : ag_H) : ag_R :=
  ag_at h l0 11 fun a1 _ => ag_bI (call 122 [.inr (some a1), .inl l1] h) fun x3 h2 =>
  ag_pF h2 l0 11 40 (.inl x3) fun h4 =>
  ag_at h4 l0 11 fun a5 _ => ag_bI (call 121 [.inr (some a5), .inl l1, .inl l2] h4) fun x7 h6 =>
  ag_at h6 l0 11 fun a8 _ => ag_bV (call 117 [.inr (some a8), .inl l1, .inl (ag_lit8 110), .inl l2] h6) fun h9 =>
  ag_gI h9 l0 11 40 fun x10 =>
  ag_at h9 l0 11 fun a11 _ => ag_bV (call 115 [.inr (some a11), .inl x10, .inl (ag_lit 4)] h9) fun h12 =>
  if (ag_lit 0) ≤ l3 then
    f125_44 call l0 l1 l2 l3 x7 l0 (ag_lit 1) h12
  else
    f125_44 call l0 l1 l2 l3 x7 l0 (ag_lit 0) h12
set_option maxRecDepth 100000 in
set_option maxHeartbeats 4000000 in
theorem i125 (call : Nat → List ag_V → ag_H → ag_R) (B : ag_K4) (l0 : Option Nat) (l1 : Int32) (l2 : Int32) (l3 : Int32) (h : ag_H) : ag_in 0 call B t125 0 [some (.inr l0), some (.inl l1), some (.inl l2), some (.inl l3), none, none] [] h = f125 call  l0 l1 l2 l3 h := by
  rfl
set_option maxRecDepth 100000 in
set_option maxHeartbeats 4000000 in
theorem r125 (d : Nat) (l0 : Option Nat) (l1 : Int32) (l2 : Int32) (l3 : Int32) (h : ag_H) : ag_run gT (d + 1) 125 [.inr l0, .inl l1, .inl l2, .inl l3] h = f125 (ag_run gT d)  l0 l1 l2 l3 h := by
  show ag_out 0 (ag_run gT d) t125 4000 0 [some (.inr l0), some (.inl l1), some (.inl l2), some (.inl l3), none, none] [] h = _
  rw [ag_out_top, i125]
def f126_70 (call : Nat → List ag_V → ag_H → ag_R)  (l0 : Option Nat) (h : ag_H) : ag_R :=
  ag_at h l0 11 fun a1 _ => ag_bV (call 120 [.inr (some a1)] h) fun h2 =>
  some (.inl none, h2)
def f126_64 (call : Nat → List ag_V → ag_H → ag_R)  (l0 : Option Nat) (l4 : Int32) (h : ag_H) : ag_R :=
  ag_at h l0 11 fun a1 _ => ag_bV (call 119 [.inr (some a1), .inl l4] h) fun h2 =>
  f126_70 call l0 h2
/-- NameSpacesModel.openOne(III)V -/
def f126 (call : Nat → List ag_V → ag_H → ag_R)  (l0 : Option Nat) (l1 : Int32) (l2 : Int32) (l3 : Int32) (h : ag_H) : ag_R :=
  ag_at h l0 11 fun a1 _ => ag_bI (call 121 [.inr (some a1), .inl l1, .inl l2] h) fun x3 h2 =>
  ag_at h2 l0 11 fun a4 _ => ag_bV (call 117 [.inr (some a4), .inl l1, .inl (ag_lit8 112), .inl l2] h2) fun h5 =>
  ag_at h5 l0 11 fun a6 _ => ag_bV (call 115 [.inr (some a6), .inl l3, .inl (ag_lit 1)] h5) fun h7 =>
  ag_gR h7 l0 11 7 fun x8 =>
  ag_xI h7 x8 102 x3 fun x9 =>
  if x9 = (ag_lit 0) then
    ag_at h7 l0 11 fun a14 _ => ag_bV (call 118 [.inr (some a14), .inl (ag_lit8 110)] h7) fun h15 =>
    f126_70 call l0 h15
  else
    ag_gR h7 l0 11 8 fun x10 =>
    ag_xI h7 x10 102 x3 fun x11 =>
    if x11 = (ag_lit 0) then
      f126_64 call l0 x3 h7
    else
      if l3 = (ag_lit 0) then
        f126_64 call l0 x3 h7
      else
        ag_at h7 l0 11 fun a12 _ => ag_bV (call 118 [.inr (some a12), .inl (ag_lit8 112)] h7) fun h13 =>
        f126_70 call l0 h13
set_option maxRecDepth 100000 in
set_option maxHeartbeats 4000000 in
theorem i126 (call : Nat → List ag_V → ag_H → ag_R) (B : ag_K4) (l0 : Option Nat) (l1 : Int32) (l2 : Int32) (l3 : Int32) (h : ag_H) : ag_in 0 call B t126 0 [some (.inr l0), some (.inl l1), some (.inl l2), some (.inl l3), none] [] h = f126 call  l0 l1 l2 l3 h := by
  rfl
set_option maxRecDepth 100000 in
set_option maxHeartbeats 4000000 in
theorem r126 (d : Nat) (l0 : Option Nat) (l1 : Int32) (l2 : Int32) (l3 : Int32) (h : ag_H) : ag_run gT (d + 1) 126 [.inr l0, .inl l1, .inl l2, .inl l3] h = f126 (ag_run gT d)  l0 l1 l2 l3 h := by
  show ag_out 0 (ag_run gT d) t126 4000 0 [some (.inr l0), some (.inl l1), some (.inl l2), some (.inl l3), none] [] h = _
  rw [ag_out_top, i126]
def f127_40 (call : Nat → List ag_V → ag_H → ag_R) (b8 : Option Nat → Int32 → Int32 → Int32 → ag_H → ag_R) (l0 : Option Nat) (l1 : Int32) (l3 : Int32) (s0 : Int32) (h : ag_H) : ag_R :=
  b8 l0 l1 s0 (l3 + ag_lit 1) h
def f127_8 (call : Nat → List ag_V → ag_H → ag_R) (b8 : Option Nat → Int32 → Int32 → Int32 → ag_H → ag_R) (l0 : Option Nat) (l1 : Int32) (l2 : Int32) (l3 : Int32) (h : ag_H) : ag_R :=
  ag_gR h l0 11 6 fun x1 =>
  ag_xI h x1 100 l1 fun x2 =>
  if (((ag_lit16 300) * l1) + x2) ≤ l3 then
    some (.inl (some (.inl l2)), h)
  else
    ag_gR h l0 11 7 fun x3 =>
    ag_xI h x3 102 l3 fun x4 =>
    if x4 = (ag_lit 0) then
      f127_40 call b8 l0 l1 l3 l2 h
    else
      f127_40 call b8 l0 l1 l3 (l2 + (ag_lit 1)) h
/-- NameSpacesModel.files(I)I -/
def f127 (call : Nat → List ag_V → ag_H → ag_R) (b8 : Option Nat → Int32 → Int32 → Int32 → ag_H → ag_R) (l0 : Option Nat) (l1 : Int32) (h : ag_H) : ag_R :=
  f127_8 call b8 l0 l1 (ag_lit 0) ((ag_lit16 300) * l1) h
def g127 (call : Nat → List ag_V → ag_H → ag_R) : Nat → Option Nat → Int32 → Int32 → Int32 → ag_H → ag_R
  | 0 => fun _ _ _ _ _ => none
  | n + 1 => f127_8 call (g127 call n)
set_option maxRecDepth 100000 in
set_option maxHeartbeats 4000000 in
theorem i127_8 (call : Nat → List ag_V → ag_H → ag_R) (B : ag_K4) (l0 : Option Nat) (l1 : Int32) (l2 : Int32) (l3 : Int32) (h : ag_H) : ag_in 1 call B t127 8 [some (.inr l0), some (.inl l1), some (.inl l2), some (.inl l3)] [] h = f127_8 call (fun (l0 : Option Nat) (l1 : Int32) (l2 : Int32) (l3 : Int32) (h : ag_H) => B 8 [some (.inr l0), some (.inl l1), some (.inl l2), some (.inl l3)] [] h) l0 l1 l2 l3 h := by
  rfl
set_option maxRecDepth 100000 in
set_option maxHeartbeats 4000000 in
theorem i127 (call : Nat → List ag_V → ag_H → ag_R) (B : ag_K4) (l0 : Option Nat) (l1 : Int32) (h : ag_H) : ag_in 1 call B t127 0 [some (.inr l0), some (.inl l1), none, none] [] h = f127 call (fun (l0 : Option Nat) (l1 : Int32) (l2 : Int32) (l3 : Int32) (h : ag_H) => B 8 [some (.inr l0), some (.inl l1), some (.inl l2), some (.inl l3)] [] h) l0 l1 h := by
  rfl
set_option maxRecDepth 100000 in
set_option maxHeartbeats 4000000 in
theorem o127 (call : Nat → List ag_V → ag_H → ag_R) : ∀ n : Nat, (fun (l0 : Option Nat) (l1 : Int32) (l2 : Int32) (l3 : Int32) (h : ag_H) => (ag_out 1 call t127 n) 8 [some (.inr l0), some (.inl l1), some (.inl l2), some (.inl l3)] [] h) = g127 call n := by
  intro n
  induction n with
  | zero => rfl
  | succ n ih =>
    funext l0 l1 l2 l3 h
    show ag_in 1 call (ag_out 1 call t127 n) t127 8 [some (.inr l0), some (.inl l1), some (.inl l2), some (.inl l3)] [] h = f127_8 call (g127 call n) l0 l1 l2 l3 h
    rw [i127_8, ih]
set_option maxRecDepth 100000 in
set_option maxHeartbeats 4000000 in
theorem r127 (d : Nat) (l0 : Option Nat) (l1 : Int32) (h : ag_H) : ag_run gT (d + 1) 127 [.inr l0, .inl l1] h = f127 (ag_run gT d) (g127 (ag_run gT d) 3999) l0 l1 h := by
  show ag_out 1 (ag_run gT d) t127 4000 0 [some (.inr l0), some (.inl l1), none, none] [] h = _
  rw [ag_out_top, i127, o127]
def f128_207 (call : Nat → List ag_V → ag_H → ag_R)  (l0 : Option Nat) (h : ag_H) : ag_R :=
  ag_at h l0 11 fun a1 _ => ag_bV (call 120 [.inr (some a1)] h) fun h2 =>
  some (.inl none, h2)
def f128_42 (call : Nat → List ag_V → ag_H → ag_R)  (l0 : Option Nat) (l1 : Int32) (l2 : Int32) (l3 : Int32) (l4 : Int32) (l5 : Int32) (s0 : Option Nat) (s1 : Int32) (h : ag_H) : ag_R :=
  ag_at h s0 11 fun a1 _ => ag_bV (call 115 [.inr (some a1), .inl s1, .inl (ag_lit 1)] h) fun h2 =>
  ag_gR h2 l0 11 7 fun x3 =>
  ag_xI h2 x3 102 l5 fun x4 =>
  if x4 = (ag_lit 0) then
    ag_at h2 l0 11 fun a36 _ => ag_bV (call 118 [.inr (some a36), .inl (ag_lit8 110)] h2) fun h37 =>
    f128_207 call l0 h37
  else
    ag_gR h2 l0 11 8 fun x5 =>
    ag_xI h2 x5 102 l5 fun x6 =>
    if x6 = (ag_lit 0) then
      ag_at h2 l0 11 fun a34 _ => ag_bV (call 118 [.inr (some a34), .inl (ag_lit8 100)] h2) fun h35 =>
      f128_207 call l0 h35
    else
      ag_at h2 l0 11 fun a7 _ => ag_bI (call 124 [.inr (some a7), .inl l1, .inl l5, .inl l3] h2) fun x9 h8 =>
      if x9 < (ag_lit 0) then
        ag_at h8 l0 11 fun a10 _ => ag_bI (call 127 [.inr (some a10), .inl l1] h8) fun x12 h11 =>
        if x12 = (ag_lit8 20) then
          ag_at h11 l0 11 fun a30 _ => ag_bV (call 118 [.inr (some a30), .inl (ag_lit8 102)] h11) fun h31 =>
          f128_207 call l0 h31
        else
          ag_gR h11 l0 11 6 fun x13 =>
          ag_xI h11 x13 100 l1 fun x14 =>
          ag_gR h11 l0 11 6 fun x15 =>
          ag_xI h11 x15 100 l1 fun x16 =>
          ag_xP h11 x15 100 l1 (.inl (x16 + (ag_lit 1))) fun h17 =>
          ag_gR h17 l0 11 7 fun x18 =>
          ag_isB (ag_lit 1) <| ag_xP h17 x18 102 (((ag_lit16 300) * l1) + x14) (.inl (ag_lit 1)) fun h19 =>
          ag_gR h19 l0 11 8 fun x20 =>
          ag_isB l4 <| ag_xP h19 x20 102 (((ag_lit16 300) * l1) + x14) (.inl l4) fun h21 =>
          ag_gR h21 l0 11 9 fun x22 =>
          ag_xP h21 x22 100 (((ag_lit16 300) * l1) + x14) (.inl l3) fun h23 =>
          ag_gR h23 l0 11 10 fun x24 =>
          ag_xP h23 x24 100 (((ag_lit16 300) * l1) + x14) (.inl l5) fun h25 =>
          ag_gR h25 l0 11 14 fun x26 =>
          ag_dv (ag_lit16 300) <|
          ag_xP h25 x26 100 (((ag_lit16 200) * l1) + l2) (.inl (((((ag_lit16 300) * l1) + x14) - (((ag_lit16 300) * l1) + x14) / (ag_lit16 300) * (ag_lit16 300)) + (ag_lit 1))) fun h27 =>
          ag_at h27 l0 11 fun a28 _ => ag_bV (call 119 [.inr (some a28), .inl (((ag_lit16 300) * l1) + x14)] h27) fun h29 =>
          f128_207 call l0 h29
      else
        ag_at h8 l0 11 fun a32 _ => ag_bV (call 118 [.inr (some a32), .inl (ag_lit8 120)] h8) fun h33 =>
        f128_207 call l0 h33
/-- NameSpacesModel.createOne(IIIZ)V -/
def f128 (call : Nat → List ag_V → ag_H → ag_R)  (l0 : Option Nat) (l1 : Int32) (l2 : Int32) (l3 : Int32) (l4 : Int32) (h : ag_H) : ag_R :=
  ag_at h l0 11 fun a1 _ => ag_bI (call 121 [.inr (some a1), .inl l1, .inl l2] h) fun x3 h2 =>
  ag_at h2 l0 11 fun a4 _ => ag_bV (call 117 [.inr (some a4), .inl l1, .inl (ag_lit8 114), .inl l2] h2) fun h5 =>
  ag_at h5 l0 11 fun a6 _ => ag_bV (call 115 [.inr (some a6), .inl (ag_lit 1), .inl (ag_lit 2)] h5) fun h7 =>
  ag_at h7 l0 11 fun a8 _ => ag_bV (call 115 [.inr (some a8), .inl ((ag_lit8 97) + l3), .inl (ag_lit 1)] h7) fun h9 =>
  if l4 = (ag_lit 0) then
    f128_42 call l0 l1 l2 l3 l4 x3 l0 (ag_lit 0) h9
  else
    f128_42 call l0 l1 l2 l3 l4 x3 l0 (ag_lit 1) h9
set_option maxRecDepth 100000 in
set_option maxHeartbeats 4000000 in
theorem i128 (call : Nat → List ag_V → ag_H → ag_R) (B : ag_K4) (l0 : Option Nat) (l1 : Int32) (l2 : Int32) (l3 : Int32) (l4 : Int32) (h : ag_H) : ag_in 0 call B t128 0 [some (.inr l0), some (.inl l1), some (.inl l2), some (.inl l3), some (.inl l4), none, none] [] h = f128 call  l0 l1 l2 l3 l4 h := by
  rfl
set_option maxRecDepth 100000 in
set_option maxHeartbeats 4000000 in
theorem r128 (d : Nat) (l0 : Option Nat) (l1 : Int32) (l2 : Int32) (l3 : Int32) (l4 : Int32) (h : ag_H) : ag_run gT (d + 1) 128 [.inr l0, .inl l1, .inl l2, .inl l3, .inl l4] h = f128 (ag_run gT d)  l0 l1 l2 l3 l4 h := by
  show ag_out 0 (ag_run gT d) t128 4000 0 [some (.inr l0), some (.inl l1), some (.inl l2), some (.inl l3), some (.inl l4), none, none] [] h = _
  rw [ag_out_top, i128]
def f129_67 (call : Nat → List ag_V → ag_H → ag_R) (b10 : Option Nat → Int32 → Int32 → Int32 → Int32 → ag_H → ag_R) (l0 : Option Nat) (l1 : Int32) (l2 : Int32) (l4 : Int32) (l5 : Int32) (h : ag_H) : ag_R :=
  b10 l0 l1 l2 l4 (l5 + ag_lit 1) h
def f129_10 (call : Nat → List ag_V → ag_H → ag_R) (b10 : Option Nat → Int32 → Int32 → Int32 → Int32 → ag_H → ag_R) (l0 : Option Nat) (l1 : Int32) (l2 : Int32) (l4 : Int32) (l5 : Int32) (h : ag_H) : ag_R :=
  ag_gR h l0 11 6 fun x1 =>
  ag_xI h x1 100 l1 fun x2 =>
  if (((ag_lit16 300) * l1) + x2) ≤ l5 then
    some (.inl (some (.inl (ag_lit (-1)))), h)
  else
    ag_gR h l0 11 7 fun x3 =>
    ag_xI h x3 102 l5 fun x4 =>
    if x4 = (ag_lit 0) then
      f129_67 call b10 l0 l1 l2 l4 l5 h
    else
      ag_gR h l0 11 10 fun x5 =>
      ag_xI h x5 100 l5 fun x6 =>
      if x6 = l2 then
        if l4 = (ag_lit 0) then
          ag_gR h l0 11 9 fun x7 =>
          ag_xI h x7 100 l5 fun x8 =>
          some (.inl (some (.inl ((ag_lit8 97) + x8))), h)
        else
          f129_67 call b10 l0 l1 l2 (l4 + ag_lit (-1)) l5 h
      else
        f129_67 call b10 l0 l1 l2 l4 l5 h
/-- NameSpacesModel.listed(III)I -/
def f129 (call : Nat → List ag_V → ag_H → ag_R) (b10 : Option Nat → Int32 → Int32 → Int32 → Int32 → ag_H → ag_R) (l0 : Option Nat) (l1 : Int32) (l2 : Int32) (l3 : Int32) (h : ag_H) : ag_R :=
  f129_10 call b10 l0 l1 l2 l3 ((ag_lit16 300) * l1) h
def g129 (call : Nat → List ag_V → ag_H → ag_R) : Nat → Option Nat → Int32 → Int32 → Int32 → Int32 → ag_H → ag_R
  | 0 => fun _ _ _ _ _ _ => none
  | n + 1 => f129_10 call (g129 call n)
set_option maxRecDepth 100000 in
set_option maxHeartbeats 4000000 in
theorem i129_10 (call : Nat → List ag_V → ag_H → ag_R) (B : ag_K4) (l0 : Option Nat) (l1 : Int32) (l2 : Int32) (l4 : Int32) (l5 : Int32) (h : ag_H) : ag_in 1 call B t129 10 [some (.inr l0), some (.inl l1), some (.inl l2), none, some (.inl l4), some (.inl l5)] [] h = f129_10 call (fun (l0 : Option Nat) (l1 : Int32) (l2 : Int32) (l4 : Int32) (l5 : Int32) (h : ag_H) => B 10 [some (.inr l0), some (.inl l1), some (.inl l2), none, some (.inl l4), some (.inl l5)] [] h) l0 l1 l2 l4 l5 h := by
  rfl
set_option maxRecDepth 100000 in
set_option maxHeartbeats 4000000 in
theorem i129 (call : Nat → List ag_V → ag_H → ag_R) (B : ag_K4) (l0 : Option Nat) (l1 : Int32) (l2 : Int32) (l3 : Int32) (h : ag_H) : ag_in 1 call B t129 0 [some (.inr l0), some (.inl l1), some (.inl l2), some (.inl l3), none, none] [] h = f129 call (fun (l0 : Option Nat) (l1 : Int32) (l2 : Int32) (l4 : Int32) (l5 : Int32) (h : ag_H) => B 10 [some (.inr l0), some (.inl l1), some (.inl l2), none, some (.inl l4), some (.inl l5)] [] h) l0 l1 l2 l3 h := by
  rfl
set_option maxRecDepth 100000 in
set_option maxHeartbeats 4000000 in
theorem o129 (call : Nat → List ag_V → ag_H → ag_R) : ∀ n : Nat, (fun (l0 : Option Nat) (l1 : Int32) (l2 : Int32) (l4 : Int32) (l5 : Int32) (h : ag_H) => (ag_out 1 call t129 n) 10 [some (.inr l0), some (.inl l1), some (.inl l2), none, some (.inl l4), some (.inl l5)] [] h) = g129 call n := by
  intro n
  induction n with
  | zero => rfl
  | succ n ih =>
    funext l0 l1 l2 l4 l5 h
    show ag_in 1 call (ag_out 1 call t129 n) t129 10 [some (.inr l0), some (.inl l1), some (.inl l2), none, some (.inl l4), some (.inl l5)] [] h = f129_10 call (g129 call n) l0 l1 l2 l4 l5 h
    rw [i129_10, ih]
set_option maxRecDepth 100000 in
set_option maxHeartbeats 4000000 in
theorem r129 (d : Nat) (l0 : Option Nat) (l1 : Int32) (l2 : Int32) (l3 : Int32) (h : ag_H) : ag_run gT (d + 1) 129 [.inr l0, .inl l1, .inl l2, .inl l3] h = f129 (ag_run gT d) (g129 (ag_run gT d) 3999) l0 l1 l2 l3 h := by
  show ag_out 1 (ag_run gT d) t129 4000 0 [some (.inr l0), some (.inl l1), some (.inl l2), some (.inl l3), none, none] [] h = _
  rw [ag_out_top, i129, o129]
def f130_131 (call : Nat → List ag_V → ag_H → ag_R)  (l0 : Option Nat) (h : ag_H) : ag_R :=
  ag_at h l0 11 fun a1 _ => ag_bV (call 120 [.inr (some a1)] h) fun h2 =>
  some (.inl none, h2)
def f130_111 (call : Nat → List ag_V → ag_H → ag_R)  (l0 : Option Nat) (s0 : Option Nat) (s1 : Int32) (h : ag_H) : ag_R :=
  ag_at h s0 11 fun a1 _ => ag_bV (call 116 [.inr (some a1), .inl s1, .inl (ag_lit 2)] h) fun h2 =>
  ag_gI h2 l0 11 21 fun x3 =>
  if x3 < (ag_lit 0) then
    f130_131 call l0 h2
  else
    ag_gI h2 l0 11 21 fun x4 =>
    ag_at h2 l0 11 fun a5 _ => ag_bV (call 116 [.inr (some a5), .inl x4, .inl (ag_lit 1)] h2) fun h6 =>
    f130_131 call l0 h6
def f130_95 (call : Nat → List ag_V → ag_H → ag_R)  (l0 : Option Nat) (s0 : Option Nat) (s1 : Int32) (h : ag_H) : ag_R :=
  ag_pF h s0 11 21 (.inl s1) fun h1 =>
  ag_gI h1 l0 11 21 fun x2 =>
  if (ag_lit 0) ≤ x2 then
    f130_111 call l0 l0 (ag_lit 1) h1
  else
    f130_111 call l0 l0 (ag_lit 0) h1
/-- NameSpacesModel.readOne(III)V -/
def f130 (call : Nat → List ag_V → ag_H → ag_R)  (l0 : Option Nat) (l1 : Int32) (l2 : Int32) (l3 : Int32) (h : ag_H) : ag_R :=
  ag_at h l0 11 fun a1 _ => ag_bI (call 121 [.inr (some a1), .inl l1, .inl l2] h) fun x3 h2 =>
  ag_at h2 l0 11 fun a4 _ => ag_bV (call 117 [.inr (some a4), .inl l1, .inl (ag_lit8 116), .inl l2] h2) fun h5 =>
  ag_at h5 l0 11 fun a6 _ => ag_bV (call 115 [.inr (some a6), .inl l3, .inl (ag_lit 4)] h5) fun h7 =>
  ag_pF h7 l0 11 21 (.inl (ag_lit (-1))) fun h8 =>
  ag_gR h8 l0 11 7 fun x9 =>
  ag_xI h8 x9 102 x3 fun x10 =>
  if x10 = (ag_lit 0) then
    ag_at h8 l0 11 fun a20 _ => ag_bV (call 118 [.inr (some a20), .inl (ag_lit8 110)] h8) fun h21 =>
    f130_131 call l0 h21
  else
    ag_gR h8 l0 11 8 fun x11 =>
    ag_xI h8 x11 102 x3 fun x12 =>
    if x12 = (ag_lit 0) then
      ag_gR h8 l0 11 11 fun x13 =>
      ag_xI h8 x13 100 x3 fun x14 =>
      if x14 ≤ l3 then
        f130_95 call l0 l0 (ag_lit (-1)) h8
      else
        ag_gR h8 l0 11 13 fun x15 =>
        ag_xI h8 x15 100 (((ag_lit8 8) * x3) + l3) fun x16 =>
        f130_95 call l0 l0 x16 h8
    else
      ag_at h8 l0 11 fun a17 _ => ag_bI (call 129 [.inr (some a17), .inl l1, .inl x3, .inl l3] h8) fun x19 h18 =>
      f130_95 call l0 l0 x19 h18
set_option maxRecDepth 100000 in
set_option maxHeartbeats 4000000 in
theorem i130 (call : Nat → List ag_V → ag_H → ag_R) (B : ag_K4) (l0 : Option Nat) (l1 : Int32) (l2 : Int32) (l3 : Int32) (h : ag_H) : ag_in 0 call B t130 0 [some (.inr l0), some (.inl l1), some (.inl l2), some (.inl l3), none] [] h = f130 call  l0 l1 l2 l3 h := by
  rfl
set_option maxRecDepth 100000 in
set_option maxHeartbeats 4000000 in
theorem r130 (d : Nat) (l0 : Option Nat) (l1 : Int32) (l2 : Int32) (l3 : Int32) (h : ag_H) : ag_run gT (d + 1) 130 [.inr l0, .inl l1, .inl l2, .inl l3] h = f130 (ag_run gT d)  l0 l1 l2 l3 h := by
  show ag_out 0 (ag_run gT d) t130 4000 0 [some (.inr l0), some (.inl l1), some (.inl l2), some (.inl l3), none] [] h = _
  rw [ag_out_top, i130]
def f131_139 (call : Nat → List ag_V → ag_H → ag_R)  (l0 : Option Nat) (h : ag_H) : ag_R :=
  ag_at h l0 11 fun a1 _ => ag_bV (call 120 [.inr (some a1)] h) fun h2 =>
  some (.inl none, h2)
def f131_107 (call : Nat → List ag_V → ag_H → ag_R)  (l0 : Option Nat) (l5 : Int32) (s0 : Option Nat) (s1 : Int32) (s2 : Int32) (h : ag_H) : ag_R :=
  ag_xP h s0 100 s1 (.inl s2) fun h1 =>
  ag_gR h1 l0 11 12 fun x2 =>
  ag_xI h1 x2 100 l5 fun x3 =>
  ag_xP h1 x2 100 l5 (.inl (x3 + (ag_lit 1))) fun h4 =>
  ag_gR h4 l0 11 11 fun x5 =>
  ag_xI h4 x5 100 l5 fun x6 =>
  ag_pF h4 l0 11 21 (.inl x6) fun h7 =>
  ag_gI h7 l0 11 21 fun x8 =>
  ag_at h7 l0 11 fun a9 _ => ag_bV (call 116 [.inr (some a9), .inl x8, .inl (ag_lit 4)] h7) fun h10 =>
  f131_139 call l0 h10
/-- NameSpacesModel.writeOne(IIII)V -/
def f131 (call : Nat → List ag_V → ag_H → ag_R)  (l0 : Option Nat) (l1 : Int32) (l2 : Int32) (l3 : Int32) (l4 : Int32) (h : ag_H) : ag_R :=
  ag_at h l0 11 fun a1 _ => ag_bI (call 121 [.inr (some a1), .inl l1, .inl l2] h) fun x3 h2 =>
  ag_at h2 l0 11 fun a4 _ => ag_bV (call 117 [.inr (some a4), .inl l1, .inl (ag_lit8 118), .inl l2] h2) fun h5 =>
  ag_at h5 l0 11 fun a6 _ => ag_bV (call 115 [.inr (some a6), .inl l3, .inl (ag_lit 4)] h5) fun h7 =>
  ag_at h7 l0 11 fun a8 _ => ag_bV (call 115 [.inr (some a8), .inl l4, .inl (ag_lit 1)] h7) fun h9 =>
  ag_gR h9 l0 11 7 fun x10 =>
  ag_xI h9 x10 102 x3 fun x11 =>
  if x11 = (ag_lit 0) then
    ag_at h9 l0 11 fun a21 _ => ag_bV (call 118 [.inr (some a21), .inl (ag_lit8 110)] h9) fun h22 =>
    f131_139 call l0 h22
  else
    if l3 = (ag_lit8 8) then
      ag_at h9 l0 11 fun a19 _ => ag_bV (call 118 [.inr (some a19), .inl (ag_lit8 102)] h9) fun h20 =>
      f131_139 call l0 h20
    else
      ag_gR h9 l0 11 13 fun x12 =>
      ag_xP h9 x12 100 (((ag_lit8 8) * x3) + l3) (.inl l4) fun h13 =>
      ag_gR h13 l0 11 11 fun x14 =>
      ag_gR h13 l0 11 11 fun x15 =>
      ag_xI h13 x15 100 x3 fun x16 =>
      if l3 = x16 then
        f131_107 call l0 x3 x14 x3 (l3 + (ag_lit 1)) h13
      else
        ag_gR h13 l0 11 11 fun x17 =>
        ag_xI h13 x17 100 x3 fun x18 =>
        f131_107 call l0 x3 x14 x3 x18 h13
set_option maxRecDepth 100000 in
set_option maxHeartbeats 4000000 in
theorem i131 (call : Nat → List ag_V → ag_H → ag_R) (B : ag_K4) (l0 : Option Nat) (l1 : Int32) (l2 : Int32) (l3 : Int32) (l4 : Int32) (h : ag_H) : ag_in 0 call B t131 0 [some (.inr l0), some (.inl l1), some (.inl l2), some (.inl l3), some (.inl l4), none] [] h = f131 call  l0 l1 l2 l3 l4 h := by
  rfl
set_option maxRecDepth 100000 in
set_option maxHeartbeats 4000000 in
theorem r131 (d : Nat) (l0 : Option Nat) (l1 : Int32) (l2 : Int32) (l3 : Int32) (l4 : Int32) (h : ag_H) : ag_run gT (d + 1) 131 [.inr l0, .inl l1, .inl l2, .inl l3, .inl l4] h = f131 (ag_run gT d)  l0 l1 l2 l3 l4 h := by
  show ag_out 0 (ag_run gT d) t131 4000 0 [some (.inr l0), some (.inl l1), some (.inl l2), some (.inl l3), some (.inl l4), none] [] h = _
  rw [ag_out_top, i131]
def f132_9 (call : Nat → List ag_V → ag_H → ag_R)  (l0 : Option Nat) (l1 : Int32) (l2 : Int32) (h : ag_H) : ag_R :=
  ag_at h l0 11 fun a1 _ => ag_bV (call 117 [.inr (some a1), .inl l1, .inl (ag_lit8 120), .inl l2] h) fun h2 =>
  ag_gR h2 l0 11 14 fun x3 =>
  ag_xP h2 x3 100 (((ag_lit16 200) * l1) + l2) (.inl (ag_lit 0)) fun h4 =>
  ag_at h4 l0 11 fun a5 _ => ag_bV (call 120 [.inr (some a5)] h4) fun h6 =>
  some (.inl none, h6)
/-- NameSpacesModel.clunk(II)V -/
def f132 (call : Nat → List ag_V → ag_H → ag_R)  (l0 : Option Nat) (l1 : Int32) (l2 : Int32) (h : ag_H) : ag_R :=
  if l1 = (ag_lit 0) then
    if l2 = (ag_lit 0) then
      some (.inl none, h)
    else
      f132_9 call l0 l1 l2 h
  else
    f132_9 call l0 l1 l2 h
set_option maxRecDepth 100000 in
set_option maxHeartbeats 4000000 in
theorem i132 (call : Nat → List ag_V → ag_H → ag_R) (B : ag_K4) (l0 : Option Nat) (l1 : Int32) (l2 : Int32) (h : ag_H) : ag_in 0 call B t132 0 [some (.inr l0), some (.inl l1), some (.inl l2)] [] h = f132 call  l0 l1 l2 h := by
  rfl
set_option maxRecDepth 100000 in
set_option maxHeartbeats 4000000 in
theorem r132 (d : Nat) (l0 : Option Nat) (l1 : Int32) (l2 : Int32) (h : ag_H) : ag_run gT (d + 1) 132 [.inr l0, .inl l1, .inl l2] h = f132 (ag_run gT d)  l0 l1 l2 h := by
  show ag_out 0 (ag_run gT d) t132 4000 0 [some (.inr l0), some (.inl l1), some (.inl l2)] [] h = _
  rw [ag_out_top, i132]
def f133_77 (call : Nat → List ag_V → ag_H → ag_R)  (l0 : Option Nat) (l1 : Int32) (l2 : Int32) (h : ag_H) : ag_R :=
  ag_gR h l0 11 14 fun x1 =>
  ag_xP h x1 100 (((ag_lit16 200) * l1) + l2) (.inl (ag_lit 0)) fun h2 =>
  ag_at h2 l0 11 fun a3 _ => ag_bV (call 120 [.inr (some a3)] h2) fun h4 =>
  some (.inl none, h4)
def f133_70 (call : Nat → List ag_V → ag_H → ag_R)  (l0 : Option Nat) (l1 : Int32) (l2 : Int32) (l3 : Int32) (h : ag_H) : ag_R :=
  ag_gR h l0 11 7 fun x1 =>
  ag_isB (ag_lit 0) <| ag_xP h x1 102 l3 (.inl (ag_lit 0)) fun h2 =>
  f133_77 call l0 l1 l2 h2
def f133_61 (call : Nat → List ag_V → ag_H → ag_R)  (l0 : Option Nat) (l1 : Int32) (l2 : Int32) (h : ag_H) : ag_R :=
  ag_at h l0 11 fun a1 _ => ag_bV (call 118 [.inr (some a1), .inl (ag_lit8 112)] h) fun h2 =>
  f133_77 call l0 l1 l2 h2
/-- NameSpacesModel.removeOne(II)V -/
def f133 (call : Nat → List ag_V → ag_H → ag_R)  (l0 : Option Nat) (l1 : Int32) (l2 : Int32) (h : ag_H) : ag_R :=
  ag_at h l0 11 fun a1 _ => ag_bI (call 121 [.inr (some a1), .inl l1, .inl l2] h) fun x3 h2 =>
  ag_at h2 l0 11 fun a4 _ => ag_bV (call 117 [.inr (some a4), .inl l1, .inl (ag_lit8 122), .inl l2] h2) fun h5 =>
  ag_gR h5 l0 11 7 fun x6 =>
  ag_xI h5 x6 102 x3 fun x7 =>
  if x7 = (ag_lit 0) then
    ag_at h5 l0 11 fun a13 _ => ag_bV (call 118 [.inr (some a13), .inl (ag_lit8 110)] h5) fun h14 =>
    f133_77 call l0 l1 l2 h14
  else
    if x3 = ((ag_lit16 300) * l1) then
      f133_61 call l0 l1 l2 h5
    else
      ag_gR h5 l0 11 8 fun x8 =>
      ag_xI h5 x8 102 x3 fun x9 =>
      if x9 = (ag_lit 0) then
        f133_70 call l0 l1 l2 x3 h5
      else
        ag_at h5 l0 11 fun a10 _ => ag_bI (call 129 [.inr (some a10), .inl l1, .inl x3, .inl (ag_lit 0)] h5) fun x12 h11 =>
        if x12 < (ag_lit 0) then
          f133_70 call l0 l1 l2 x3 h11
        else
          f133_61 call l0 l1 l2 h11
set_option maxRecDepth 100000 in
set_option maxHeartbeats 4000000 in
theorem i133 (call : Nat → List ag_V → ag_H → ag_R) (B : ag_K4) (l0 : Option Nat) (l1 : Int32) (l2 : Int32) (h : ag_H) : ag_in 0 call B t133 0 [some (.inr l0), some (.inl l1), some (.inl l2), none] [] h = f133 call  l0 l1 l2 h := by
  rfl
set_option maxRecDepth 100000 in
set_option maxHeartbeats 4000000 in
theorem r133 (d : Nat) (l0 : Option Nat) (l1 : Int32) (l2 : Int32) (h : ag_H) : ag_run gT (d + 1) 133 [.inr l0, .inl l1, .inl l2] h = f133 (ag_run gT d)  l0 l1 l2 h := by
  show ag_out 0 (ag_run gT d) t133 4000 0 [some (.inr l0), some (.inl l1), some (.inl l2), none] [] h = _
  rw [ag_out_top, i133]
def f134_38 (call : Nat → List ag_V → ag_H → ag_R)  (l0 : Option Nat) (h : ag_H) : ag_R :=
  ag_at h l0 11 fun a1 _ => ag_bV (call 120 [.inr (some a1)] h) fun h2 =>
  some (.inl none, h2)
/-- NameSpacesModel.statOne(II)V -/
def f134 (call : Nat → List ag_V → ag_H → ag_R)  (l0 : Option Nat) (l1 : Int32) (l2 : Int32) (h : ag_H) : ag_R :=
  ag_at h l0 11 fun a1 _ => ag_bI (call 121 [.inr (some a1), .inl l1, .inl l2] h) fun x3 h2 =>
  ag_at h2 l0 11 fun a4 _ => ag_bV (call 117 [.inr (some a4), .inl l1, .inl (ag_lit8 124), .inl l2] h2) fun h5 =>
  ag_gR h5 l0 11 7 fun x6 =>
  ag_xI h5 x6 102 x3 fun x7 =>
  if x7 = (ag_lit 0) then
    ag_at h5 l0 11 fun a10 _ => ag_bV (call 118 [.inr (some a10), .inl (ag_lit8 110)] h5) fun h11 =>
    f134_38 call l0 h11
  else
    ag_at h5 l0 11 fun a8 _ => ag_bV (call 119 [.inr (some a8), .inl x3] h5) fun h9 =>
    f134_38 call l0 h9
set_option maxRecDepth 100000 in
set_option maxHeartbeats 4000000 in
theorem i134 (call : Nat → List ag_V → ag_H → ag_R) (B : ag_K4) (l0 : Option Nat) (l1 : Int32) (l2 : Int32) (h : ag_H) : ag_in 0 call B t134 0 [some (.inr l0), some (.inl l1), some (.inl l2), none] [] h = f134 call  l0 l1 l2 h := by
  rfl
set_option maxRecDepth 100000 in
set_option maxHeartbeats 4000000 in
theorem r134 (d : Nat) (l0 : Option Nat) (l1 : Int32) (l2 : Int32) (h : ag_H) : ag_run gT (d + 1) 134 [.inr l0, .inl l1, .inl l2] h = f134 (ag_run gT d)  l0 l1 l2 h := by
  show ag_out 0 (ag_run gT d) t134 4000 0 [some (.inr l0), some (.inl l1), some (.inl l2), none] [] h = _
  rw [ag_out_top, i134]
def f135_15 (call : Nat → List ag_V → ag_H → ag_R)  (l0 : Option Nat) (l1 : Int32) (s0 : Option Nat) (s1 : Int32) (h : ag_H) : ag_R :=
  ag_pF h s0 11 41 (.inl s1) fun h1 =>
  ag_gI h1 l0 11 41 fun x2 =>
  if x2 = (ag_lit 0) then
    ag_gR h1 l0 11 1 fun x3 =>
    ag_gI h1 l0 11 0 fun x4 =>
    ag_isC l1 <| ag_xP h1 x3 101 x4 (.inl l1) fun h5 =>
    ag_gI h5 l0 11 0 fun x6 =>
    ag_pF h5 l0 11 0 (.inl (x6 + (ag_lit 1))) fun h7 =>
    ag_gI h7 l0 11 0 fun x8 =>
    some (.inl (some (.inl x8)), h7)
  else
    some (.inl (some (.inl (ag_lit 0))), h1)
/-- NameSpacesModel.type(C)I -/
def f135 (call : Nat → List ag_V → ag_H → ag_R)  (l0 : Option Nat) (l1 : Int32) (h : ag_H) : ag_R :=
  ag_gI h l0 11 0 fun x1 =>
  if x1 = (ag_lit8 24) then
    f135_15 call l0 l1 l0 (ag_lit 1) h
  else
    f135_15 call l0 l1 l0 (ag_lit 0) h
set_option maxRecDepth 100000 in
set_option maxHeartbeats 4000000 in
theorem i135 (call : Nat → List ag_V → ag_H → ag_R) (B : ag_K4) (l0 : Option Nat) (l1 : Int32) (h : ag_H) : ag_in 1 call B t135 0 [some (.inr l0), some (.inl l1)] [] h = f135 call  l0 l1 h := by
  rfl
set_option maxRecDepth 100000 in
set_option maxHeartbeats 4000000 in
theorem r135 (d : Nat) (l0 : Option Nat) (l1 : Int32) (h : ag_H) : ag_run gT (d + 1) 135 [.inr l0, .inl l1] h = f135 (ag_run gT d)  l0 l1 h := by
  show ag_out 1 (ag_run gT d) t135 4000 0 [some (.inr l0), some (.inl l1)] [] h = _
  rw [ag_out_top, i135]
def f136_7 (call : Nat → List ag_V → ag_H → ag_R) (b7 : Option Nat → Int32 → ag_H → ag_R) (l0 : Option Nat) (l1 : Int32) (h : ag_H) : ag_R :=
  ag_gI h l0 11 0 fun x1 =>
  if x1 ≤ l1 then
    ag_gI h l0 11 0 fun x2 =>
    ag_pF h l0 11 2 (.inl x2) fun h3 =>
    ag_pF h3 l0 11 0 (.inl (ag_lit 0)) fun h4 =>
    ag_gI h4 l0 11 2 fun x5 =>
    some (.inl (some (.inl x5)), h4)
  else
    ag_gR h l0 11 3 fun x6 =>
    ag_gR h l0 11 1 fun x7 =>
    ag_xI h x7 101 l1 fun x8 =>
    ag_isC x8 <| ag_xP h x6 101 l1 (.inl x8) fun h9 =>
    b7 l0 (l1 + ag_lit 1) h9
/-- NameSpacesModel.keep()I -/
def f136 (call : Nat → List ag_V → ag_H → ag_R) (b7 : Option Nat → Int32 → ag_H → ag_R) (l0 : Option Nat) (h : ag_H) : ag_R :=
  ag_pF h l0 11 41 (.inl (ag_lit 0)) fun h1 =>
  f136_7 call b7 l0 (ag_lit 0) h1
def g136 (call : Nat → List ag_V → ag_H → ag_R) : Nat → Option Nat → Int32 → ag_H → ag_R
  | 0 => fun _ _ _ => none
  | n + 1 => f136_7 call (g136 call n)
set_option maxRecDepth 100000 in
set_option maxHeartbeats 4000000 in
theorem i136_7 (call : Nat → List ag_V → ag_H → ag_R) (B : ag_K4) (l0 : Option Nat) (l1 : Int32) (h : ag_H) : ag_in 1 call B t136 7 [some (.inr l0), some (.inl l1)] [] h = f136_7 call (fun (l0 : Option Nat) (l1 : Int32) (h : ag_H) => B 7 [some (.inr l0), some (.inl l1)] [] h) l0 l1 h := by
  rfl
set_option maxRecDepth 100000 in
set_option maxHeartbeats 4000000 in
theorem i136 (call : Nat → List ag_V → ag_H → ag_R) (B : ag_K4) (l0 : Option Nat) (h : ag_H) : ag_in 1 call B t136 0 [some (.inr l0), none] [] h = f136 call (fun (l0 : Option Nat) (l1 : Int32) (h : ag_H) => B 7 [some (.inr l0), some (.inl l1)] [] h) l0 h := by
  rfl
set_option maxRecDepth 100000 in
set_option maxHeartbeats 4000000 in
theorem o136 (call : Nat → List ag_V → ag_H → ag_R) : ∀ n : Nat, (fun (l0 : Option Nat) (l1 : Int32) (h : ag_H) => (ag_out 1 call t136 n) 7 [some (.inr l0), some (.inl l1)] [] h) = g136 call n := by
  intro n
  induction n with
  | zero => rfl
  | succ n ih =>
    funext l0 l1 h
    show ag_in 1 call (ag_out 1 call t136 n) t136 7 [some (.inr l0), some (.inl l1)] [] h = f136_7 call (g136 call n) l0 l1 h
    rw [i136_7, ih]
set_option maxRecDepth 100000 in
set_option maxHeartbeats 4000000 in
theorem r136 (d : Nat) (l0 : Option Nat) (h : ag_H) : ag_run gT (d + 1) 136 [.inr l0] h = f136 (ag_run gT d) (g136 (ag_run gT d) 3999) l0 h := by
  show ag_out 1 (ag_run gT d) t136 4000 0 [some (.inr l0), none] [] h = _
  rw [ag_out_top, i136, o136]
def f137_44 (call : Nat → List ag_V → ag_H → ag_R)  (s0 : Int32) (h : ag_H) : ag_R :=
  some (.inl (some (.inl s0)), h)
def f137_15 (call : Nat → List ag_V → ag_H → ag_R)  (l0 : Option Nat) (l1 : Int32) (l2 : Int32) (s0 : Int32) (h : ag_H) : ag_R :=
  if l2 < s0 then
    if l1 = (ag_lit 0) then
      ag_gR h l0 11 1 fun x1 =>
      ag_xI h x1 101 l2 fun x2 =>
      f137_44 call x2 h
    else
      ag_gR h l0 11 3 fun x3 =>
      ag_xI h x3 101 l2 fun x4 =>
      f137_44 call x4 h
  else
    f137_44 call (ag_lit (-1)) h
/-- NameSpacesModel.charAt(ZI)I -/
def f137 (call : Nat → List ag_V → ag_H → ag_R)  (l0 : Option Nat) (l1 : Int32) (l2 : Int32) (h : ag_H) : ag_R :=
  if l1 = (ag_lit 0) then
    ag_gI h l0 11 0 fun x1 =>
    f137_15 call l0 l1 l2 x1 h
  else
    ag_gI h l0 11 2 fun x2 =>
    f137_15 call l0 l1 l2 x2 h
set_option maxRecDepth 100000 in
set_option maxHeartbeats 4000000 in
theorem i137 (call : Nat → List ag_V → ag_H → ag_R) (B : ag_K4) (l0 : Option Nat) (l1 : Int32) (l2 : Int32) (h : ag_H) : ag_in 1 call B t137 0 [some (.inr l0), some (.inl l1), some (.inl l2), none] [] h = f137 call  l0 l1 l2 h := by
  rfl
set_option maxRecDepth 100000 in
set_option maxHeartbeats 4000000 in
theorem r137 (d : Nat) (l0 : Option Nat) (l1 : Int32) (l2 : Int32) (h : ag_H) : ag_run gT (d + 1) 137 [.inr l0, .inl l1, .inl l2] h = f137 (ag_run gT d)  l0 l1 l2 h := by
  show ag_out 1 (ag_run gT d) t137 4000 0 [some (.inr l0), some (.inl l1), some (.inl l2), none] [] h = _
  rw [ag_out_top, i137]
def f138_188 (call : Nat → List ag_V → ag_H → ag_R) (b45 : Option Nat → Int32 → Int32 → Int32 → ag_H → ag_R) (s0 : Int32) (h : ag_H) : ag_R :=
  ag_isB s0 (some (.inl (some (.inl s0)), h))
def f138_176 (call : Nat → List ag_V → ag_H → ag_R) (b45 : Option Nat → Int32 → Int32 → Int32 → ag_H → ag_R) (l0 : Option Nat) (l1 : Int32) (l2 : Int32) (l3 : Int32) (h : ag_H) : ag_R :=
  b45 l0 l1 l2 l3 h
def f138_140 (call : Nat → List ag_V → ag_H → ag_R) (b45 : Option Nat → Int32 → Int32 → Int32 → ag_H → ag_R) (l0 : Option Nat) (l1 : Int32) (l2 : Int32) (l3 : Int32) (s0 : Option Nat) (s1 : Int32) (h : ag_H) : ag_R :=
  ag_pF h s0 11 4 (.inl s1) fun h1 =>
  f138_176 call b45 l0 l1 l2 (l3 + ag_lit 3) h1
def f138_117 (call : Nat → List ag_V → ag_H → ag_R) (b45 : Option Nat → Int32 → Int32 → Int32 → ag_H → ag_R) (l0 : Option Nat) (l1 : Int32) (l2 : Int32) (l3 : Int32) (l4 : Int32) (l5 : Int32) (h : ag_H) : ag_R :=
  if l5 = (ag_lit 0) then
    ag_gR h l0 11 5 fun x1 =>
    ag_gI h l0 11 4 fun x2 =>
    ag_xP h x1 100 x2 (.inl (l4 - (ag_lit8 97))) fun h3 =>
    ag_gI h3 l0 11 4 fun x4 =>
    ag_pF h3 l0 11 4 (.inl (x4 + (ag_lit 1))) fun h5 =>
    f138_176 call b45 l0 l1 l2 (l3 + ag_lit 2) h5
  else
    ag_gI h l0 11 4 fun x6 =>
    if x6 ≤ (ag_lit 0) then
      f138_140 call b45 l0 l1 l2 l3 l0 (ag_lit 0) h
    else
      ag_gI h l0 11 4 fun x7 =>
      f138_140 call b45 l0 l1 l2 l3 l0 (x7 - (ag_lit 1)) h
def f138_115 (call : Nat → List ag_V → ag_H → ag_R) (b45 : Option Nat → Int32 → Int32 → Int32 → ag_H → ag_R)  (h : ag_H) : ag_R :=
  ag_isB (ag_lit 0) (some (.inl (some (.inl (ag_lit 0))), h))
def f138_85 (call : Nat → List ag_V → ag_H → ag_R) (b45 : Option Nat → Int32 → Int32 → Int32 → ag_H → ag_R) (l0 : Option Nat) (l1 : Int32) (l2 : Int32) (l3 : Int32) (l4 : Int32) (s0 : Int32) (h : ag_H) : ag_R :=
  ag_at h l0 11 fun a1 _ => ag_bI (call 137 [.inr (some a1), .inl l1, .inl l3] h) fun x3 h2 =>
  if x3 = (ag_lit8 47) then
    if s0 = (ag_lit 0) then
      ag_bI (call 114 [.inl l4, .inl (ag_lit8 97), .inl (ag_lit8 104)] h2) fun x5 h4 =>
      if x5 = (ag_lit 0) then
        f138_117 call b45 l0 l1 l2 l3 l4 s0 h4
      else
        f138_115 call b45 h4
    else
      f138_117 call b45 l0 l1 l2 l3 l4 s0 h2
  else
    f138_115 call b45 h2
def f138_84 (call : Nat → List ag_V → ag_H → ag_R) (b45 : Option Nat → Int32 → Int32 → Int32 → ag_H → ag_R) (l0 : Option Nat) (l1 : Int32) (l2 : Int32) (l3 : Int32) (l4 : Int32) (h : ag_H) : ag_R :=
  f138_85 call b45 l0 l1 l2 l3 l4 (ag_lit 0) h
def f138_45 (call : Nat → List ag_V → ag_H → ag_R) (b45 : Option Nat → Int32 → Int32 → Int32 → ag_H → ag_R) (l0 : Option Nat) (l1 : Int32) (l2 : Int32) (l3 : Int32) (h : ag_H) : ag_R :=
  if l2 ≤ l3 then
    if l2 ≤ (ag_lit 0) then
      f138_188 call b45 (ag_lit 0) h
    else
      f138_188 call b45 (ag_lit 1) h
  else
    ag_at h l0 11 fun a1 _ => ag_bI (call 137 [.inr (some a1), .inl l1, .inl (l3 + (ag_lit 1))] h) fun x3 h2 =>
    if x3 = (ag_lit8 46) then
      ag_at h2 l0 11 fun a4 _ => ag_bI (call 137 [.inr (some a4), .inl l1, .inl (l3 + (ag_lit 2))] h2) fun x6 h5 =>
      if x6 = (ag_lit8 46) then
        f138_85 call b45 l0 l1 l2 l3 x3 (ag_lit 1) h5
      else
        f138_84 call b45 l0 l1 l2 l3 x3 h5
    else
      f138_84 call b45 l0 l1 l2 l3 x3 h2
def f138_42 (call : Nat → List ag_V → ag_H → ag_R) (b45 : Option Nat → Int32 → Int32 → Int32 → ag_H → ag_R) (s0 : Int32) (h : ag_H) : ag_R :=
  ag_isB s0 (some (.inl (some (.inl s0)), h))
def f138_15 (call : Nat → List ag_V → ag_H → ag_R) (b45 : Option Nat → Int32 → Int32 → Int32 → ag_H → ag_R) (l0 : Option Nat) (l1 : Int32) (s0 : Int32) (h : ag_H) : ag_R :=
  ag_pF h l0 11 4 (.inl (ag_lit 0)) fun h1 =>
  if s0 = (ag_lit 1) then
    ag_at h1 l0 11 fun a2 _ => ag_bI (call 137 [.inr (some a2), .inl l1, .inl (ag_lit 0)] h1) fun x4 h3 =>
    if x4 = (ag_lit8 47) then
      f138_42 call b45 (ag_lit 1) h3
    else
      f138_42 call b45 (ag_lit 0) h3
  else
    f138_45 call b45 l0 l1 s0 (ag_lit 0) h1
/-- NameSpacesModel.parsed(Z)Z -/
def f138 (call : Nat → List ag_V → ag_H → ag_R) (b45 : Option Nat → Int32 → Int32 → Int32 → ag_H → ag_R) (l0 : Option Nat) (l1 : Int32) (h : ag_H) : ag_R :=
  if l1 = (ag_lit 0) then
    ag_gI h l0 11 0 fun x1 =>
    f138_15 call b45 l0 l1 x1 h
  else
    ag_gI h l0 11 2 fun x2 =>
    f138_15 call b45 l0 l1 x2 h
def g138 (call : Nat → List ag_V → ag_H → ag_R) : Nat → Option Nat → Int32 → Int32 → Int32 → ag_H → ag_R
  | 0 => fun _ _ _ _ _ => none
  | n + 1 => f138_45 call (g138 call n)
set_option maxRecDepth 100000 in
set_option maxHeartbeats 4000000 in
theorem i138_45 (call : Nat → List ag_V → ag_H → ag_R) (B : ag_K4) (l0 : Option Nat) (l1 : Int32) (l2 : Int32) (l3 : Int32) (h : ag_H) : ag_in 4 call B t138 45 [some (.inr l0), some (.inl l1), some (.inl l2), some (.inl l3), none, none] [] h = f138_45 call (fun (l0 : Option Nat) (l1 : Int32) (l2 : Int32) (l3 : Int32) (h : ag_H) => B 45 [some (.inr l0), some (.inl l1), some (.inl l2), some (.inl l3), none, none] [] h) l0 l1 l2 l3 h := by
  rfl
set_option maxRecDepth 100000 in
set_option maxHeartbeats 4000000 in
theorem i138 (call : Nat → List ag_V → ag_H → ag_R) (B : ag_K4) (l0 : Option Nat) (l1 : Int32) (h : ag_H) : ag_in 4 call B t138 0 [some (.inr l0), some (.inl l1), none, none, none, none] [] h = f138 call (fun (l0 : Option Nat) (l1 : Int32) (l2 : Int32) (l3 : Int32) (h : ag_H) => B 45 [some (.inr l0), some (.inl l1), some (.inl l2), some (.inl l3), none, none] [] h) l0 l1 h := by
  rfl
set_option maxRecDepth 100000 in
set_option maxHeartbeats 4000000 in
theorem o138 (call : Nat → List ag_V → ag_H → ag_R) : ∀ n : Nat, (fun (l0 : Option Nat) (l1 : Int32) (l2 : Int32) (l3 : Int32) (h : ag_H) => (ag_out 4 call t138 n) 45 [some (.inr l0), some (.inl l1), some (.inl l2), some (.inl l3), none, none] [] h) = g138 call n := by
  intro n
  induction n with
  | zero => rfl
  | succ n ih =>
    funext l0 l1 l2 l3 h
    show ag_in 4 call (ag_out 4 call t138 n) t138 45 [some (.inr l0), some (.inl l1), some (.inl l2), some (.inl l3), none, none] [] h = f138_45 call (g138 call n) l0 l1 l2 l3 h
    rw [i138_45, ih]
set_option maxRecDepth 100000 in
set_option maxHeartbeats 4000000 in
theorem r138 (d : Nat) (l0 : Option Nat) (l1 : Int32) (h : ag_H) : ag_run gT (d + 1) 138 [.inr l0, .inl l1] h = f138 (ag_run gT d) (g138 (ag_run gT d) 3999) l0 l1 h := by
  show ag_out 4 (ag_run gT d) t138 4000 0 [some (.inr l0), some (.inl l1), none, none, none, none] [] h = _
  rw [ag_out_top, i138, o138]
/-- NameSpacesModel.forget()V -/
def f139 (call : Nat → List ag_V → ag_H → ag_R)  (l0 : Option Nat) (h : ag_H) : ag_R :=
  ag_pF h l0 11 0 (.inl (ag_lit 0)) fun h1 =>
  ag_pF h1 l0 11 2 (.inl (ag_lit 0)) fun h2 =>
  some (.inl none, h2)
set_option maxRecDepth 100000 in
set_option maxHeartbeats 4000000 in
theorem i139 (call : Nat → List ag_V → ag_H → ag_R) (B : ag_K4) (l0 : Option Nat) (h : ag_H) : ag_in 0 call B t139 0 [some (.inr l0)] [] h = f139 call  l0 h := by
  rfl
set_option maxRecDepth 100000 in
set_option maxHeartbeats 4000000 in
theorem r139 (d : Nat) (l0 : Option Nat) (h : ag_H) : ag_run gT (d + 1) 139 [.inr l0] h = f139 (ag_run gT d)  l0 h := by
  show ag_out 0 (ag_run gT d) t139 4000 0 [some (.inr l0)] [] h = _
  rw [ag_out_top, i139]
def f140_71 (call : Nat → List ag_V → ag_H → ag_R) (b14 : Option Nat → Int32 → Int32 → Int32 → Int32 → Int32 → ag_H → ag_R) (l0 : Option Nat) (l1 : Int32) (l2 : Int32) (l3 : Int32) (l4 : Int32) (l5 : Int32) (h : ag_H) : ag_R :=
  b14 l0 l1 l2 l3 l4 (l5 + ag_lit 1) h
def f140_14 (call : Nat → List ag_V → ag_H → ag_R) (b14 : Option Nat → Int32 → Int32 → Int32 → Int32 → Int32 → ag_H → ag_R) (l0 : Option Nat) (l1 : Int32) (l2 : Int32) (l3 : Int32) (l4 : Int32) (l5 : Int32) (h : ag_H) : ag_R :=
  ag_gR h l0 11 22 fun x1 =>
  ag_gR h l0 11 30 fun x2 =>
  ag_xI h x2 100 l1 fun x3 =>
  ag_xI h x1 100 x3 fun x4 =>
  if (l4 + x4) ≤ l5 then
    some (.inl (some (.inl (ag_lit (-1)))), h)
  else
    ag_gR h l0 11 23 fun x5 =>
    ag_xI h x5 100 l5 fun x6 =>
    if x6 = l2 then
      ag_gR h l0 11 24 fun x7 =>
      ag_xI h x7 100 l5 fun x8 =>
      ag_gR h l0 11 14 fun x9 =>
      ag_xI h x9 100 (((ag_lit16 200) * l2) + l3) fun x10 =>
      if x8 = (x10 - (ag_lit 1)) then
        some (.inl (some (.inl l5)), h)
      else
        f140_71 call b14 l0 l1 l2 l3 l4 l5 h
    else
      f140_71 call b14 l0 l1 l2 l3 l4 l5 h
/-- NameSpacesModel.placeOf(III)I -/
def f140 (call : Nat → List ag_V → ag_H → ag_R) (b14 : Option Nat → Int32 → Int32 → Int32 → Int32 → Int32 → ag_H → ag_R) (l0 : Option Nat) (l1 : Int32) (l2 : Int32) (l3 : Int32) (h : ag_H) : ag_R :=
  ag_gR h l0 11 30 fun x1 =>
  ag_xI h x1 100 l1 fun x2 =>
  f140_14 call b14 l0 l1 l2 l3 ((ag_lit 4) * x2) ((ag_lit 4) * x2) h
def g140 (call : Nat → List ag_V → ag_H → ag_R) : Nat → Option Nat → Int32 → Int32 → Int32 → Int32 → Int32 → ag_H → ag_R
  | 0 => fun _ _ _ _ _ _ _ => none
  | n + 1 => f140_14 call (g140 call n)
set_option maxRecDepth 100000 in
set_option maxHeartbeats 4000000 in
theorem i140_14 (call : Nat → List ag_V → ag_H → ag_R) (B : ag_K4) (l0 : Option Nat) (l1 : Int32) (l2 : Int32) (l3 : Int32) (l4 : Int32) (l5 : Int32) (h : ag_H) : ag_in 1 call B t140 14 [some (.inr l0), some (.inl l1), some (.inl l2), some (.inl l3), some (.inl l4), some (.inl l5)] [] h = f140_14 call (fun (l0 : Option Nat) (l1 : Int32) (l2 : Int32) (l3 : Int32) (l4 : Int32) (l5 : Int32) (h : ag_H) => B 14 [some (.inr l0), some (.inl l1), some (.inl l2), some (.inl l3), some (.inl l4), some (.inl l5)] [] h) l0 l1 l2 l3 l4 l5 h := by
  rfl
set_option maxRecDepth 100000 in
set_option maxHeartbeats 4000000 in
theorem i140 (call : Nat → List ag_V → ag_H → ag_R) (B : ag_K4) (l0 : Option Nat) (l1 : Int32) (l2 : Int32) (l3 : Int32) (h : ag_H) : ag_in 1 call B t140 0 [some (.inr l0), some (.inl l1), some (.inl l2), some (.inl l3), none, none] [] h = f140 call (fun (l0 : Option Nat) (l1 : Int32) (l2 : Int32) (l3 : Int32) (l4 : Int32) (l5 : Int32) (h : ag_H) => B 14 [some (.inr l0), some (.inl l1), some (.inl l2), some (.inl l3), some (.inl l4), some (.inl l5)] [] h) l0 l1 l2 l3 h := by
  rfl
set_option maxRecDepth 100000 in
set_option maxHeartbeats 4000000 in
theorem o140 (call : Nat → List ag_V → ag_H → ag_R) : ∀ n : Nat, (fun (l0 : Option Nat) (l1 : Int32) (l2 : Int32) (l3 : Int32) (l4 : Int32) (l5 : Int32) (h : ag_H) => (ag_out 1 call t140 n) 14 [some (.inr l0), some (.inl l1), some (.inl l2), some (.inl l3), some (.inl l4), some (.inl l5)] [] h) = g140 call n := by
  intro n
  induction n with
  | zero => rfl
  | succ n ih =>
    funext l0 l1 l2 l3 l4 l5 h
    show ag_in 1 call (ag_out 1 call t140 n) t140 14 [some (.inr l0), some (.inl l1), some (.inl l2), some (.inl l3), some (.inl l4), some (.inl l5)] [] h = f140_14 call (g140 call n) l0 l1 l2 l3 l4 l5 h
    rw [i140_14, ih]
set_option maxRecDepth 100000 in
set_option maxHeartbeats 4000000 in
theorem r140 (d : Nat) (l0 : Option Nat) (l1 : Int32) (l2 : Int32) (l3 : Int32) (h : ag_H) : ag_run gT (d + 1) 140 [.inr l0, .inl l1, .inl l2, .inl l3] h = f140 (ag_run gT d) (g140 (ag_run gT d) 3999) l0 l1 l2 l3 h := by
  show ag_out 1 (ag_run gT d) t140 4000 0 [some (.inr l0), some (.inl l1), some (.inl l2), some (.inl l3), none, none] [] h = _
  rw [ag_out_top, i140, o140]
def f141_197 (call : Nat → List ag_V → ag_H → ag_R) (b12 : Option Nat → Int32 → Int32 → Int32 → ag_H → ag_R) (b62 : Option Nat → Int32 → Int32 → Int32 → Int32 → Int32 → Int32 → Int32 → Int32 → ag_H → ag_R) (s0 : Int32) (h : ag_H) : ag_R :=
  some (.inl (some (.inl s0)), h)
def f141_156 (call : Nat → List ag_V → ag_H → ag_R) (b12 : Option Nat → Int32 → Int32 → Int32 → ag_H → ag_R) (b62 : Option Nat → Int32 → Int32 → Int32 → Int32 → Int32 → Int32 → Int32 → Int32 → ag_H → ag_R) (l0 : Option Nat) (l1 : Int32) (l2 : Int32) (l3 : Int32) (l6 : Int32) (l7 : Int32) (h : ag_H) : ag_R :=
  ag_gI h l0 11 20 fun x1 =>
  ag_gI h l0 11 40 fun x2 =>
  ag_gI h l0 11 38 fun x3 =>
  ag_gI h l0 11 39 fun x4 =>
  ag_at h l0 11 fun a5 _ => ag_bV (call 132 [.inr (some a5), .inl x3, .inl x4] h) fun h6 =>
  if l7 = (ag_lit 0) then
    if x1 = (ag_lit8 100) then
      f141_197 call b12 b62 (ag_lit 2) h6
    else
      f141_197 call b12 b62 (ag_lit 1) h6
  else
    ag_pF h6 l0 11 38 (.inl l6) fun h7 =>
    ag_pF h7 l0 11 39 (.inl x2) fun h8 =>
    b12 l0 l1 l2 (l3 + ag_lit 1) h8
def f141_148 (call : Nat → List ag_V → ag_H → ag_R) (b12 : Option Nat → Int32 → Int32 → Int32 → ag_H → ag_R) (b62 : Option Nat → Int32 → Int32 → Int32 → Int32 → Int32 → Int32 → Int32 → Int32 → ag_H → ag_R) (l0 : Option Nat) (l1 : Int32) (l2 : Int32) (l3 : Int32) (l4 : Int32) (l5 : Int32) (l6 : Int32) (l8 : Int32) (s0 : Int32) (h : ag_H) : ag_R :=
  b62 l0 l1 l2 l3 l4 l5 l6 s0 (l8 + ag_lit 1) h
def f141_127 (call : Nat → List ag_V → ag_H → ag_R) (b12 : Option Nat → Int32 → Int32 → Int32 → ag_H → ag_R) (b62 : Option Nat → Int32 → Int32 → Int32 → Int32 → Int32 → Int32 → Int32 → Int32 → ag_H → ag_R) (l0 : Option Nat) (l1 : Int32) (l2 : Int32) (l3 : Int32) (l4 : Int32) (l5 : Int32) (l6 : Int32) (l8 : Int32) (s0 : Option Nat) (s1 : Int32) (s2 : Int32) (h : ag_H) : ag_R :=
  ag_gR h l0 11 5 fun x1 =>
  ag_xI h x1 100 l3 fun x2 =>
  ag_at h s0 11 fun a3 _ => ag_bV (call 125 [.inr (some a3), .inl s1, .inl s2, .inl x2] h) fun h4 =>
  ag_gI h4 l0 11 20 fun x5 =>
  if x5 = (ag_lit 0) then
    f141_148 call b12 b62 l0 l1 l2 l3 l4 l5 l6 l8 (ag_lit 1) h4
  else
    f141_148 call b12 b62 l0 l1 l2 l3 l4 l5 l6 l8 (ag_lit 0) h4
def f141_98 (call : Nat → List ag_V → ag_H → ag_R) (b12 : Option Nat → Int32 → Int32 → Int32 → ag_H → ag_R) (b62 : Option Nat → Int32 → Int32 → Int32 → Int32 → Int32 → Int32 → Int32 → Int32 → ag_H → ag_R) (l0 : Option Nat) (l1 : Int32) (l2 : Int32) (l3 : Int32) (l4 : Int32) (l5 : Int32) (l8 : Int32) (s0 : Int32) (h : ag_H) : ag_R :=
  if (ag_lit 0) ≤ l4 then
    ag_gR h l0 11 27 fun x1 =>
    ag_xI h x1 100 (((ag_lit 3) * l4) + l8) fun x2 =>
    f141_127 call b12 b62 l0 l1 l2 l3 l4 l5 s0 l8 l0 s0 x2 h
  else
    ag_gI h l0 11 39 fun x3 =>
    f141_127 call b12 b62 l0 l1 l2 l3 l4 l5 s0 l8 l0 s0 x3 h
def f141_62 (call : Nat → List ag_V → ag_H → ag_R) (b12 : Option Nat → Int32 → Int32 → Int32 → ag_H → ag_R) (b62 : Option Nat → Int32 → Int32 → Int32 → Int32 → Int32 → Int32 → Int32 → Int32 → ag_H → ag_R) (l0 : Option Nat) (l1 : Int32) (l2 : Int32) (l3 : Int32) (l4 : Int32) (l5 : Int32) (l6 : Int32) (l7 : Int32) (l8 : Int32) (h : ag_H) : ag_R :=
  if l5 ≤ l8 then
    f141_156 call b12 b62 l0 l1 l2 l3 l6 l7 h
  else
    if l7 = (ag_lit 0) then
      if (ag_lit 0) ≤ l4 then
        ag_gR h l0 11 26 fun x1 =>
        ag_xI h x1 100 (((ag_lit 3) * l4) + l8) fun x2 =>
        f141_98 call b12 b62 l0 l1 l2 l3 l4 l5 l8 x2 h
      else
        ag_gI h l0 11 38 fun x3 =>
        f141_98 call b12 b62 l0 l1 l2 l3 l4 l5 l8 x3 h
    else
      f141_156 call b12 b62 l0 l1 l2 l3 l6 l7 h
def f141_48 (call : Nat → List ag_V → ag_H → ag_R) (b12 : Option Nat → Int32 → Int32 → Int32 → ag_H → ag_R) (b62 : Option Nat → Int32 → Int32 → Int32 → Int32 → Int32 → Int32 → Int32 → Int32 → ag_H → ag_R) (l0 : Option Nat) (l1 : Int32) (l2 : Int32) (l3 : Int32) (l4 : Int32) (s0 : Int32) (h : ag_H) : ag_R :=
  ag_gI h l0 11 38 fun x1 =>
  f141_62 call b12 b62 l0 l1 l2 l3 l4 s0 x1 (ag_lit 0) (ag_lit 0) h
def f141_12 (call : Nat → List ag_V → ag_H → ag_R) (b12 : Option Nat → Int32 → Int32 → Int32 → ag_H → ag_R) (b62 : Option Nat → Int32 → Int32 → Int32 → Int32 → Int32 → Int32 → Int32 → Int32 → ag_H → ag_R) (l0 : Option Nat) (l1 : Int32) (l2 : Int32) (l3 : Int32) (h : ag_H) : ag_R :=
  if l2 ≤ l3 then
    some (.inl (some (.inl (ag_lit 0))), h)
  else
    ag_gI h l0 11 38 fun x1 =>
    ag_gI h l0 11 39 fun x2 =>
    ag_at h l0 11 fun a3 _ => ag_bI (call 140 [.inr (some a3), .inl l1, .inl x1, .inl x2] h) fun x5 h4 =>
    if (ag_lit 0) ≤ x5 then
      ag_gR h4 l0 11 25 fun x6 =>
      ag_xI h4 x6 100 x5 fun x7 =>
      f141_48 call b12 b62 l0 l1 l2 l3 x5 x7 h4
    else
      f141_48 call b12 b62 l0 l1 l2 l3 x5 (ag_lit 1) h4
/-- NameSpacesModel.walk(II)I -/
def f141 (call : Nat → List ag_V → ag_H → ag_R) (b12 : Option Nat → Int32 → Int32 → Int32 → ag_H → ag_R) (b62 : Option Nat → Int32 → Int32 → Int32 → Int32 → Int32 → Int32 → Int32 → Int32 → ag_H → ag_R) (l0 : Option Nat) (l1 : Int32) (l2 : Int32) (h : ag_H) : ag_R :=
  ag_pF h l0 11 38 (.inl (ag_lit 0)) fun h1 =>
  ag_pF h1 l0 11 39 (.inl (ag_lit 0)) fun h2 =>
  f141_12 call b12 b62 l0 l1 l2 (ag_lit 0) h2
def g141 (call : Nat → List ag_V → ag_H → ag_R) : Nat → (Option Nat → Int32 → Int32 → Int32 → ag_H → ag_R) × (Option Nat → Int32 → Int32 → Int32 → Int32 → Int32 → Int32 → Int32 → Int32 → ag_H → ag_R)
  | 0 => (fun _ _ _ _ _ => none, fun _ _ _ _ _ _ _ _ _ _ => none)
  | n + 1 => (f141_12 call (g141 call n).1 (g141 call n).2, f141_62 call (g141 call n).1 (g141 call n).2)
set_option maxRecDepth 100000 in
set_option maxHeartbeats 4000000 in
theorem i141_12 (call : Nat → List ag_V → ag_H → ag_R) (B : ag_K4) (l0 : Option Nat) (l1 : Int32) (l2 : Int32) (l3 : Int32) (h : ag_H) : ag_in 1 call B t141 12 [some (.inr l0), some (.inl l1), some (.inl l2), some (.inl l3), none, none, none, none, none, none] [] h = f141_12 call (fun (l0 : Option Nat) (l1 : Int32) (l2 : Int32) (l3 : Int32) (h : ag_H) => B 12 [some (.inr l0), some (.inl l1), some (.inl l2), some (.inl l3), none, none, none, none, none, none] [] h) (fun (l0 : Option Nat) (l1 : Int32) (l2 : Int32) (l3 : Int32) (l4 : Int32) (l5 : Int32) (l6 : Int32) (l7 : Int32) (l8 : Int32) (h : ag_H) => B 62 [some (.inr l0), some (.inl l1), some (.inl l2), some (.inl l3), some (.inl l4), some (.inl l5), some (.inl l6), some (.inl l7), some (.inl l8), none] [] h) l0 l1 l2 l3 h := by
  rfl
set_option maxRecDepth 100000 in
set_option maxHeartbeats 4000000 in
theorem i141_62 (call : Nat → List ag_V → ag_H → ag_R) (B : ag_K4) (l0 : Option Nat) (l1 : Int32) (l2 : Int32) (l3 : Int32) (l4 : Int32) (l5 : Int32) (l6 : Int32) (l7 : Int32) (l8 : Int32) (h : ag_H) : ag_in 1 call B t141 62 [some (.inr l0), some (.inl l1), some (.inl l2), some (.inl l3), some (.inl l4), some (.inl l5), some (.inl l6), some (.inl l7), some (.inl l8), none] [] h = f141_62 call (fun (l0 : Option Nat) (l1 : Int32) (l2 : Int32) (l3 : Int32) (h : ag_H) => B 12 [some (.inr l0), some (.inl l1), some (.inl l2), some (.inl l3), none, none, none, none, none, none] [] h) (fun (l0 : Option Nat) (l1 : Int32) (l2 : Int32) (l3 : Int32) (l4 : Int32) (l5 : Int32) (l6 : Int32) (l7 : Int32) (l8 : Int32) (h : ag_H) => B 62 [some (.inr l0), some (.inl l1), some (.inl l2), some (.inl l3), some (.inl l4), some (.inl l5), some (.inl l6), some (.inl l7), some (.inl l8), none] [] h) l0 l1 l2 l3 l4 l5 l6 l7 l8 h := by
  rfl
set_option maxRecDepth 100000 in
set_option maxHeartbeats 4000000 in
theorem i141 (call : Nat → List ag_V → ag_H → ag_R) (B : ag_K4) (l0 : Option Nat) (l1 : Int32) (l2 : Int32) (h : ag_H) : ag_in 1 call B t141 0 [some (.inr l0), some (.inl l1), some (.inl l2), none, none, none, none, none, none, none] [] h = f141 call (fun (l0 : Option Nat) (l1 : Int32) (l2 : Int32) (l3 : Int32) (h : ag_H) => B 12 [some (.inr l0), some (.inl l1), some (.inl l2), some (.inl l3), none, none, none, none, none, none] [] h) (fun (l0 : Option Nat) (l1 : Int32) (l2 : Int32) (l3 : Int32) (l4 : Int32) (l5 : Int32) (l6 : Int32) (l7 : Int32) (l8 : Int32) (h : ag_H) => B 62 [some (.inr l0), some (.inl l1), some (.inl l2), some (.inl l3), some (.inl l4), some (.inl l5), some (.inl l6), some (.inl l7), some (.inl l8), none] [] h) l0 l1 l2 h := by
  rfl
set_option maxRecDepth 100000 in
set_option maxHeartbeats 4000000 in
theorem o141 (call : Nat → List ag_V → ag_H → ag_R) : ∀ n : Nat, (fun (l0 : Option Nat) (l1 : Int32) (l2 : Int32) (l3 : Int32) (h : ag_H) => (ag_out 1 call t141 n) 12 [some (.inr l0), some (.inl l1), some (.inl l2), some (.inl l3), none, none, none, none, none, none] [] h) = (g141 call n).1 ∧ (fun (l0 : Option Nat) (l1 : Int32) (l2 : Int32) (l3 : Int32) (l4 : Int32) (l5 : Int32) (l6 : Int32) (l7 : Int32) (l8 : Int32) (h : ag_H) => (ag_out 1 call t141 n) 62 [some (.inr l0), some (.inl l1), some (.inl l2), some (.inl l3), some (.inl l4), some (.inl l5), some (.inl l6), some (.inl l7), some (.inl l8), none] [] h) = (g141 call n).2 := by
  intro n
  induction n with
  | zero => exact ⟨rfl, rfl⟩
  | succ n ih =>
    obtain ⟨e0, e1⟩ := ih
    refine ⟨?_, ?_⟩
    · funext l0 l1 l2 l3 h
      show ag_in 1 call (ag_out 1 call t141 n) t141 12 [some (.inr l0), some (.inl l1), some (.inl l2), some (.inl l3), none, none, none, none, none, none] [] h = f141_12 call (g141 call n).1 (g141 call n).2 l0 l1 l2 l3 h
      rw [i141_12, e0, e1]
    · funext l0 l1 l2 l3 l4 l5 l6 l7 l8 h
      show ag_in 1 call (ag_out 1 call t141 n) t141 62 [some (.inr l0), some (.inl l1), some (.inl l2), some (.inl l3), some (.inl l4), some (.inl l5), some (.inl l6), some (.inl l7), some (.inl l8), none] [] h = f141_62 call (g141 call n).1 (g141 call n).2 l0 l1 l2 l3 l4 l5 l6 l7 l8 h
      rw [i141_62, e0, e1]
set_option maxRecDepth 100000 in
set_option maxHeartbeats 4000000 in
theorem r141 (d : Nat) (l0 : Option Nat) (l1 : Int32) (l2 : Int32) (h : ag_H) : ag_run gT (d + 1) 141 [.inr l0, .inl l1, .inl l2] h = f141 (ag_run gT d) (g141 (ag_run gT d) 3999).1 (g141 (ag_run gT d) 3999).2 l0 l1 l2 h := by
  show ag_out 1 (ag_run gT d) t141 4000 0 [some (.inr l0), some (.inl l1), some (.inl l2), none, none, none, none, none, none, none] [] h = _
  rw [ag_out_top, i141, (o141 (ag_run gT d) 3999).1, (o141 (ag_run gT d) 3999).2]
/-- NameSpacesModel.isDirectory()Z -/
def f142 (call : Nat → List ag_V → ag_H → ag_R)  (l0 : Option Nat) (h : ag_H) : ag_R :=
  ag_gR h l0 11 8 fun x1 =>
  ag_gI h l0 11 38 fun x2 =>
  ag_gI h l0 11 39 fun x3 =>
  ag_at h l0 11 fun a4 _ => ag_bI (call 121 [.inr (some a4), .inl x2, .inl x3] h) fun x6 h5 =>
  ag_xI h5 x1 102 x6 fun x7 =>
  ag_isB x7 (some (.inl (some (.inl x7)), h5))
set_option maxRecDepth 100000 in
set_option maxHeartbeats 4000000 in
theorem i142 (call : Nat → List ag_V → ag_H → ag_R) (B : ag_K4) (l0 : Option Nat) (h : ag_H) : ag_in 4 call B t142 0 [some (.inr l0)] [] h = f142 call  l0 h := by
  rfl
set_option maxRecDepth 100000 in
set_option maxHeartbeats 4000000 in
theorem r142 (d : Nat) (l0 : Option Nat) (h : ag_H) : ag_run gT (d + 1) 142 [.inr l0] h = f142 (ag_run gT d)  l0 h := by
  show ag_out 4 (ag_run gT d) t142 4000 0 [some (.inr l0)] [] h = _
  rw [ag_out_top, i142]
def f143_29 (call : Nat → List ag_V → ag_H → ag_R)   (h : ag_H) : ag_R :=
  some (.inl none, h)
/-- NameSpacesModel.own()V -/
def f143 (call : Nat → List ag_V → ag_H → ag_R)  (l0 : Option Nat) (h : ag_H) : ag_R :=
  ag_gI h l0 11 38 fun x1 =>
  if x1 = (ag_lit 0) then
    ag_gI h l0 11 39 fun x2 =>
    if x2 = (ag_lit 0) then
      ag_at h l0 11 fun a3 _ => ag_bV (call 125 [.inr (some a3), .inl (ag_lit 0), .inl (ag_lit 0), .inl (ag_lit (-1))] h) fun h4 =>
      ag_gI h4 l0 11 40 fun x5 =>
      ag_pF h4 l0 11 39 (.inl x5) fun h6 =>
      f143_29 call h6
    else
      f143_29 call h
  else
    f143_29 call h
set_option maxRecDepth 100000 in
set_option maxHeartbeats 4000000 in
theorem i143 (call : Nat → List ag_V → ag_H → ag_R) (B : ag_K4) (l0 : Option Nat) (h : ag_H) : ag_in 0 call B t143 0 [some (.inr l0)] [] h = f143 call  l0 h := by
  rfl
set_option maxRecDepth 100000 in
set_option maxHeartbeats 4000000 in
theorem r143 (d : Nat) (l0 : Option Nat) (h : ag_H) : ag_run gT (d + 1) 143 [.inr l0] h = f143 (ag_run gT d)  l0 h := by
  show ag_out 0 (ag_run gT d) t143 4000 0 [some (.inr l0)] [] h = _
  rw [ag_out_top, i143]
def f144_23 (call : Nat → List ag_V → ag_H → ag_R)  (s0 : Int32) (h : ag_H) : ag_R :=
  ag_isB s0 (some (.inl (some (.inl s0)), h))
def f144_22 (call : Nat → List ag_V → ag_H → ag_R)   (h : ag_H) : ag_R :=
  f144_23 call (ag_lit 0) h
/-- NameSpacesModel.isProcess(I)Z -/
def f144 (call : Nat → List ag_V → ag_H → ag_R)  (l0 : Option Nat) (l1 : Int32) (h : ag_H) : ag_R :=
  if l1 < (ag_lit 0) then
    f144_22 call h
  else
    if (ag_lit 4) ≤ l1 then
      f144_22 call h
    else
      ag_gR h l0 11 29 fun x1 =>
      ag_xI h x1 102 l1 fun x2 =>
      if x2 = (ag_lit 0) then
        f144_22 call h
      else
        f144_23 call (ag_lit 1) h
set_option maxRecDepth 100000 in
set_option maxHeartbeats 4000000 in
theorem i144 (call : Nat → List ag_V → ag_H → ag_R) (B : ag_K4) (l0 : Option Nat) (l1 : Int32) (h : ag_H) : ag_in 4 call B t144 0 [some (.inr l0), some (.inl l1)] [] h = f144 call  l0 l1 h := by
  rfl
set_option maxRecDepth 100000 in
set_option maxHeartbeats 4000000 in
theorem r144 (d : Nat) (l0 : Option Nat) (l1 : Int32) (h : ag_H) : ag_run gT (d + 1) 144 [.inr l0, .inl l1] h = f144 (ag_run gT d)  l0 l1 h := by
  show ag_out 4 (ag_run gT d) t144 4000 0 [some (.inr l0), some (.inl l1)] [] h = _
  rw [ag_out_top, i144]
def f145_35 (call : Nat → List ag_V → ag_H → ag_R)  (s0 : Int32) (h : ag_H) : ag_R :=
  ag_isB s0 (some (.inl (some (.inl s0)), h))
def f145_34 (call : Nat → List ag_V → ag_H → ag_R)   (h : ag_H) : ag_R :=
  f145_35 call (ag_lit 0) h
/-- NameSpacesModel.isOpen(II)Z -/
def f145 (call : Nat → List ag_V → ag_H → ag_R)  (l0 : Option Nat) (l1 : Int32) (l2 : Int32) (h : ag_H) : ag_R :=
  ag_at h l0 11 fun a1 _ => ag_bI (call 144 [.inr (some a1), .inl l1] h) fun x3 h2 =>
  if x3 = (ag_lit 0) then
    f145_34 call h2
  else
    if l2 < (ag_lit 0) then
      f145_34 call h2
    else
      if (ag_lit 5) ≤ l2 then
        f145_34 call h2
      else
        ag_gR h2 l0 11 31 fun x4 =>
        ag_xI h2 x4 100 (((ag_lit 5) * l1) + l2) fun x5 =>
        if x5 ≤ (ag_lit 0) then
          f145_34 call h2
        else
          f145_35 call (ag_lit 1) h2
set_option maxRecDepth 100000 in
set_option maxHeartbeats 4000000 in
theorem i145 (call : Nat → List ag_V → ag_H → ag_R) (B : ag_K4) (l0 : Option Nat) (l1 : Int32) (l2 : Int32) (h : ag_H) : ag_in 4 call B t145 0 [some (.inr l0), some (.inl l1), some (.inl l2)] [] h = f145 call  l0 l1 l2 h := by
  rfl
set_option maxRecDepth 100000 in
set_option maxHeartbeats 4000000 in
theorem r145 (d : Nat) (l0 : Option Nat) (l1 : Int32) (l2 : Int32) (h : ag_H) : ag_run gT (d + 1) 145 [.inr l0, .inl l1, .inl l2] h = f145 (ag_run gT d)  l0 l1 l2 h := by
  show ag_out 4 (ag_run gT d) t145 4000 0 [some (.inr l0), some (.inl l1), some (.inl l2)] [] h = _
  rw [ag_out_top, i145]
def f175_10 (call : Nat → List ag_V → ag_H → ag_R)  (s0 : Int32) (h : ag_H) : ag_R :=
  some (.inl (some (.inl s0)), h)
/-- java/lang/Math.max(II)I -/
def f175 (call : Nat → List ag_V → ag_H → ag_R)  (l0 : Int32) (l1 : Int32) (h : ag_H) : ag_R :=
  if l0 < l1 then
    f175_10 call l1 h
  else
    f175_10 call l0 h
set_option maxRecDepth 100000 in
set_option maxHeartbeats 4000000 in
theorem i175 (call : Nat → List ag_V → ag_H → ag_R) (B : ag_K4) (l0 : Int32) (l1 : Int32) (h : ag_H) : ag_in 1 call B t175 0 [some (.inl l0), some (.inl l1)] [] h = f175 call  l0 l1 h := by
  rfl
set_option maxRecDepth 100000 in
set_option maxHeartbeats 4000000 in
theorem r175 (d : Nat) (l0 : Int32) (l1 : Int32) (h : ag_H) : ag_run gT (d + 1) 175 [.inl l0, .inl l1] h = f175 (ag_run gT d)  l0 l1 h := by
  show ag_out 1 (ag_run gT d) t175 4000 0 [some (.inl l0), some (.inl l1)] [] h = _
  rw [ag_out_top, i175]
def f176_10 (call : Nat → List ag_V → ag_H → ag_R)  (s0 : Int32) (h : ag_H) : ag_R :=
  some (.inl (some (.inl s0)), h)
/-- java/lang/Math.min(II)I -/
def f176 (call : Nat → List ag_V → ag_H → ag_R)  (l0 : Int32) (l1 : Int32) (h : ag_H) : ag_R :=
  if l1 < l0 then
    f176_10 call l1 h
  else
    f176_10 call l0 h
set_option maxRecDepth 100000 in
set_option maxHeartbeats 4000000 in
theorem i176 (call : Nat → List ag_V → ag_H → ag_R) (B : ag_K4) (l0 : Int32) (l1 : Int32) (h : ag_H) : ag_in 1 call B t176 0 [some (.inl l0), some (.inl l1)] [] h = f176 call  l0 l1 h := by
  rfl
set_option maxRecDepth 100000 in
set_option maxHeartbeats 4000000 in
theorem r176 (d : Nat) (l0 : Int32) (l1 : Int32) (h : ag_H) : ag_run gT (d + 1) 176 [.inl l0, .inl l1] h = f176 (ag_run gT d)  l0 l1 h := by
  show ag_out 1 (ag_run gT d) t176 4000 0 [some (.inl l0), some (.inl l1)] [] h = _
  rw [ag_out_top, i176]
end
section
def f146_29 (call : Nat → List ag_V → ag_H → ag_R) (b4 : Option Nat → Int32 → Int32 → Int32 → ag_H → ag_R) (l0 : Option Nat) (l1 : Int32) (l3 : Int32) (s0 : Int32) (h : ag_H) : ag_R :=
  b4 l0 l1 s0 (l3 + ag_lit 1) h
def f146_4 (call : Nat → List ag_V → ag_H → ag_R) (b4 : Option Nat → Int32 → Int32 → Int32 → ag_H → ag_R) (l0 : Option Nat) (l1 : Int32) (l2 : Int32) (l3 : Int32) (h : ag_H) : ag_R :=
  if (ag_lit 5) ≤ l3 then
    some (.inl (some (.inl l2)), h)
  else
    ag_gR h l0 11 31 fun x1 =>
    ag_xI h x1 100 (((ag_lit 5) * l1) + l3) fun x2 =>
    if x2 ≤ (ag_lit 0) then
      f146_29 call b4 l0 l1 l3 l2 h
    else
      f146_29 call b4 l0 l1 l3 (l2 + (ag_lit 1)) h
/-- NameSpacesModel.opened(I)I -/
def f146 (call : Nat → List ag_V → ag_H → ag_R) (b4 : Option Nat → Int32 → Int32 → Int32 → ag_H → ag_R) (l0 : Option Nat) (l1 : Int32) (h : ag_H) : ag_R :=
  f146_4 call b4 l0 l1 (ag_lit 0) (ag_lit 0) h
def g146 (call : Nat → List ag_V → ag_H → ag_R) : Nat → Option Nat → Int32 → Int32 → Int32 → ag_H → ag_R
  | 0 => fun _ _ _ _ _ => none
  | n + 1 => f146_4 call (g146 call n)
set_option maxRecDepth 100000 in
set_option maxHeartbeats 4000000 in
theorem i146_4 (call : Nat → List ag_V → ag_H → ag_R) (B : ag_K4) (l0 : Option Nat) (l1 : Int32) (l2 : Int32) (l3 : Int32) (h : ag_H) : ag_in 1 call B t146 4 [some (.inr l0), some (.inl l1), some (.inl l2), some (.inl l3)] [] h = f146_4 call (fun (l0 : Option Nat) (l1 : Int32) (l2 : Int32) (l3 : Int32) (h : ag_H) => B 4 [some (.inr l0), some (.inl l1), some (.inl l2), some (.inl l3)] [] h) l0 l1 l2 l3 h := by
  rfl
set_option maxRecDepth 100000 in
set_option maxHeartbeats 4000000 in
theorem i146 (call : Nat → List ag_V → ag_H → ag_R) (B : ag_K4) (l0 : Option Nat) (l1 : Int32) (h : ag_H) : ag_in 1 call B t146 0 [some (.inr l0), some (.inl l1), none, none] [] h = f146 call (fun (l0 : Option Nat) (l1 : Int32) (l2 : Int32) (l3 : Int32) (h : ag_H) => B 4 [some (.inr l0), some (.inl l1), some (.inl l2), some (.inl l3)] [] h) l0 l1 h := by
  rfl
set_option maxRecDepth 100000 in
set_option maxHeartbeats 4000000 in
theorem o146 (call : Nat → List ag_V → ag_H → ag_R) : ∀ n : Nat, (fun (l0 : Option Nat) (l1 : Int32) (l2 : Int32) (l3 : Int32) (h : ag_H) => (ag_out 1 call t146 n) 4 [some (.inr l0), some (.inl l1), some (.inl l2), some (.inl l3)] [] h) = g146 call n := by
  intro n
  induction n with
  | zero => rfl
  | succ n ih =>
    funext l0 l1 l2 l3 h
    show ag_in 1 call (ag_out 1 call t146 n) t146 4 [some (.inr l0), some (.inl l1), some (.inl l2), some (.inl l3)] [] h = f146_4 call (g146 call n) l0 l1 l2 l3 h
    rw [i146_4, ih]
set_option maxRecDepth 100000 in
set_option maxHeartbeats 4000000 in
theorem r146 (d : Nat) (l0 : Option Nat) (l1 : Int32) (h : ag_H) : ag_run gT (d + 1) 146 [.inr l0, .inl l1] h = f146 (ag_run gT d) (g146 (ag_run gT d) 3999) l0 l1 h := by
  show ag_out 1 (ag_run gT d) t146 4000 0 [some (.inr l0), some (.inl l1), none, none] [] h = _
  rw [ag_out_top, i146, o146]
def f147_26 (call : Nat → List ag_V → ag_H → ag_R) (b2 : Option Nat → Int32 → Int32 → ag_H → ag_R) (l2 : Int32) (h : ag_H) : ag_R :=
  some (.inl (some (.inl l2)), h)
def f147_2 (call : Nat → List ag_V → ag_H → ag_R) (b2 : Option Nat → Int32 → Int32 → ag_H → ag_R) (l0 : Option Nat) (l1 : Int32) (l2 : Int32) (h : ag_H) : ag_R :=
  if (ag_lit 5) ≤ l2 then
    f147_26 call b2 l2 h
  else
    ag_gR h l0 11 31 fun x1 =>
    ag_xI h x1 100 (((ag_lit 5) * l1) + l2) fun x2 =>
    if x2 ≤ (ag_lit 0) then
      f147_26 call b2 l2 h
    else
      b2 l0 l1 (l2 + ag_lit 1) h
/-- NameSpacesModel.freeFile(I)I -/
def f147 (call : Nat → List ag_V → ag_H → ag_R) (b2 : Option Nat → Int32 → Int32 → ag_H → ag_R) (l0 : Option Nat) (l1 : Int32) (h : ag_H) : ag_R :=
  f147_2 call b2 l0 l1 (ag_lit 0) h
def g147 (call : Nat → List ag_V → ag_H → ag_R) : Nat → Option Nat → Int32 → Int32 → ag_H → ag_R
  | 0 => fun _ _ _ _ => none
  | n + 1 => f147_2 call (g147 call n)
set_option maxRecDepth 100000 in
set_option maxHeartbeats 4000000 in
theorem i147_2 (call : Nat → List ag_V → ag_H → ag_R) (B : ag_K4) (l0 : Option Nat) (l1 : Int32) (l2 : Int32) (h : ag_H) : ag_in 1 call B t147 2 [some (.inr l0), some (.inl l1), some (.inl l2)] [] h = f147_2 call (fun (l0 : Option Nat) (l1 : Int32) (l2 : Int32) (h : ag_H) => B 2 [some (.inr l0), some (.inl l1), some (.inl l2)] [] h) l0 l1 l2 h := by
  rfl
set_option maxRecDepth 100000 in
set_option maxHeartbeats 4000000 in
theorem i147 (call : Nat → List ag_V → ag_H → ag_R) (B : ag_K4) (l0 : Option Nat) (l1 : Int32) (h : ag_H) : ag_in 1 call B t147 0 [some (.inr l0), some (.inl l1), none] [] h = f147 call (fun (l0 : Option Nat) (l1 : Int32) (l2 : Int32) (h : ag_H) => B 2 [some (.inr l0), some (.inl l1), some (.inl l2)] [] h) l0 l1 h := by
  rfl
set_option maxRecDepth 100000 in
set_option maxHeartbeats 4000000 in
theorem o147 (call : Nat → List ag_V → ag_H → ag_R) : ∀ n : Nat, (fun (l0 : Option Nat) (l1 : Int32) (l2 : Int32) (h : ag_H) => (ag_out 1 call t147 n) 2 [some (.inr l0), some (.inl l1), some (.inl l2)] [] h) = g147 call n := by
  intro n
  induction n with
  | zero => rfl
  | succ n ih =>
    funext l0 l1 l2 h
    show ag_in 1 call (ag_out 1 call t147 n) t147 2 [some (.inr l0), some (.inl l1), some (.inl l2)] [] h = f147_2 call (g147 call n) l0 l1 l2 h
    rw [i147_2, ih]
set_option maxRecDepth 100000 in
set_option maxHeartbeats 4000000 in
theorem r147 (d : Nat) (l0 : Option Nat) (l1 : Int32) (h : ag_H) : ag_run gT (d + 1) 147 [.inr l0, .inl l1] h = f147 (ag_run gT d) (g147 (ag_run gT d) 3999) l0 l1 h := by
  show ag_out 1 (ag_run gT d) t147 4000 0 [some (.inr l0), some (.inl l1), none] [] h = _
  rw [ag_out_top, i147, o147]
/-- NameSpacesModel.addOpen(III)V -/
def f148 (call : Nat → List ag_V → ag_H → ag_R)  (l0 : Option Nat) (l1 : Int32) (l2 : Int32) (l3 : Int32) (h : ag_H) : ag_R :=
  ag_gR h l0 11 33 fun x1 =>
  ag_gR h l0 11 31 fun x2 =>
  ag_xI h x2 100 l1 fun x3 =>
  ag_xP h x1 100 (((ag_lit 3) * l1) + x3) (.inl l2) fun h4 =>
  ag_gR h4 l0 11 34 fun x5 =>
  ag_gR h4 l0 11 31 fun x6 =>
  ag_xI h4 x6 100 l1 fun x7 =>
  ag_xP h4 x5 100 (((ag_lit 3) * l1) + x7) (.inl l3) fun h8 =>
  ag_gR h8 l0 11 31 fun x9 =>
  ag_xI h8 x9 100 l1 fun x10 =>
  ag_xP h8 x9 100 l1 (.inl (x10 + (ag_lit 1))) fun h11 =>
  some (.inl none, h11)
set_option maxRecDepth 100000 in
set_option maxHeartbeats 4000000 in
theorem i148 (call : Nat → List ag_V → ag_H → ag_R) (B : ag_K4) (l0 : Option Nat) (l1 : Int32) (l2 : Int32) (l3 : Int32) (h : ag_H) : ag_in 0 call B t148 0 [some (.inr l0), some (.inl l1), some (.inl l2), some (.inl l3)] [] h = f148 call  l0 l1 l2 l3 h := by
  rfl
set_option maxRecDepth 100000 in
set_option maxHeartbeats 4000000 in
theorem r148 (d : Nat) (l0 : Option Nat) (l1 : Int32) (l2 : Int32) (l3 : Int32) (h : ag_H) : ag_run gT (d + 1) 148 [.inr l0, .inl l1, .inl l2, .inl l3] h = f148 (ag_run gT d)  l0 l1 l2 l3 h := by
  show ag_out 0 (ag_run gT d) t148 4000 0 [some (.inr l0), some (.inl l1), some (.inl l2), some (.inl l3)] [] h = _
  rw [ag_out_top, i148]
def f149_38 (call : Nat → List ag_V → ag_H → ag_R)  (l0 : Option Nat) (s0 : Option Nat) (s1 : Int32) (h : ag_H) : ag_R :=
  ag_pF h s0 11 41 (.inl s1) fun h1 =>
  ag_gI h1 l0 11 41 fun x2 =>
  some (.inl (some (.inl x2)), h1)
/-- NameSpacesModel.code(IIII)I -/
def f149 (call : Nat → List ag_V → ag_H → ag_R)  (l0 : Option Nat) (l1 : Int32) (l2 : Int32) (l3 : Int32) (l4 : Int32) (h : ag_H) : ag_R :=
  if l1 = (ag_lit 0) then
    f149_38 call l0 l0 (ag_lit 0) h
  else
    if l1 = (ag_lit 1) then
      f149_38 call l0 l0 l2 h
    else
      if l1 = (ag_lit 2) then
        f149_38 call l0 l0 l3 h
      else
        if l1 = (ag_lit 3) then
          f149_38 call l0 l0 l4 h
        else
          f149_38 call l0 l0 (ag_lit 1) h
set_option maxRecDepth 100000 in
set_option maxHeartbeats 4000000 in
theorem i149 (call : Nat → List ag_V → ag_H → ag_R) (B : ag_K4) (l0 : Option Nat) (l1 : Int32) (l2 : Int32) (l3 : Int32) (l4 : Int32) (h : ag_H) : ag_in 1 call B t149 0 [some (.inr l0), some (.inl l1), some (.inl l2), some (.inl l3), some (.inl l4)] [] h = f149 call  l0 l1 l2 l3 l4 h := by
  rfl
set_option maxRecDepth 100000 in
set_option maxHeartbeats 4000000 in
theorem r149 (d : Nat) (l0 : Option Nat) (l1 : Int32) (l2 : Int32) (l3 : Int32) (l4 : Int32) (h : ag_H) : ag_run gT (d + 1) 149 [.inr l0, .inl l1, .inl l2, .inl l3, .inl l4] h = f149 (ag_run gT d)  l0 l1 l2 l3 l4 h := by
  show ag_out 1 (ag_run gT d) t149 4000 0 [some (.inr l0), some (.inl l1), some (.inl l2), some (.inl l3), some (.inl l4)] [] h = _
  rw [ag_out_top, i149]
def f150_322 (call : Nat → List ag_V → ag_H → ag_R) (b71 : Option Nat → Int32 → Int32 → Int32 → Int32 → Int32 → Int32 → ag_H → ag_R) (b195 : Option Nat → Int32 → Int32 → Int32 → Int32 → Int32 → ag_H → ag_R) (s0 : Int32) (h : ag_H) : ag_R :=
  some (.inl (some (.inl s0)), h)
def f150_270 (call : Nat → List ag_V → ag_H → ag_R) (b71 : Option Nat → Int32 → Int32 → Int32 → Int32 → Int32 → Int32 → ag_H → ag_R) (b195 : Option Nat → Int32 → Int32 → Int32 → Int32 → Int32 → ag_H → ag_R) (l0 : Option Nat) (l2 : Int32) (l3 : Int32) (l8 : Int32) (l9 : Int32) (l10 : Int32) (h : ag_H) : ag_R :=
  b195 l0 l2 l3 l8 l9 (l10 + ag_lit 1) h
def f150_195 (call : Nat → List ag_V → ag_H → ag_R) (b71 : Option Nat → Int32 → Int32 → Int32 → Int32 → Int32 → Int32 → ag_H → ag_R) (b195 : Option Nat → Int32 → Int32 → Int32 → Int32 → Int32 → ag_H → ag_R) (l0 : Option Nat) (l2 : Int32) (l3 : Int32) (l8 : Int32) (l9 : Int32) (l10 : Int32) (h : ag_H) : ag_R :=
  if l8 ≤ l10 then
    ag_gR h l0 11 35 fun x1 =>
    ag_xP h x1 100 l2 (.inl l3) fun h2 =>
    ag_gR h2 l0 11 36 fun x3 =>
    ag_xP h2 x3 100 l2 (.inl (ag_lit 0)) fun h4 =>
    ag_gR h4 l0 11 37 fun x5 =>
    ag_xP h4 x5 100 l2 (.inl (ag_lit 0)) fun h6 =>
    ag_gR h6 l0 11 31 fun x7 =>
    ag_xI h6 x7 100 l2 fun x8 =>
    if x8 ≤ (ag_lit 0) then
      if l9 = (ag_lit8 112) then
        f150_322 call b71 b195 (ag_lit 2) h6
      else
        f150_322 call b71 b195 (ag_lit 1) h6
    else
      f150_322 call b71 b195 (ag_lit 0) h6
  else
    ag_gR h l0 11 33 fun x9 =>
    ag_xI h x9 100 (((ag_lit 3) * l2) + l10) fun x10 =>
    ag_gR h l0 11 34 fun x11 =>
    ag_xI h x11 100 (((ag_lit 3) * l2) + l10) fun x12 =>
    ag_at h l0 11 fun a13 _ => ag_bV (call 126 [.inr (some a13), .inl x10, .inl x12, .inl l3] h) fun h14 =>
    ag_gI h14 l0 11 20 fun x15 =>
    if x15 = (ag_lit 0) then
      ag_at h14 l0 11 fun a19 _ => ag_bV (call 148 [.inr (some a19), .inl l2, .inl x10, .inl x12] h14) fun h20 =>
      f150_270 call b71 b195 l0 l2 l3 l8 l9 l10 h20
    else
      ag_gI h14 l0 11 20 fun x16 =>
      ag_at h14 l0 11 fun a17 _ => ag_bV (call 132 [.inr (some a17), .inl x10, .inl x12] h14) fun h18 =>
      f150_270 call b71 b195 l0 l2 l3 l8 x16 l10 h18
def f150_181 (call : Nat → List ag_V → ag_H → ag_R) (b71 : Option Nat → Int32 → Int32 → Int32 → Int32 → Int32 → Int32 → ag_H → ag_R) (b195 : Option Nat → Int32 → Int32 → Int32 → Int32 → Int32 → ag_H → ag_R) (l0 : Option Nat) (l2 : Int32) (l3 : Int32) (l8 : Int32) (s0 : Option Nat) (s1 : Int32) (s2 : Int32) (h : ag_H) : ag_R :=
  ag_isB s2 <| ag_xP h s0 102 s1 (.inl s2) fun h1 =>
  ag_gR h1 l0 11 31 fun x2 =>
  ag_xP h1 x2 100 l2 (.inl (ag_lit 0)) fun h3 =>
  f150_195 call b71 b195 l0 l2 l3 l8 (ag_lit 0) (ag_lit 0) h3
def f150_157 (call : Nat → List ag_V → ag_H → ag_R) (b71 : Option Nat → Int32 → Int32 → Int32 → Int32 → Int32 → Int32 → ag_H → ag_R) (b195 : Option Nat → Int32 → Int32 → Int32 → Int32 → Int32 → ag_H → ag_R) (l0 : Option Nat) (l2 : Int32) (l3 : Int32) (h : ag_H) : ag_R :=
  ag_gR h l0 11 31 fun x1 =>
  ag_xI h x1 100 l2 fun x2 =>
  ag_gR h l0 11 32 fun x3 =>
  if x2 = (ag_lit 1) then
    f150_181 call b71 b195 l0 l2 l3 x2 x3 l2 (ag_lit 1) h
  else
    f150_181 call b71 b195 l0 l2 l3 x2 x3 l2 (ag_lit 0) h
def f150_144 (call : Nat → List ag_V → ag_H → ag_R) (b71 : Option Nat → Int32 → Int32 → Int32 → Int32 → Int32 → Int32 → ag_H → ag_R) (b195 : Option Nat → Int32 → Int32 → Int32 → Int32 → Int32 → ag_H → ag_R) (l0 : Option Nat) (l2 : Int32) (l3 : Int32) (l5 : Int32) (l6 : Int32) (l7 : Int32) (h : ag_H) : ag_R :=
  if l5 < (ag_lit 0) then
    f150_157 call b71 b195 l0 l2 l3 h
  else
    ag_at h l0 11 fun a1 _ => ag_bV (call 132 [.inr (some a1), .inl l7, .inl l6] h) fun h2 =>
    f150_157 call b71 b195 l0 l2 l3 h2
def f150_71 (call : Nat → List ag_V → ag_H → ag_R) (b71 : Option Nat → Int32 → Int32 → Int32 → Int32 → Int32 → Int32 → ag_H → ag_R) (b195 : Option Nat → Int32 → Int32 → Int32 → Int32 → Int32 → ag_H → ag_R) (l0 : Option Nat) (l2 : Int32) (l3 : Int32) (l5 : Int32) (l6 : Int32) (l7 : Int32) (l8 : Int32) (h : ag_H) : ag_R :=
  if l5 < (ag_lit 0) then
    f150_144 call b71 b195 l0 l2 l3 l5 l6 l7 h
  else
    ag_gR h l0 11 25 fun x1 =>
    ag_xI h x1 100 l5 fun x2 =>
    if x2 ≤ l8 then
      f150_144 call b71 b195 l0 l2 l3 l5 l6 l7 h
    else
      ag_gR h l0 11 26 fun x3 =>
      ag_xI h x3 100 (((ag_lit 3) * l5) + l8) fun x4 =>
      ag_gR h l0 11 27 fun x5 =>
      ag_xI h x5 100 (((ag_lit 3) * l5) + l8) fun x6 =>
      ag_at h l0 11 fun a7 _ => ag_bV (call 125 [.inr (some a7), .inl x4, .inl x6, .inl (ag_lit (-1))] h) fun h8 =>
      ag_gR h8 l0 11 26 fun x9 =>
      ag_xI h8 x9 100 (((ag_lit 3) * l5) + l8) fun x10 =>
      ag_gI h8 l0 11 40 fun x11 =>
      ag_at h8 l0 11 fun a12 _ => ag_bV (call 148 [.inr (some a12), .inl l2, .inl x10, .inl x11] h8) fun h13 =>
      b71 l0 l2 l3 l5 l6 l7 (l8 + ag_lit 1) h13
def f150_68 (call : Nat → List ag_V → ag_H → ag_R) (b71 : Option Nat → Int32 → Int32 → Int32 → Int32 → Int32 → Int32 → ag_H → ag_R) (b195 : Option Nat → Int32 → Int32 → Int32 → Int32 → Int32 → ag_H → ag_R) (l0 : Option Nat) (l2 : Int32) (l3 : Int32) (l5 : Int32) (l6 : Int32) (l7 : Int32) (h : ag_H) : ag_R :=
  f150_71 call b71 b195 l0 l2 l3 l5 l6 l7 (ag_lit 0) h
/-- NameSpacesModel.opening(III)I -/
def f150 (call : Nat → List ag_V → ag_H → ag_R) (b71 : Option Nat → Int32 → Int32 → Int32 → Int32 → Int32 → Int32 → ag_H → ag_R) (b195 : Option Nat → Int32 → Int32 → Int32 → Int32 → Int32 → ag_H → ag_R) (l0 : Option Nat) (l1 : Int32) (l2 : Int32) (l3 : Int32) (h : ag_H) : ag_R :=
  ag_gI h l0 11 4 fun x1 =>
  ag_at h l0 11 fun a2 _ => ag_bI (call 141 [.inr (some a2), .inl l1, .inl x1] h) fun x4 h3 =>
  if x4 = (ag_lit 0) then
    ag_gI h3 l0 11 38 fun x5 =>
    ag_gI h3 l0 11 39 fun x6 =>
    ag_at h3 l0 11 fun a7 _ => ag_bI (call 140 [.inr (some a7), .inl l1, .inl x5, .inl x6] h3) fun x9 h8 =>
    ag_gI h8 l0 11 39 fun x10 =>
    ag_gI h8 l0 11 38 fun x11 =>
    if (ag_lit 0) ≤ x9 then
      f150_68 call b71 b195 l0 l2 l3 x9 x10 x11 h8
    else
      ag_at h8 l0 11 fun a12 _ => ag_bV (call 143 [.inr (some a12)] h8) fun h13 =>
      ag_gI h13 l0 11 38 fun x14 =>
      ag_gI h13 l0 11 39 fun x15 =>
      ag_at h13 l0 11 fun a16 _ => ag_bV (call 148 [.inr (some a16), .inl l2, .inl x14, .inl x15] h13) fun h17 =>
      f150_68 call b71 b195 l0 l2 l3 x9 x10 x11 h17
  else
    some (.inl (some (.inl x4)), h3)
def g150 (call : Nat → List ag_V → ag_H → ag_R) : Nat → (Option Nat → Int32 → Int32 → Int32 → Int32 → Int32 → Int32 → ag_H → ag_R) × (Option Nat → Int32 → Int32 → Int32 → Int32 → Int32 → ag_H → ag_R)
  | 0 => (fun _ _ _ _ _ _ _ _ => none, fun _ _ _ _ _ _ _ => none)
  | n + 1 => (f150_71 call (g150 call n).1 (g150 call n).2, f150_195 call (g150 call n).1 (g150 call n).2)
set_option maxRecDepth 100000 in
set_option maxHeartbeats 4000000 in
theorem i150_71 (call : Nat → List ag_V → ag_H → ag_R) (B : ag_K4) (l0 : Option Nat) (l2 : Int32) (l3 : Int32) (l5 : Int32) (l6 : Int32) (l7 : Int32) (l8 : Int32) (h : ag_H) : ag_in 1 call B t150 71 [some (.inr l0), none, some (.inl l2), some (.inl l3), none, some (.inl l5), some (.inl l6), some (.inl l7), some (.inl l8), none, none, none, none] [] h = f150_71 call (fun (l0 : Option Nat) (l2 : Int32) (l3 : Int32) (l5 : Int32) (l6 : Int32) (l7 : Int32) (l8 : Int32) (h : ag_H) => B 71 [some (.inr l0), none, some (.inl l2), some (.inl l3), none, some (.inl l5), some (.inl l6), some (.inl l7), some (.inl l8), none, none, none, none] [] h) (fun (l0 : Option Nat) (l2 : Int32) (l3 : Int32) (l8 : Int32) (l9 : Int32) (l10 : Int32) (h : ag_H) => B 195 [some (.inr l0), none, some (.inl l2), some (.inl l3), none, none, none, none, some (.inl l8), some (.inl l9), some (.inl l10), none, none] [] h) l0 l2 l3 l5 l6 l7 l8 h := by
  rfl
set_option maxRecDepth 100000 in
set_option maxHeartbeats 4000000 in
theorem i150_195 (call : Nat → List ag_V → ag_H → ag_R) (B : ag_K4) (l0 : Option Nat) (l2 : Int32) (l3 : Int32) (l8 : Int32) (l9 : Int32) (l10 : Int32) (h : ag_H) : ag_in 1 call B t150 195 [some (.inr l0), none, some (.inl l2), some (.inl l3), none, none, none, none, some (.inl l8), some (.inl l9), some (.inl l10), none, none] [] h = f150_195 call (fun (l0 : Option Nat) (l2 : Int32) (l3 : Int32) (l5 : Int32) (l6 : Int32) (l7 : Int32) (l8 : Int32) (h : ag_H) => B 71 [some (.inr l0), none, some (.inl l2), some (.inl l3), none, some (.inl l5), some (.inl l6), some (.inl l7), some (.inl l8), none, none, none, none] [] h) (fun (l0 : Option Nat) (l2 : Int32) (l3 : Int32) (l8 : Int32) (l9 : Int32) (l10 : Int32) (h : ag_H) => B 195 [some (.inr l0), none, some (.inl l2), some (.inl l3), none, none, none, none, some (.inl l8), some (.inl l9), some (.inl l10), none, none] [] h) l0 l2 l3 l8 l9 l10 h := by
  rfl
set_option maxRecDepth 100000 in
set_option maxHeartbeats 4000000 in
theorem i150 (call : Nat → List ag_V → ag_H → ag_R) (B : ag_K4) (l0 : Option Nat) (l1 : Int32) (l2 : Int32) (l3 : Int32) (h : ag_H) : ag_in 1 call B t150 0 [some (.inr l0), some (.inl l1), some (.inl l2), some (.inl l3), none, none, none, none, none, none, none, none, none] [] h = f150 call (fun (l0 : Option Nat) (l2 : Int32) (l3 : Int32) (l5 : Int32) (l6 : Int32) (l7 : Int32) (l8 : Int32) (h : ag_H) => B 71 [some (.inr l0), none, some (.inl l2), some (.inl l3), none, some (.inl l5), some (.inl l6), some (.inl l7), some (.inl l8), none, none, none, none] [] h) (fun (l0 : Option Nat) (l2 : Int32) (l3 : Int32) (l8 : Int32) (l9 : Int32) (l10 : Int32) (h : ag_H) => B 195 [some (.inr l0), none, some (.inl l2), some (.inl l3), none, none, none, none, some (.inl l8), some (.inl l9), some (.inl l10), none, none] [] h) l0 l1 l2 l3 h := by
  rfl
set_option maxRecDepth 100000 in
set_option maxHeartbeats 4000000 in
theorem o150 (call : Nat → List ag_V → ag_H → ag_R) : ∀ n : Nat, (fun (l0 : Option Nat) (l2 : Int32) (l3 : Int32) (l5 : Int32) (l6 : Int32) (l7 : Int32) (l8 : Int32) (h : ag_H) => (ag_out 1 call t150 n) 71 [some (.inr l0), none, some (.inl l2), some (.inl l3), none, some (.inl l5), some (.inl l6), some (.inl l7), some (.inl l8), none, none, none, none] [] h) = (g150 call n).1 ∧ (fun (l0 : Option Nat) (l2 : Int32) (l3 : Int32) (l8 : Int32) (l9 : Int32) (l10 : Int32) (h : ag_H) => (ag_out 1 call t150 n) 195 [some (.inr l0), none, some (.inl l2), some (.inl l3), none, none, none, none, some (.inl l8), some (.inl l9), some (.inl l10), none, none] [] h) = (g150 call n).2 := by
  intro n
  induction n with
  | zero => exact ⟨rfl, rfl⟩
  | succ n ih =>
    obtain ⟨e0, e1⟩ := ih
    refine ⟨?_, ?_⟩
    · funext l0 l2 l3 l5 l6 l7 l8 h
      show ag_in 1 call (ag_out 1 call t150 n) t150 71 [some (.inr l0), none, some (.inl l2), some (.inl l3), none, some (.inl l5), some (.inl l6), some (.inl l7), some (.inl l8), none, none, none, none] [] h = f150_71 call (g150 call n).1 (g150 call n).2 l0 l2 l3 l5 l6 l7 l8 h
      rw [i150_71, e0, e1]
    · funext l0 l2 l3 l8 l9 l10 h
      show ag_in 1 call (ag_out 1 call t150 n) t150 195 [some (.inr l0), none, some (.inl l2), some (.inl l3), none, none, none, none, some (.inl l8), some (.inl l9), some (.inl l10), none, none] [] h = f150_195 call (g150 call n).1 (g150 call n).2 l0 l2 l3 l8 l9 l10 h
      rw [i150_195, e0, e1]
set_option maxRecDepth 100000 in
set_option maxHeartbeats 4000000 in
theorem r150 (d : Nat) (l0 : Option Nat) (l1 : Int32) (l2 : Int32) (l3 : Int32) (h : ag_H) : ag_run gT (d + 1) 150 [.inr l0, .inl l1, .inl l2, .inl l3] h = f150 (ag_run gT d) (g150 (ag_run gT d) 3999).1 (g150 (ag_run gT d) 3999).2 l0 l1 l2 l3 h := by
  show ag_out 1 (ag_run gT d) t150 4000 0 [some (.inr l0), some (.inl l1), some (.inl l2), some (.inl l3), none, none, none, none, none, none, none, none, none] [] h = _
  rw [ag_out_top, i150, (o150 (ag_run gT d) 3999).1, (o150 (ag_run gT d) 3999).2]
def f151_99 (call : Nat → List ag_V → ag_H → ag_R)  (s0 : Int32) (h : ag_H) : ag_R :=
  some (.inl (some (.inl s0)), h)
def f151_79 (call : Nat → List ag_V → ag_H → ag_R)  (l0 : Option Nat) (l4 : Int32) (s0 : Int32) (h : ag_H) : ag_R :=
  ag_at h l0 11 fun a1 _ => ag_bI (call 149 [.inr (some a1), .inl s0, .inl (ag_lit 3), .inl (ag_lit 4), .inl (ag_lit 2)] h) fun x3 h2 =>
  if x3 = (ag_lit 0) then
    f151_99 call l4 h2
  else
    f151_99 call (ag_lit 0) h2
def f151_37 (call : Nat → List ag_V → ag_H → ag_R)  (l0 : Option Nat) (l1 : Int32) (l2 : Int32) (s0 : Int32) (h : ag_H) : ag_R :=
  ag_at h l0 11 fun a1 _ => ag_bV (call 139 [.inr (some a1)] h) fun h2 =>
  ag_at h2 l0 11 fun a3 _ => ag_bI (call 147 [.inr (some a3), .inl l1] h2) fun x5 h4 =>
  if s0 = (ag_lit 0) then
    f151_79 call l0 x5 (ag_lit 4) h4
  else
    if x5 = (ag_lit 5) then
      f151_79 call l0 x5 (ag_lit 3) h4
    else
      ag_at h4 l0 11 fun a6 _ => ag_bI (call 150 [.inr (some a6), .inl l1, .inl (((ag_lit 5) * l1) + x5), .inl l2] h4) fun x8 h7 =>
      f151_79 call l0 x5 x8 h7
def f151_36 (call : Nat → List ag_V → ag_H → ag_R)  (l0 : Option Nat) (l1 : Int32) (l2 : Int32) (h : ag_H) : ag_R :=
  f151_37 call l0 l1 l2 (ag_lit 0) h
/-- NameSpacesModel.open(II)I -/
def f151 (call : Nat → List ag_V → ag_H → ag_R)  (l0 : Option Nat) (l1 : Int32) (l2 : Int32) (h : ag_H) : ag_R :=
  ag_at h l0 11 fun a1 _ => ag_bI (call 144 [.inr (some a1), .inl l1] h) fun x3 h2 =>
  if x3 = (ag_lit 0) then
    ag_pF h2 l0 11 41 (.inl (ag_lit 1)) fun h9 =>
    some (.inl (some (.inl (ag_lit 0))), h9)
  else
    ag_at h2 l0 11 fun a4 _ => ag_bI (call 138 [.inr (some a4), .inl (ag_lit 0)] h2) fun x6 h5 =>
    if x6 = (ag_lit 0) then
      f151_36 call l0 l1 l2 h5
    else
      ag_bI (call 114 [.inl l2, .inl (ag_lit 0), .inl (ag_lit 2)] h5) fun x8 h7 =>
      if x8 = (ag_lit 0) then
        f151_37 call l0 l1 l2 (ag_lit 1) h7
      else
        f151_36 call l0 l1 l2 h7
set_option maxRecDepth 100000 in
set_option maxHeartbeats 4000000 in
theorem i151 (call : Nat → List ag_V → ag_H → ag_R) (B : ag_K4) (l0 : Option Nat) (l1 : Int32) (l2 : Int32) (h : ag_H) : ag_in 1 call B t151 0 [some (.inr l0), some (.inl l1), some (.inl l2), none, none, none] [] h = f151 call  l0 l1 l2 h := by
  rfl
set_option maxRecDepth 100000 in
set_option maxHeartbeats 4000000 in
theorem r151 (d : Nat) (l0 : Option Nat) (l1 : Int32) (l2 : Int32) (h : ag_H) : ag_run gT (d + 1) 151 [.inr l0, .inl l1, .inl l2] h = f151 (ag_run gT d)  l0 l1 l2 h := by
  show ag_out 1 (ag_run gT d) t151 4000 0 [some (.inr l0), some (.inl l1), some (.inl l2), none, none, none] [] h = _
  rw [ag_out_top, i151]
def f152_303 (call : Nat → List ag_V → ag_H → ag_R) (b51 : Option Nat → Int32 → Int32 → Int32 → Int32 → Int32 → Int32 → ag_H → ag_R) (l0 : Option Nat) (l2 : Int32) (s0 : Option Nat) (s1 : Int32) (s2 : Int32) (h : ag_H) : ag_R :=
  ag_xP h s0 100 s1 (.inl s2) fun h1 =>
  ag_gR h1 l0 11 36 fun x2 =>
  ag_xP h1 x2 100 l2 (.inl (ag_lit 0)) fun h3 =>
  ag_gR h3 l0 11 37 fun x4 =>
  ag_xP h3 x4 100 l2 (.inl (ag_lit 0)) fun h5 =>
  some (.inl (some (.inl (ag_lit 0))), h5)
def f152_270 (call : Nat → List ag_V → ag_H → ag_R) (b51 : Option Nat → Int32 → Int32 → Int32 → Int32 → Int32 → Int32 → ag_H → ag_R) (l0 : Option Nat) (l2 : Int32) (l3 : Int32) (l6 : Int32) (l7 : Int32) (s0 : Option Nat) (s1 : Int32) (s2 : Int32) (s3 : Int32) (h : ag_H) : ag_R :=
  ag_at h s0 11 fun a1 _ => ag_bV (call 126 [.inr (some a1), .inl s1, .inl s2, .inl s3] h) fun h2 =>
  ag_gR h2 l0 11 32 fun x3 =>
  ag_isB (ag_lit 1) <| ag_xP h2 x3 102 l2 (.inl (ag_lit 1)) fun h4 =>
  ag_at h4 l0 11 fun a5 _ => ag_bV (call 148 [.inr (some a5), .inl l2, .inl l6, .inl l7] h4) fun h6 =>
  ag_gR h6 l0 11 35 fun x7 =>
  if l3 = (ag_lit 0) then
    f152_303 call b51 l0 l2 x7 l2 (ag_lit 2) h6
  else
    f152_303 call b51 l0 l2 x7 l2 (ag_lit 0) h6
def f152_255 (call : Nat → List ag_V → ag_H → ag_R) (b51 : Option Nat → Int32 → Int32 → Int32 → Int32 → Int32 → Int32 → ag_H → ag_R) (s0 : Int32) (h : ag_H) : ag_R :=
  some (.inl (some (.inl s0)), h)
def f152_169 (call : Nat → List ag_V → ag_H → ag_R) (b51 : Option Nat → Int32 → Int32 → Int32 → Int32 → Int32 → Int32 → ag_H → ag_R) (l0 : Option Nat) (l2 : Int32) (l3 : Int32) (l6 : Int32) (s0 : Option Nat) (s1 : Int32) (s2 : Int32) (h : ag_H) : ag_R :=
  ag_at h s0 11 fun a1 _ => ag_bV (call 125 [.inr (some a1), .inl s1, .inl s2, .inl (ag_lit (-1))] h) fun h2 =>
  ag_gI h2 l0 11 40 fun x3 =>
  ag_gI h2 l0 11 38 fun x4 =>
  ag_gI h2 l0 11 39 fun x5 =>
  ag_at h2 l0 11 fun a6 _ => ag_bV (call 132 [.inr (some a6), .inl x4, .inl x5] h2) fun h7 =>
  ag_gR h7 l0 11 5 fun x8 =>
  ag_gI h7 l0 11 4 fun x9 =>
  ag_xI h7 x8 100 (x9 - (ag_lit 1)) fun x10 =>
  ag_at h7 l0 11 fun a11 _ => ag_bV (call 128 [.inr (some a11), .inl l6, .inl x3, .inl x10, .inl l3] h7) fun h12 =>
  ag_gI h12 l0 11 20 fun x13 =>
  if x13 = (ag_lit 0) then
    if l3 = (ag_lit 0) then
      f152_270 call b51 l0 l2 l3 l6 x3 l0 l6 x3 (ag_lit 2) h12
    else
      f152_270 call b51 l0 l2 l3 l6 x3 l0 l6 x3 (ag_lit 0) h12
  else
    ag_gI h12 l0 11 20 fun x14 =>
    ag_at h12 l0 11 fun a15 _ => ag_bV (call 132 [.inr (some a15), .inl l6, .inl x3] h12) fun h16 =>
    if x14 = (ag_lit8 102) then
      f152_255 call b51 (ag_lit 3) h16
    else
      if x14 = (ag_lit8 110) then
        f152_255 call b51 (ag_lit 1) h16
      else
        f152_255 call b51 (ag_lit 2) h16
def f152_142 (call : Nat → List ag_V → ag_H → ag_R) (b51 : Option Nat → Int32 → Int32 → Int32 → Int32 → Int32 → Int32 → ag_H → ag_R) (l0 : Option Nat) (l2 : Int32) (l3 : Int32) (l5 : Int32) (l7 : Int32) (l8 : Int32) (s0 : Int32) (h : ag_H) : ag_R :=
  if (ag_lit 0) ≤ l5 then
    ag_gR h l0 11 27 fun x1 =>
    ag_xI h x1 100 (((ag_lit 3) * l5) + l8) fun x2 =>
    f152_169 call b51 l0 l2 l3 s0 l0 s0 x2 h
  else
    f152_169 call b51 l0 l2 l3 s0 l0 s0 l7 h
def f152_120 (call : Nat → List ag_V → ag_H → ag_R) (b51 : Option Nat → Int32 → Int32 → Int32 → Int32 → Int32 → Int32 → ag_H → ag_R) (l0 : Option Nat) (l2 : Int32) (l3 : Int32) (l5 : Int32) (l6 : Int32) (l7 : Int32) (l8 : Int32) (h : ag_H) : ag_R :=
  if (ag_lit 0) ≤ l5 then
    ag_gR h l0 11 26 fun x1 =>
    ag_xI h x1 100 (((ag_lit 3) * l5) + l8) fun x2 =>
    f152_142 call b51 l0 l2 l3 l5 l7 l8 x2 h
  else
    f152_142 call b51 l0 l2 l3 l5 l7 l8 l6 h
def f152_89 (call : Nat → List ag_V → ag_H → ag_R) (b51 : Option Nat → Int32 → Int32 → Int32 → Int32 → Int32 → Int32 → ag_H → ag_R) (l0 : Option Nat) (l2 : Int32) (l3 : Int32) (l5 : Int32) (l6 : Int32) (l7 : Int32) (l8 : Int32) (h : ag_H) : ag_R :=
  if l5 < (ag_lit 0) then
    f152_120 call b51 l0 l2 l3 l5 l6 l7 l8 h
  else
    ag_gR h l0 11 25 fun x1 =>
    ag_xI h x1 100 l5 fun x2 =>
    if l8 = x2 then
      ag_gI h l0 11 38 fun x3 =>
      ag_gI h l0 11 39 fun x4 =>
      ag_at h l0 11 fun a5 _ => ag_bV (call 132 [.inr (some a5), .inl x3, .inl x4] h) fun h6 =>
      some (.inl (some (.inl (ag_lit 2))), h6)
    else
      f152_120 call b51 l0 l2 l3 l5 l6 l7 l8 h
def f152_51 (call : Nat → List ag_V → ag_H → ag_R) (b51 : Option Nat → Int32 → Int32 → Int32 → Int32 → Int32 → Int32 → ag_H → ag_R) (l0 : Option Nat) (l2 : Int32) (l3 : Int32) (l5 : Int32) (l6 : Int32) (l7 : Int32) (l8 : Int32) (h : ag_H) : ag_R :=
  if l5 < (ag_lit 0) then
    f152_89 call b51 l0 l2 l3 l5 l6 l7 l8 h
  else
    ag_gR h l0 11 25 fun x1 =>
    ag_xI h x1 100 l5 fun x2 =>
    if x2 ≤ l8 then
      f152_89 call b51 l0 l2 l3 l5 l6 l7 l8 h
    else
      ag_gR h l0 11 28 fun x3 =>
      ag_xI h x3 102 (((ag_lit 3) * l5) + l8) fun x4 =>
      if x4 = (ag_lit 0) then
        b51 l0 l2 l3 l5 l6 l7 (l8 + ag_lit 1) h
      else
        f152_89 call b51 l0 l2 l3 l5 l6 l7 l8 h
/-- NameSpacesModel.creating(IIZ)I -/
def f152 (call : Nat → List ag_V → ag_H → ag_R) (b51 : Option Nat → Int32 → Int32 → Int32 → Int32 → Int32 → Int32 → ag_H → ag_R) (l0 : Option Nat) (l1 : Int32) (l2 : Int32) (l3 : Int32) (h : ag_H) : ag_R :=
  ag_gI h l0 11 4 fun x1 =>
  ag_at h l0 11 fun a2 _ => ag_bI (call 141 [.inr (some a2), .inl l1, .inl (x1 - (ag_lit 1))] h) fun x4 h3 =>
  if x4 = (ag_lit 0) then
    ag_gI h3 l0 11 38 fun x5 =>
    ag_gI h3 l0 11 39 fun x6 =>
    ag_at h3 l0 11 fun a7 _ => ag_bI (call 140 [.inr (some a7), .inl l1, .inl x5, .inl x6] h3) fun x9 h8 =>
    ag_gI h8 l0 11 38 fun x10 =>
    ag_gI h8 l0 11 39 fun x11 =>
    f152_51 call b51 l0 l2 l3 x9 x10 x11 (ag_lit 0) h8
  else
    some (.inl (some (.inl x4)), h3)
def g152 (call : Nat → List ag_V → ag_H → ag_R) : Nat → Option Nat → Int32 → Int32 → Int32 → Int32 → Int32 → Int32 → ag_H → ag_R
  | 0 => fun _ _ _ _ _ _ _ _ => none
  | n + 1 => f152_51 call (g152 call n)
set_option maxRecDepth 100000 in
set_option maxHeartbeats 4000000 in
theorem i152_51 (call : Nat → List ag_V → ag_H → ag_R) (B : ag_K4) (l0 : Option Nat) (l2 : Int32) (l3 : Int32) (l5 : Int32) (l6 : Int32) (l7 : Int32) (l8 : Int32) (h : ag_H) : ag_in 1 call B t152 51 [some (.inr l0), none, some (.inl l2), some (.inl l3), none, some (.inl l5), some (.inl l6), some (.inl l7), some (.inl l8), none] [] h = f152_51 call (fun (l0 : Option Nat) (l2 : Int32) (l3 : Int32) (l5 : Int32) (l6 : Int32) (l7 : Int32) (l8 : Int32) (h : ag_H) => B 51 [some (.inr l0), none, some (.inl l2), some (.inl l3), none, some (.inl l5), some (.inl l6), some (.inl l7), some (.inl l8), none] [] h) l0 l2 l3 l5 l6 l7 l8 h := by
  rfl
set_option maxRecDepth 100000 in
set_option maxHeartbeats 4000000 in
theorem i152 (call : Nat → List ag_V → ag_H → ag_R) (B : ag_K4) (l0 : Option Nat) (l1 : Int32) (l2 : Int32) (l3 : Int32) (h : ag_H) : ag_in 1 call B t152 0 [some (.inr l0), some (.inl l1), some (.inl l2), some (.inl l3), none, none, none, none, none, none] [] h = f152 call (fun (l0 : Option Nat) (l2 : Int32) (l3 : Int32) (l5 : Int32) (l6 : Int32) (l7 : Int32) (l8 : Int32) (h : ag_H) => B 51 [some (.inr l0), none, some (.inl l2), some (.inl l3), none, some (.inl l5), some (.inl l6), some (.inl l7), some (.inl l8), none] [] h) l0 l1 l2 l3 h := by
  rfl
set_option maxRecDepth 100000 in
set_option maxHeartbeats 4000000 in
theorem o152 (call : Nat → List ag_V → ag_H → ag_R) : ∀ n : Nat, (fun (l0 : Option Nat) (l2 : Int32) (l3 : Int32) (l5 : Int32) (l6 : Int32) (l7 : Int32) (l8 : Int32) (h : ag_H) => (ag_out 1 call t152 n) 51 [some (.inr l0), none, some (.inl l2), some (.inl l3), none, some (.inl l5), some (.inl l6), some (.inl l7), some (.inl l8), none] [] h) = g152 call n := by
  intro n
  induction n with
  | zero => rfl
  | succ n ih =>
    funext l0 l2 l3 l5 l6 l7 l8 h
    show ag_in 1 call (ag_out 1 call t152 n) t152 51 [some (.inr l0), none, some (.inl l2), some (.inl l3), none, some (.inl l5), some (.inl l6), some (.inl l7), some (.inl l8), none] [] h = f152_51 call (g152 call n) l0 l2 l3 l5 l6 l7 l8 h
    rw [i152_51, ih]
set_option maxRecDepth 100000 in
set_option maxHeartbeats 4000000 in
theorem r152 (d : Nat) (l0 : Option Nat) (l1 : Int32) (l2 : Int32) (l3 : Int32) (h : ag_H) : ag_run gT (d + 1) 152 [.inr l0, .inl l1, .inl l2, .inl l3] h = f152 (ag_run gT d) (g152 (ag_run gT d) 3999) l0 l1 l2 l3 h := by
  show ag_out 1 (ag_run gT d) t152 4000 0 [some (.inr l0), some (.inl l1), some (.inl l2), some (.inl l3), none, none, none, none, none, none] [] h = _
  rw [ag_out_top, i152, o152]
def f153_93 (call : Nat → List ag_V → ag_H → ag_R)  (s0 : Int32) (h : ag_H) : ag_R :=
  some (.inl (some (.inl s0)), h)
def f153_73 (call : Nat → List ag_V → ag_H → ag_R)  (l0 : Option Nat) (l4 : Int32) (s0 : Int32) (h : ag_H) : ag_R :=
  ag_at h l0 11 fun a1 _ => ag_bI (call 149 [.inr (some a1), .inl s0, .inl (ag_lit 3), .inl (ag_lit 4), .inl (ag_lit 2)] h) fun x3 h2 =>
  if x3 = (ag_lit 0) then
    f153_93 call l4 h2
  else
    f153_93 call (ag_lit 0) h2
/-- NameSpacesModel.create(IZ)I -/
def f153 (call : Nat → List ag_V → ag_H → ag_R)  (l0 : Option Nat) (l1 : Int32) (l2 : Int32) (h : ag_H) : ag_R :=
  ag_at h l0 11 fun a1 _ => ag_bI (call 144 [.inr (some a1), .inl l1] h) fun x3 h2 =>
  if x3 = (ag_lit 0) then
    ag_pF h2 l0 11 41 (.inl (ag_lit 1)) fun h16 =>
    some (.inl (some (.inl (ag_lit 0))), h16)
  else
    ag_at h2 l0 11 fun a4 _ => ag_bI (call 138 [.inr (some a4), .inl (ag_lit 0)] h2) fun x6 h5 =>
    ag_at h5 l0 11 fun a7 _ => ag_bV (call 139 [.inr (some a7)] h5) fun h8 =>
    ag_at h8 l0 11 fun a9 _ => ag_bI (call 147 [.inr (some a9), .inl l1] h8) fun x11 h10 =>
    if x6 = (ag_lit 0) then
      f153_73 call l0 x11 (ag_lit 4) h10
    else
      if x11 = (ag_lit 5) then
        f153_73 call l0 x11 (ag_lit 3) h10
      else
        ag_gI h10 l0 11 4 fun x12 =>
        if x12 = (ag_lit 0) then
          f153_73 call l0 x11 (ag_lit 2) h10
        else
          ag_at h10 l0 11 fun a13 _ => ag_bI (call 152 [.inr (some a13), .inl l1, .inl (((ag_lit 5) * l1) + x11), .inl l2] h10) fun x15 h14 =>
          f153_73 call l0 x11 x15 h14
set_option maxRecDepth 100000 in
set_option maxHeartbeats 4000000 in
theorem i153 (call : Nat → List ag_V → ag_H → ag_R) (B : ag_K4) (l0 : Option Nat) (l1 : Int32) (l2 : Int32) (h : ag_H) : ag_in 1 call B t153 0 [some (.inr l0), some (.inl l1), some (.inl l2), none, none, none] [] h = f153 call  l0 l1 l2 h := by
  rfl
set_option maxRecDepth 100000 in
set_option maxHeartbeats 4000000 in
theorem r153 (d : Nat) (l0 : Option Nat) (l1 : Int32) (l2 : Int32) (h : ag_H) : ag_run gT (d + 1) 153 [.inr l0, .inl l1, .inl l2] h = f153 (ag_run gT d)  l0 l1 l2 h := by
  show ag_out 1 (ag_run gT d) t153 4000 0 [some (.inr l0), some (.inl l1), some (.inl l2), none, none, none] [] h = _
  rw [ag_out_top, i153]
def f154_251 (call : Nat → List ag_V → ag_H → ag_R) (b95 : Option Nat → Int32 → ag_H → ag_R) (s0 : Int32) (h : ag_H) : ag_R :=
  some (.inl (some (.inl s0)), h)
def f154_233 (call : Nat → List ag_V → ag_H → ag_R) (b95 : Option Nat → Int32 → ag_H → ag_R) (l0 : Option Nat) (s0 : Option Nat) (s1 : Int32) (h : ag_H) : ag_R :=
  ag_pF h s0 11 41 (.inl s1) fun h1 =>
  ag_gI h1 l0 11 41 fun x2 =>
  if x2 = (ag_lit 0) then
    ag_gI h1 l0 11 21 fun x3 =>
    f154_251 call b95 x3 h1
  else
    f154_251 call b95 (ag_lit 0) h1
def f154_232 (call : Nat → List ag_V → ag_H → ag_R) (b95 : Option Nat → Int32 → ag_H → ag_R) (l0 : Option Nat) (s0 : Option Nat) (h : ag_H) : ag_R :=
  f154_233 call b95 l0 s0 (ag_lit 0) h
def f154_203 (call : Nat → List ag_V → ag_H → ag_R) (b95 : Option Nat → Int32 → ag_H → ag_R) (l0 : Option Nat) (l3 : Int32) (s0 : Option Nat) (s1 : Int32) (s2 : Int32) (h : ag_H) : ag_R :=
  ag_xP h s0 100 s1 (.inl s2) fun h1 =>
  ag_gI h1 l0 11 21 fun x2 =>
  if (ag_lit 0) ≤ x2 then
    f154_232 call b95 l0 l0 h1
  else
    ag_gI h1 l0 11 20 fun x3 =>
    if x3 = (ag_lit 0) then
      f154_232 call b95 l0 l0 h1
    else
      ag_gR h1 l0 11 32 fun x4 =>
      ag_xI h1 x4 102 l3 fun x5 =>
      if x5 = (ag_lit 0) then
        f154_232 call b95 l0 l0 h1
      else
        f154_233 call b95 l0 l0 (ag_lit 3) h1
def f154_174 (call : Nat → List ag_V → ag_H → ag_R) (b95 : Option Nat → Int32 → ag_H → ag_R) (l0 : Option Nat) (l3 : Int32) (h : ag_H) : ag_R :=
  ag_gR h l0 11 37 fun x1 =>
  ag_gI h l0 11 21 fun x2 =>
  if x2 < (ag_lit 0) then
    ag_gR h l0 11 37 fun x3 =>
    ag_xI h x3 100 l3 fun x4 =>
    f154_203 call b95 l0 l3 x1 l3 x4 h
  else
    ag_gR h l0 11 37 fun x5 =>
    ag_xI h x5 100 l3 fun x6 =>
    f154_203 call b95 l0 l3 x1 l3 (x6 + (ag_lit 1)) h
def f154_95 (call : Nat → List ag_V → ag_H → ag_R) (b95 : Option Nat → Int32 → ag_H → ag_R) (l0 : Option Nat) (l3 : Int32) (h : ag_H) : ag_R :=
  ag_gI h l0 11 21 fun x1 =>
  if (ag_lit 0) ≤ x1 then
    f154_174 call b95 l0 l3 h
  else
    ag_gR h l0 11 36 fun x2 =>
    ag_xI h x2 100 l3 fun x3 =>
    ag_gR h l0 11 31 fun x4 =>
    ag_xI h x4 100 l3 fun x5 =>
    if x5 ≤ (x3 + (ag_lit 1)) then
      f154_174 call b95 l0 l3 h
    else
      ag_gR h l0 11 36 fun x6 =>
      ag_xI h x6 100 l3 fun x7 =>
      ag_xP h x6 100 l3 (.inl (x7 + (ag_lit 1))) fun h8 =>
      ag_gR h8 l0 11 37 fun x9 =>
      ag_xP h8 x9 100 l3 (.inl (ag_lit 0)) fun h10 =>
      ag_gR h10 l0 11 33 fun x11 =>
      ag_gR h10 l0 11 36 fun x12 =>
      ag_xI h10 x12 100 l3 fun x13 =>
      ag_xI h10 x11 100 (((ag_lit 3) * l3) + x13) fun x14 =>
      ag_gR h10 l0 11 34 fun x15 =>
      ag_gR h10 l0 11 36 fun x16 =>
      ag_xI h10 x16 100 l3 fun x17 =>
      ag_xI h10 x15 100 (((ag_lit 3) * l3) + x17) fun x18 =>
      ag_at h10 l0 11 fun a19 _ => ag_bV (call 130 [.inr (some a19), .inl x14, .inl x18, .inl (ag_lit 0)] h10) fun h20 =>
      b95 l0 l3 h20
def f154_43 (call : Nat → List ag_V → ag_H → ag_R) (b95 : Option Nat → Int32 → ag_H → ag_R) (l0 : Option Nat) (l3 : Int32) (s0 : Option Nat) (s1 : Int32) (h : ag_H) : ag_R :=
  ag_pF h s0 11 41 (.inl s1) fun h1 =>
  ag_gI h1 l0 11 41 fun x2 =>
  if x2 = (ag_lit 0) then
    ag_gR h1 l0 11 33 fun x3 =>
    ag_gR h1 l0 11 36 fun x4 =>
    ag_xI h1 x4 100 l3 fun x5 =>
    ag_xI h1 x3 100 (((ag_lit 3) * l3) + x5) fun x6 =>
    ag_gR h1 l0 11 34 fun x7 =>
    ag_gR h1 l0 11 36 fun x8 =>
    ag_xI h1 x8 100 l3 fun x9 =>
    ag_xI h1 x7 100 (((ag_lit 3) * l3) + x9) fun x10 =>
    ag_gR h1 l0 11 37 fun x11 =>
    ag_xI h1 x11 100 l3 fun x12 =>
    ag_at h1 l0 11 fun a13 _ => ag_bV (call 130 [.inr (some a13), .inl x6, .inl x10, .inl x12] h1) fun h14 =>
    f154_95 call b95 l0 l3 h14
  else
    some (.inl (some (.inl (ag_lit 0))), h1)
def f154_18 (call : Nat → List ag_V → ag_H → ag_R) (b95 : Option Nat → Int32 → ag_H → ag_R) (l0 : Option Nat) (s0 : Int32) (h : ag_H) : ag_R :=
  if (ag_lit 0) ≤ s0 then
    ag_gR h l0 11 35 fun x1 =>
    ag_xI h x1 100 s0 fun x2 =>
    if x2 = (ag_lit 1) then
      f154_43 call b95 l0 s0 l0 (ag_lit 2) h
    else
      f154_43 call b95 l0 s0 l0 (ag_lit 0) h
  else
    f154_43 call b95 l0 s0 l0 (ag_lit 1) h
/-- NameSpacesModel.read(II)I -/
def f154 (call : Nat → List ag_V → ag_H → ag_R) (b95 : Option Nat → Int32 → ag_H → ag_R) (l0 : Option Nat) (l1 : Int32) (l2 : Int32) (h : ag_H) : ag_R :=
  ag_at h l0 11 fun a1 _ => ag_bI (call 145 [.inr (some a1), .inl l1, .inl l2] h) fun x3 h2 =>
  if x3 = (ag_lit 0) then
    f154_18 call b95 l0 (ag_lit (-1)) h2
  else
    f154_18 call b95 l0 (((ag_lit 5) * l1) + l2) h2
def g154 (call : Nat → List ag_V → ag_H → ag_R) : Nat → Option Nat → Int32 → ag_H → ag_R
  | 0 => fun _ _ _ => none
  | n + 1 => f154_95 call (g154 call n)
set_option maxRecDepth 100000 in
set_option maxHeartbeats 4000000 in
theorem i154_95 (call : Nat → List ag_V → ag_H → ag_R) (B : ag_K4) (l0 : Option Nat) (l3 : Int32) (h : ag_H) : ag_in 1 call B t154 95 [some (.inr l0), none, none, some (.inl l3)] [] h = f154_95 call (fun (l0 : Option Nat) (l3 : Int32) (h : ag_H) => B 95 [some (.inr l0), none, none, some (.inl l3)] [] h) l0 l3 h := by
  rfl
set_option maxRecDepth 100000 in
set_option maxHeartbeats 4000000 in
theorem i154 (call : Nat → List ag_V → ag_H → ag_R) (B : ag_K4) (l0 : Option Nat) (l1 : Int32) (l2 : Int32) (h : ag_H) : ag_in 1 call B t154 0 [some (.inr l0), some (.inl l1), some (.inl l2), none] [] h = f154 call (fun (l0 : Option Nat) (l3 : Int32) (h : ag_H) => B 95 [some (.inr l0), none, none, some (.inl l3)] [] h) l0 l1 l2 h := by
  rfl
set_option maxRecDepth 100000 in
set_option maxHeartbeats 4000000 in
theorem o154 (call : Nat → List ag_V → ag_H → ag_R) : ∀ n : Nat, (fun (l0 : Option Nat) (l3 : Int32) (h : ag_H) => (ag_out 1 call t154 n) 95 [some (.inr l0), none, none, some (.inl l3)] [] h) = g154 call n := by
  intro n
  induction n with
  | zero => rfl
  | succ n ih =>
    funext l0 l3 h
    show ag_in 1 call (ag_out 1 call t154 n) t154 95 [some (.inr l0), none, none, some (.inl l3)] [] h = f154_95 call (g154 call n) l0 l3 h
    rw [i154_95, ih]
set_option maxRecDepth 100000 in
set_option maxHeartbeats 4000000 in
theorem r154 (d : Nat) (l0 : Option Nat) (l1 : Int32) (l2 : Int32) (h : ag_H) : ag_run gT (d + 1) 154 [.inr l0, .inl l1, .inl l2] h = f154 (ag_run gT d) (g154 (ag_run gT d) 3999) l0 l1 l2 h := by
  show ag_out 1 (ag_run gT d) t154 4000 0 [some (.inr l0), some (.inl l1), some (.inl l2), none] [] h = _
  rw [ag_out_top, i154, o154]
def f155_191 (call : Nat → List ag_V → ag_H → ag_R)  (s0 : Int32) (h : ag_H) : ag_R :=
  some (.inl (some (.inl s0)), h)
def f155_175 (call : Nat → List ag_V → ag_H → ag_R)  (l0 : Option Nat) (s0 : Option Nat) (s1 : Int32) (s2 : Int32) (h : ag_H) : ag_R :=
  ag_xP h s0 100 s1 (.inl s2) fun h1 =>
  ag_gI h1 l0 11 41 fun x2 =>
  if x2 = (ag_lit 0) then
    ag_gI h1 l0 11 21 fun x3 =>
    f155_191 call x3 h1
  else
    f155_191 call (ag_lit 0) h1
def f155_140 (call : Nat → List ag_V → ag_H → ag_R)  (l0 : Option Nat) (l4 : Int32) (s0 : Option Nat) (s1 : Int32) (h : ag_H) : ag_R :=
  ag_pF h s0 11 41 (.inl s1) fun h1 =>
  ag_gR h1 l0 11 37 fun x2 =>
  ag_gI h1 l0 11 41 fun x3 =>
  if x3 = (ag_lit 0) then
    ag_gR h1 l0 11 37 fun x6 =>
    ag_xI h1 x6 100 l4 fun x7 =>
    f155_175 call l0 x2 l4 (x7 + (ag_lit 1)) h1
  else
    ag_gR h1 l0 11 37 fun x4 =>
    ag_xI h1 x4 100 l4 fun x5 =>
    f155_175 call l0 x2 l4 x5 h1
def f155_56 (call : Nat → List ag_V → ag_H → ag_R)  (l0 : Option Nat) (l3 : Int32) (l4 : Int32) (s0 : Option Nat) (s1 : Int32) (h : ag_H) : ag_R :=
  ag_pF h s0 11 41 (.inl s1) fun h1 =>
  ag_gI h1 l0 11 41 fun x2 =>
  if x2 = (ag_lit 0) then
    ag_gR h1 l0 11 33 fun x3 =>
    ag_gR h1 l0 11 36 fun x4 =>
    ag_xI h1 x4 100 l4 fun x5 =>
    ag_xI h1 x3 100 (((ag_lit 3) * l4) + x5) fun x6 =>
    ag_gR h1 l0 11 34 fun x7 =>
    ag_gR h1 l0 11 36 fun x8 =>
    ag_xI h1 x8 100 l4 fun x9 =>
    ag_xI h1 x7 100 (((ag_lit 3) * l4) + x9) fun x10 =>
    ag_gR h1 l0 11 37 fun x11 =>
    ag_xI h1 x11 100 l4 fun x12 =>
    ag_at h1 l0 11 fun a13 _ => ag_bV (call 131 [.inr (some a13), .inl x6, .inl x10, .inl x12, .inl l3] h1) fun h14 =>
    ag_gI h14 l0 11 20 fun x15 =>
    if x15 = (ag_lit 0) then
      f155_140 call l0 l4 l0 (ag_lit 0) h14
    else
      ag_gI h14 l0 11 20 fun x16 =>
      if x16 = (ag_lit8 102) then
        f155_140 call l0 l4 l0 (ag_lit 2) h14
      else
        f155_140 call l0 l4 l0 (ag_lit 3) h14
  else
    some (.inl (some (.inl (ag_lit 0))), h1)
def f155_29 (call : Nat → List ag_V → ag_H → ag_R)  (l0 : Option Nat) (l3 : Int32) (s0 : Int32) (h : ag_H) : ag_R :=
  if (ag_lit 0) ≤ s0 then
    ag_gR h l0 11 35 fun x1 =>
    ag_xI h x1 100 s0 fun x2 =>
    if x2 = (ag_lit 0) then
      f155_56 call l0 l3 s0 l0 (ag_lit 4) h
    else
      f155_56 call l0 l3 s0 l0 (ag_lit 0) h
  else
    f155_56 call l0 l3 s0 l0 (ag_lit 1) h
def f155_28 (call : Nat → List ag_V → ag_H → ag_R)  (l0 : Option Nat) (l3 : Int32) (h : ag_H) : ag_R :=
  f155_29 call l0 l3 (ag_lit (-1)) h
/-- NameSpacesModel.write(III)I -/
def f155 (call : Nat → List ag_V → ag_H → ag_R)  (l0 : Option Nat) (l1 : Int32) (l2 : Int32) (l3 : Int32) (h : ag_H) : ag_R :=
  ag_at h l0 11 fun a1 _ => ag_bI (call 145 [.inr (some a1), .inl l1, .inl l2] h) fun x3 h2 =>
  if x3 = (ag_lit 0) then
    f155_28 call l0 l3 h2
  else
    ag_bI (call 114 [.inl l3, .inl (ag_lit 0), .inl (ag_lit16 255)] h2) fun x5 h4 =>
    if x5 = (ag_lit 0) then
      f155_29 call l0 l3 (((ag_lit 5) * l1) + l2) h4
    else
      f155_28 call l0 l3 h4
set_option maxRecDepth 100000 in
set_option maxHeartbeats 4000000 in
theorem i155 (call : Nat → List ag_V → ag_H → ag_R) (B : ag_K4) (l0 : Option Nat) (l1 : Int32) (l2 : Int32) (l3 : Int32) (h : ag_H) : ag_in 1 call B t155 0 [some (.inr l0), some (.inl l1), some (.inl l2), some (.inl l3), none] [] h = f155 call  l0 l1 l2 l3 h := by
  rfl
set_option maxRecDepth 100000 in
set_option maxHeartbeats 4000000 in
theorem r155 (d : Nat) (l0 : Option Nat) (l1 : Int32) (l2 : Int32) (l3 : Int32) (h : ag_H) : ag_run gT (d + 1) 155 [.inr l0, .inl l1, .inl l2, .inl l3] h = f155 (ag_run gT d)  l0 l1 l2 l3 h := by
  show ag_out 1 (ag_run gT d) t155 4000 0 [some (.inr l0), some (.inl l1), some (.inl l2), some (.inl l3), none] [] h = _
  rw [ag_out_top, i155]
def f156_2 (call : Nat → List ag_V → ag_H → ag_R) (b2 : Option Nat → Int32 → Int32 → ag_H → ag_R) (l0 : Option Nat) (l1 : Int32) (l2 : Int32) (h : ag_H) : ag_R :=
  ag_gR h l0 11 31 fun x1 =>
  ag_xI h x1 100 l1 fun x2 =>
  if x2 ≤ l2 then
    ag_gR h l0 11 31 fun x3 =>
    ag_xP h x3 100 l1 (.inl (ag_lit 0)) fun h4 =>
    some (.inl none, h4)
  else
    ag_gR h l0 11 33 fun x5 =>
    ag_xI h x5 100 (((ag_lit 3) * l1) + l2) fun x6 =>
    ag_gR h l0 11 34 fun x7 =>
    ag_xI h x7 100 (((ag_lit 3) * l1) + l2) fun x8 =>
    ag_at h l0 11 fun a9 _ => ag_bV (call 132 [.inr (some a9), .inl x6, .inl x8] h) fun h10 =>
    b2 l0 l1 (l2 + ag_lit 1) h10
/-- NameSpacesModel.closing(I)V -/
def f156 (call : Nat → List ag_V → ag_H → ag_R) (b2 : Option Nat → Int32 → Int32 → ag_H → ag_R) (l0 : Option Nat) (l1 : Int32) (h : ag_H) : ag_R :=
  f156_2 call b2 l0 l1 (ag_lit 0) h
def g156 (call : Nat → List ag_V → ag_H → ag_R) : Nat → Option Nat → Int32 → Int32 → ag_H → ag_R
  | 0 => fun _ _ _ _ => none
  | n + 1 => f156_2 call (g156 call n)
set_option maxRecDepth 100000 in
set_option maxHeartbeats 4000000 in
theorem i156_2 (call : Nat → List ag_V → ag_H → ag_R) (B : ag_K4) (l0 : Option Nat) (l1 : Int32) (l2 : Int32) (h : ag_H) : ag_in 0 call B t156 2 [some (.inr l0), some (.inl l1), some (.inl l2)] [] h = f156_2 call (fun (l0 : Option Nat) (l1 : Int32) (l2 : Int32) (h : ag_H) => B 2 [some (.inr l0), some (.inl l1), some (.inl l2)] [] h) l0 l1 l2 h := by
  rfl
set_option maxRecDepth 100000 in
set_option maxHeartbeats 4000000 in
theorem i156 (call : Nat → List ag_V → ag_H → ag_R) (B : ag_K4) (l0 : Option Nat) (l1 : Int32) (h : ag_H) : ag_in 0 call B t156 0 [some (.inr l0), some (.inl l1), none] [] h = f156 call (fun (l0 : Option Nat) (l1 : Int32) (l2 : Int32) (h : ag_H) => B 2 [some (.inr l0), some (.inl l1), some (.inl l2)] [] h) l0 l1 h := by
  rfl
set_option maxRecDepth 100000 in
set_option maxHeartbeats 4000000 in
theorem o156 (call : Nat → List ag_V → ag_H → ag_R) : ∀ n : Nat, (fun (l0 : Option Nat) (l1 : Int32) (l2 : Int32) (h : ag_H) => (ag_out 0 call t156 n) 2 [some (.inr l0), some (.inl l1), some (.inl l2)] [] h) = g156 call n := by
  intro n
  induction n with
  | zero => rfl
  | succ n ih =>
    funext l0 l1 l2 h
    show ag_in 0 call (ag_out 0 call t156 n) t156 2 [some (.inr l0), some (.inl l1), some (.inl l2)] [] h = f156_2 call (g156 call n) l0 l1 l2 h
    rw [i156_2, ih]
set_option maxRecDepth 100000 in
set_option maxHeartbeats 4000000 in
theorem r156 (d : Nat) (l0 : Option Nat) (l1 : Int32) (h : ag_H) : ag_run gT (d + 1) 156 [.inr l0, .inl l1] h = f156 (ag_run gT d) (g156 (ag_run gT d) 3999) l0 l1 h := by
  show ag_out 0 (ag_run gT d) t156 4000 0 [some (.inr l0), some (.inl l1), none] [] h = _
  rw [ag_out_top, i156, o156]
def f157_15 (call : Nat → List ag_V → ag_H → ag_R)  (l0 : Option Nat) (l1 : Int32) (l2 : Int32) (s0 : Option Nat) (s1 : Int32) (h : ag_H) : ag_R :=
  ag_pF h s0 11 41 (.inl s1) fun h1 =>
  ag_gI h1 l0 11 41 fun x2 =>
  if x2 = (ag_lit 0) then
    ag_at h1 l0 11 fun a3 _ => ag_bV (call 156 [.inr (some a3), .inl (((ag_lit 5) * l1) + l2)] h1) fun h4 =>
    ag_at h4 l0 11 fun a5 _ => ag_bI (call 146 [.inr (some a5), .inl l1] h4) fun x7 h6 =>
    some (.inl (some (.inl x7)), h6)
  else
    some (.inl (some (.inl (ag_lit 0))), h1)
/-- NameSpacesModel.close(II)I -/
def f157 (call : Nat → List ag_V → ag_H → ag_R)  (l0 : Option Nat) (l1 : Int32) (l2 : Int32) (h : ag_H) : ag_R :=
  ag_at h l0 11 fun a1 _ => ag_bI (call 145 [.inr (some a1), .inl l1, .inl l2] h) fun x3 h2 =>
  if x3 = (ag_lit 0) then
    f157_15 call l0 l1 l2 l0 (ag_lit 1) h2
  else
    f157_15 call l0 l1 l2 l0 (ag_lit 0) h2
set_option maxRecDepth 100000 in
set_option maxHeartbeats 4000000 in
theorem i157 (call : Nat → List ag_V → ag_H → ag_R) (B : ag_K4) (l0 : Option Nat) (l1 : Int32) (l2 : Int32) (h : ag_H) : ag_in 1 call B t157 0 [some (.inr l0), some (.inl l1), some (.inl l2)] [] h = f157 call  l0 l1 l2 h := by
  rfl
set_option maxRecDepth 100000 in
set_option maxHeartbeats 4000000 in
theorem r157 (d : Nat) (l0 : Option Nat) (l1 : Int32) (l2 : Int32) (h : ag_H) : ag_run gT (d + 1) 157 [.inr l0, .inl l1, .inl l2] h = f157 (ag_run gT d)  l0 l1 l2 h := by
  show ag_out 1 (ag_run gT d) t157 4000 0 [some (.inr l0), some (.inl l1), some (.inl l2)] [] h = _
  rw [ag_out_top, i157]
def f158_138 (call : Nat → List ag_V → ag_H → ag_R)  (s0 : Int32) (h : ag_H) : ag_R :=
  some (.inl (some (.inl s0)), h)
def f158_121 (call : Nat → List ag_V → ag_H → ag_R)  (l0 : Option Nat) (l3 : Int32) (l4 : Int32) (h : ag_H) : ag_R :=
  ag_at h l0 11 fun a1 _ => ag_bI (call 149 [.inr (some a1), .inl l3, .inl (ag_lit 2), .inl (ag_lit 3), .inl (ag_lit 0)] h) fun x3 h2 =>
  if x3 = (ag_lit 0) then
    f158_138 call l4 h2
  else
    f158_138 call (ag_lit 0) h2
def f158_120 (call : Nat → List ag_V → ag_H → ag_R)  (l0 : Option Nat) (l4 : Int32) (s0 : Int32) (h : ag_H) : ag_R :=
  f158_121 call l0 s0 l4 h
def f158_53 (call : Nat → List ag_V → ag_H → ag_R)  (l0 : Option Nat) (s0 : Int32) (h : ag_H) : ag_R :=
  if s0 = (ag_lit 0) then
    ag_gR h l0 11 14 fun x1 =>
    ag_gI h l0 11 38 fun x2 =>
    ag_gI h l0 11 39 fun x3 =>
    ag_xI h x1 100 (((ag_lit16 200) * x2) + x3) fun x4 =>
    ag_gI h l0 11 38 fun x5 =>
    ag_gI h l0 11 39 fun x6 =>
    ag_at h l0 11 fun a7 _ => ag_bV (call 133 [.inr (some a7), .inl x5, .inl x6] h) fun h8 =>
    ag_gI h8 l0 11 20 fun x9 =>
    if x9 = (ag_lit 0) then
      f158_120 call l0 (x4 - (ag_lit 1)) (ag_lit 0) h8
    else
      ag_gI h8 l0 11 20 fun x10 =>
      if x10 = (ag_lit8 112) then
        f158_120 call l0 (x4 - (ag_lit 1)) (ag_lit 2) h8
      else
        f158_120 call l0 (x4 - (ag_lit 1)) (ag_lit 1) h8
  else
    f158_121 call l0 s0 (ag_lit 0) h
/-- NameSpacesModel.remove(I)I -/
def f158 (call : Nat → List ag_V → ag_H → ag_R)  (l0 : Option Nat) (l1 : Int32) (h : ag_H) : ag_R :=
  ag_at h l0 11 fun a1 _ => ag_bI (call 144 [.inr (some a1), .inl l1] h) fun x3 h2 =>
  if x3 = (ag_lit 0) then
    ag_pF h2 l0 11 41 (.inl (ag_lit 1)) fun h14 =>
    some (.inl (some (.inl (ag_lit 0))), h14)
  else
    ag_at h2 l0 11 fun a4 _ => ag_bI (call 138 [.inr (some a4), .inl (ag_lit 0)] h2) fun x6 h5 =>
    ag_at h5 l0 11 fun a7 _ => ag_bV (call 139 [.inr (some a7)] h5) fun h8 =>
    if x6 = (ag_lit 0) then
      f158_53 call l0 (ag_lit 4) h8
    else
      ag_gI h8 l0 11 4 fun x9 =>
      if x9 = (ag_lit 0) then
        f158_53 call l0 (ag_lit 2) h8
      else
        ag_gI h8 l0 11 4 fun x10 =>
        ag_at h8 l0 11 fun a11 _ => ag_bI (call 141 [.inr (some a11), .inl l1, .inl x10] h8) fun x13 h12 =>
        f158_53 call l0 x13 h12
set_option maxRecDepth 100000 in
set_option maxHeartbeats 4000000 in
theorem i158 (call : Nat → List ag_V → ag_H → ag_R) (B : ag_K4) (l0 : Option Nat) (l1 : Int32) (h : ag_H) : ag_in 1 call B t158 0 [some (.inr l0), some (.inl l1), none, none, none] [] h = f158 call  l0 l1 h := by
  rfl
set_option maxRecDepth 100000 in
set_option maxHeartbeats 4000000 in
theorem r158 (d : Nat) (l0 : Option Nat) (l1 : Int32) (h : ag_H) : ag_run gT (d + 1) 158 [.inr l0, .inl l1] h = f158 (ag_run gT d)  l0 l1 h := by
  show ag_out 1 (ag_run gT d) t158 4000 0 [some (.inr l0), some (.inl l1), none, none, none] [] h = _
  rw [ag_out_top, i158]
def f159_149 (call : Nat → List ag_V → ag_H → ag_R)  (s0 : Int32) (h : ag_H) : ag_R :=
  some (.inl (some (.inl s0)), h)
def f159_132 (call : Nat → List ag_V → ag_H → ag_R)  (l0 : Option Nat) (l3 : Int32) (l4 : Int32) (h : ag_H) : ag_R :=
  ag_at h l0 11 fun a1 _ => ag_bI (call 149 [.inr (some a1), .inl l3, .inl (ag_lit 2), .inl (ag_lit 3), .inl (ag_lit 0)] h) fun x3 h2 =>
  if x3 = (ag_lit 0) then
    f159_149 call l4 h2
  else
    f159_149 call (ag_lit 0) h2
def f159_119 (call : Nat → List ag_V → ag_H → ag_R)  (l0 : Option Nat) (l4 : Int32) (s0 : Int32) (h : ag_H) : ag_R :=
  ag_gI h l0 11 38 fun x1 =>
  ag_gI h l0 11 39 fun x2 =>
  ag_at h l0 11 fun a3 _ => ag_bV (call 132 [.inr (some a3), .inl x1, .inl x2] h) fun h4 =>
  f159_132 call l0 s0 l4 h4
def f159_104 (call : Nat → List ag_V → ag_H → ag_R)  (l0 : Option Nat) (s0 : Int32) (s1 : Int32) (h : ag_H) : ag_R :=
  ag_gI h l0 11 20 fun x1 =>
  if x1 = (ag_lit 0) then
    f159_119 call l0 (s0 + s1) (ag_lit 0) h
  else
    f159_119 call l0 (s0 + s1) (ag_lit 1) h
def f159_42 (call : Nat → List ag_V → ag_H → ag_R)  (l0 : Option Nat) (s0 : Int32) (h : ag_H) : ag_R :=
  if s0 = (ag_lit 0) then
    ag_gI h l0 11 38 fun x1 =>
    ag_gI h l0 11 39 fun x2 =>
    ag_at h l0 11 fun a3 _ => ag_bV (call 134 [.inr (some a3), .inl x1, .inl x2] h) fun h4 =>
    ag_gI h4 l0 11 38 fun x5 =>
    ag_gR h4 l0 11 14 fun x6 =>
    ag_gI h4 l0 11 38 fun x7 =>
    ag_gI h4 l0 11 39 fun x8 =>
    ag_xI h4 x6 100 (((ag_lit16 200) * x7) + x8) fun x9 =>
    ag_at h4 l0 11 fun a10 _ => ag_bI (call 142 [.inr (some a10)] h4) fun x12 h11 =>
    if x12 = (ag_lit 0) then
      f159_104 call l0 (((ag_lit8 100) * x5) + ((ag_lit 2) * (x9 - (ag_lit 1)))) (ag_lit 0) h11
    else
      f159_104 call l0 (((ag_lit8 100) * x5) + ((ag_lit 2) * (x9 - (ag_lit 1)))) (ag_lit 1) h11
  else
    f159_132 call l0 s0 (ag_lit 0) h
/-- NameSpacesModel.stat(I)I -/
def f159 (call : Nat → List ag_V → ag_H → ag_R)  (l0 : Option Nat) (l1 : Int32) (h : ag_H) : ag_R :=
  ag_at h l0 11 fun a1 _ => ag_bI (call 144 [.inr (some a1), .inl l1] h) fun x3 h2 =>
  if x3 = (ag_lit 0) then
    ag_pF h2 l0 11 41 (.inl (ag_lit 1)) fun h13 =>
    some (.inl (some (.inl (ag_lit 0))), h13)
  else
    ag_at h2 l0 11 fun a4 _ => ag_bI (call 138 [.inr (some a4), .inl (ag_lit 0)] h2) fun x6 h5 =>
    ag_at h5 l0 11 fun a7 _ => ag_bV (call 139 [.inr (some a7)] h5) fun h8 =>
    if x6 = (ag_lit 0) then
      f159_42 call l0 (ag_lit 4) h8
    else
      ag_gI h8 l0 11 4 fun x9 =>
      ag_at h8 l0 11 fun a10 _ => ag_bI (call 141 [.inr (some a10), .inl l1, .inl x9] h8) fun x12 h11 =>
      f159_42 call l0 x12 h11
set_option maxRecDepth 100000 in
set_option maxHeartbeats 4000000 in
theorem i159 (call : Nat → List ag_V → ag_H → ag_R) (B : ag_K4) (l0 : Option Nat) (l1 : Int32) (h : ag_H) : ag_in 1 call B t159 0 [some (.inr l0), some (.inl l1), none, none, none] [] h = f159 call  l0 l1 h := by
  rfl
set_option maxRecDepth 100000 in
set_option maxHeartbeats 4000000 in
theorem r159 (d : Nat) (l0 : Option Nat) (l1 : Int32) (h : ag_H) : ag_run gT (d + 1) 159 [.inr l0, .inl l1] h = f159 (ag_run gT d)  l0 l1 h := by
  show ag_out 1 (ag_run gT d) t159 4000 0 [some (.inr l0), some (.inl l1), none, none, none] [] h = _
  rw [ag_out_top, i159]
def f160_22 (call : Nat → List ag_V → ag_H → ag_R)  (s0 : Int32) (h : ag_H) : ag_R :=
  ag_isB s0 (some (.inl (some (.inl s0)), h))
def f160_21 (call : Nat → List ag_V → ag_H → ag_R)   (h : ag_H) : ag_R :=
  f160_22 call (ag_lit 0) h
/-- NameSpacesModel.isHow(I)Z -/
def f160 (call : Nat → List ag_V → ag_H → ag_R)  (l0 : Int32) (h : ag_H) : ag_R :=
  if l0 < (ag_lit 0) then
    f160_21 call h
  else
    if (ag_lit8 7) ≤ l0 then
      f160_21 call h
    else
      ag_dv (ag_lit 4) <|
      if (l0 - l0 / (ag_lit 4) * (ag_lit 4)) = (ag_lit 3) then
        f160_21 call h
      else
        f160_22 call (ag_lit 1) h
set_option maxRecDepth 100000 in
set_option maxHeartbeats 4000000 in
theorem i160 (call : Nat → List ag_V → ag_H → ag_R) (B : ag_K4) (l0 : Int32) (h : ag_H) : ag_in 4 call B t160 0 [some (.inl l0)] [] h = f160 call  l0 h := by
  rfl
set_option maxRecDepth 100000 in
set_option maxHeartbeats 4000000 in
theorem r160 (d : Nat) (l0 : Int32) (h : ag_H) : ag_run gT (d + 1) 160 [.inl l0] h = f160 (ag_run gT d)  l0 h := by
  show ag_out 4 (ag_run gT d) t160 4000 0 [some (.inl l0)] [] h = _
  rw [ag_out_top, i160]
def f161_8 (call : Nat → List ag_V → ag_H → ag_R) (b8 : Option Nat → Int32 → Int32 → Int32 → Int32 → Int32 → Int32 → ag_H → ag_R) (l0 : Option Nat) (l1 : Int32) (l2 : Int32) (l3 : Int32) (l4 : Int32) (l5 : Int32) (l6 : Int32) (h : ag_H) : ag_R :=
  if l6 ≤ l2 then
    ag_gR h l0 11 26 fun x1 =>
    ag_xP h x1 100 (((ag_lit 3) * l1) + l2) (.inl l3) fun h2 =>
    ag_gR h2 l0 11 27 fun x3 =>
    ag_xP h2 x3 100 (((ag_lit 3) * l1) + l2) (.inl l4) fun h4 =>
    ag_gR h4 l0 11 28 fun x5 =>
    ag_isB l5 <| ag_xP h4 x5 102 (((ag_lit 3) * l1) + l2) (.inl l5) fun h6 =>
    ag_gR h6 l0 11 25 fun x7 =>
    ag_xI h6 x7 100 l1 fun x8 =>
    ag_xP h6 x7 100 l1 (.inl (x8 + (ag_lit 1))) fun h9 =>
    some (.inl none, h9)
  else
    ag_gR h l0 11 26 fun x10 =>
    ag_gR h l0 11 26 fun x11 =>
    ag_xI h x11 100 ((((ag_lit 3) * l1) + l6) - (ag_lit 1)) fun x12 =>
    ag_xP h x10 100 (((ag_lit 3) * l1) + l6) (.inl x12) fun h13 =>
    ag_gR h13 l0 11 27 fun x14 =>
    ag_gR h13 l0 11 27 fun x15 =>
    ag_xI h13 x15 100 ((((ag_lit 3) * l1) + l6) - (ag_lit 1)) fun x16 =>
    ag_xP h13 x14 100 (((ag_lit 3) * l1) + l6) (.inl x16) fun h17 =>
    ag_gR h17 l0 11 28 fun x18 =>
    ag_gR h17 l0 11 28 fun x19 =>
    ag_xI h17 x19 102 ((((ag_lit 3) * l1) + l6) - (ag_lit 1)) fun x20 =>
    ag_isB x20 <| ag_xP h17 x18 102 (((ag_lit 3) * l1) + l6) (.inl x20) fun h21 =>
    b8 l0 l1 l2 l3 l4 l5 (l6 + ag_lit (-1)) h21
/-- NameSpacesModel.putMember(IIIIZ)V -/
def f161 (call : Nat → List ag_V → ag_H → ag_R) (b8 : Option Nat → Int32 → Int32 → Int32 → Int32 → Int32 → Int32 → ag_H → ag_R) (l0 : Option Nat) (l1 : Int32) (l2 : Int32) (l3 : Int32) (l4 : Int32) (l5 : Int32) (h : ag_H) : ag_R :=
  ag_gR h l0 11 25 fun x1 =>
  ag_xI h x1 100 l1 fun x2 =>
  f161_8 call b8 l0 l1 l2 l3 l4 l5 x2 h
def g161 (call : Nat → List ag_V → ag_H → ag_R) : Nat → Option Nat → Int32 → Int32 → Int32 → Int32 → Int32 → Int32 → ag_H → ag_R
  | 0 => fun _ _ _ _ _ _ _ _ => none
  | n + 1 => f161_8 call (g161 call n)
set_option maxRecDepth 100000 in
set_option maxHeartbeats 4000000 in
theorem i161_8 (call : Nat → List ag_V → ag_H → ag_R) (B : ag_K4) (l0 : Option Nat) (l1 : Int32) (l2 : Int32) (l3 : Int32) (l4 : Int32) (l5 : Int32) (l6 : Int32) (h : ag_H) : ag_in 0 call B t161 8 [some (.inr l0), some (.inl l1), some (.inl l2), some (.inl l3), some (.inl l4), some (.inl l5), some (.inl l6)] [] h = f161_8 call (fun (l0 : Option Nat) (l1 : Int32) (l2 : Int32) (l3 : Int32) (l4 : Int32) (l5 : Int32) (l6 : Int32) (h : ag_H) => B 8 [some (.inr l0), some (.inl l1), some (.inl l2), some (.inl l3), some (.inl l4), some (.inl l5), some (.inl l6)] [] h) l0 l1 l2 l3 l4 l5 l6 h := by
  rfl
set_option maxRecDepth 100000 in
set_option maxHeartbeats 4000000 in
theorem i161 (call : Nat → List ag_V → ag_H → ag_R) (B : ag_K4) (l0 : Option Nat) (l1 : Int32) (l2 : Int32) (l3 : Int32) (l4 : Int32) (l5 : Int32) (h : ag_H) : ag_in 0 call B t161 0 [some (.inr l0), some (.inl l1), some (.inl l2), some (.inl l3), some (.inl l4), some (.inl l5), none] [] h = f161 call (fun (l0 : Option Nat) (l1 : Int32) (l2 : Int32) (l3 : Int32) (l4 : Int32) (l5 : Int32) (l6 : Int32) (h : ag_H) => B 8 [some (.inr l0), some (.inl l1), some (.inl l2), some (.inl l3), some (.inl l4), some (.inl l5), some (.inl l6)] [] h) l0 l1 l2 l3 l4 l5 h := by
  rfl
set_option maxRecDepth 100000 in
set_option maxHeartbeats 4000000 in
theorem o161 (call : Nat → List ag_V → ag_H → ag_R) : ∀ n : Nat, (fun (l0 : Option Nat) (l1 : Int32) (l2 : Int32) (l3 : Int32) (l4 : Int32) (l5 : Int32) (l6 : Int32) (h : ag_H) => (ag_out 0 call t161 n) 8 [some (.inr l0), some (.inl l1), some (.inl l2), some (.inl l3), some (.inl l4), some (.inl l5), some (.inl l6)] [] h) = g161 call n := by
  intro n
  induction n with
  | zero => rfl
  | succ n ih =>
    funext l0 l1 l2 l3 l4 l5 l6 h
    show ag_in 0 call (ag_out 0 call t161 n) t161 8 [some (.inr l0), some (.inl l1), some (.inl l2), some (.inl l3), some (.inl l4), some (.inl l5), some (.inl l6)] [] h = f161_8 call (g161 call n) l0 l1 l2 l3 l4 l5 l6 h
    rw [i161_8, ih]
set_option maxRecDepth 100000 in
set_option maxHeartbeats 4000000 in
theorem r161 (d : Nat) (l0 : Option Nat) (l1 : Int32) (l2 : Int32) (l3 : Int32) (l4 : Int32) (l5 : Int32) (h : ag_H) : ag_run gT (d + 1) 161 [.inr l0, .inl l1, .inl l2, .inl l3, .inl l4, .inl l5] h = f161 (ag_run gT d) (g161 (ag_run gT d) 3999) l0 l1 l2 l3 l4 l5 h := by
  show ag_out 0 (ag_run gT d) t161 4000 0 [some (.inr l0), some (.inl l1), some (.inl l2), some (.inl l3), some (.inl l4), some (.inl l5), none] [] h = _
  rw [ag_out_top, i161, o161]
def f162_2 (call : Nat → List ag_V → ag_H → ag_R) (b2 : Option Nat → Int32 → Int32 → ag_H → ag_R) (l0 : Option Nat) (l1 : Int32) (l2 : Int32) (h : ag_H) : ag_R :=
  ag_gR h l0 11 25 fun x1 =>
  ag_xI h x1 100 l1 fun x2 =>
  if x2 ≤ l2 then
    ag_gR h l0 11 25 fun x3 =>
    ag_xP h x3 100 l1 (.inl (ag_lit 0)) fun h4 =>
    some (.inl none, h4)
  else
    ag_gR h l0 11 26 fun x5 =>
    ag_xI h x5 100 (((ag_lit 3) * l1) + l2) fun x6 =>
    ag_gR h l0 11 27 fun x7 =>
    ag_xI h x7 100 (((ag_lit 3) * l1) + l2) fun x8 =>
    ag_at h l0 11 fun a9 _ => ag_bV (call 132 [.inr (some a9), .inl x6, .inl x8] h) fun h10 =>
    b2 l0 l1 (l2 + ag_lit 1) h10
/-- NameSpacesModel.clunkMembers(I)V -/
def f162 (call : Nat → List ag_V → ag_H → ag_R) (b2 : Option Nat → Int32 → Int32 → ag_H → ag_R) (l0 : Option Nat) (l1 : Int32) (h : ag_H) : ag_R :=
  f162_2 call b2 l0 l1 (ag_lit 0) h
def g162 (call : Nat → List ag_V → ag_H → ag_R) : Nat → Option Nat → Int32 → Int32 → ag_H → ag_R
  | 0 => fun _ _ _ _ => none
  | n + 1 => f162_2 call (g162 call n)
set_option maxRecDepth 100000 in
set_option maxHeartbeats 4000000 in
theorem i162_2 (call : Nat → List ag_V → ag_H → ag_R) (B : ag_K4) (l0 : Option Nat) (l1 : Int32) (l2 : Int32) (h : ag_H) : ag_in 0 call B t162 2 [some (.inr l0), some (.inl l1), some (.inl l2)] [] h = f162_2 call (fun (l0 : Option Nat) (l1 : Int32) (l2 : Int32) (h : ag_H) => B 2 [some (.inr l0), some (.inl l1), some (.inl l2)] [] h) l0 l1 l2 h := by
  rfl
set_option maxRecDepth 100000 in
set_option maxHeartbeats 4000000 in
theorem i162 (call : Nat → List ag_V → ag_H → ag_R) (B : ag_K4) (l0 : Option Nat) (l1 : Int32) (h : ag_H) : ag_in 0 call B t162 0 [some (.inr l0), some (.inl l1), none] [] h = f162 call (fun (l0 : Option Nat) (l1 : Int32) (l2 : Int32) (h : ag_H) => B 2 [some (.inr l0), some (.inl l1), some (.inl l2)] [] h) l0 l1 h := by
  rfl
set_option maxRecDepth 100000 in
set_option maxHeartbeats 4000000 in
theorem o162 (call : Nat → List ag_V → ag_H → ag_R) : ∀ n : Nat, (fun (l0 : Option Nat) (l1 : Int32) (l2 : Int32) (h : ag_H) => (ag_out 0 call t162 n) 2 [some (.inr l0), some (.inl l1), some (.inl l2)] [] h) = g162 call n := by
  intro n
  induction n with
  | zero => rfl
  | succ n ih =>
    funext l0 l1 l2 h
    show ag_in 0 call (ag_out 0 call t162 n) t162 2 [some (.inr l0), some (.inl l1), some (.inl l2)] [] h = f162_2 call (g162 call n) l0 l1 l2 h
    rw [i162_2, ih]
set_option maxRecDepth 100000 in
set_option maxHeartbeats 4000000 in
theorem r162 (d : Nat) (l0 : Option Nat) (l1 : Int32) (h : ag_H) : ag_run gT (d + 1) 162 [.inr l0, .inl l1] h = f162 (ag_run gT d) (g162 (ag_run gT d) 3999) l0 l1 h := by
  show ag_out 0 (ag_run gT d) t162 4000 0 [some (.inr l0), some (.inl l1), none] [] h = _
  rw [ag_out_top, i162, o162]
def f163_331 (call : Nat → List ag_V → ag_H → ag_R)  (l0 : Option Nat) (l7 : Int32) (s0 : Option Nat) (s1 : Int32) (s2 : Int32) (s3 : Int32) (s4 : Int32) (s5 : Int32) (h : ag_H) : ag_R :=
  ag_at h s0 11 fun a1 _ => ag_bV (call 161 [.inr (some a1), .inl s1, .inl s2, .inl s3, .inl s4, .inl s5] h) fun h2 =>
  ag_gR h2 l0 11 25 fun x3 =>
  ag_xI h2 x3 100 l7 fun x4 =>
  ag_pF h2 l0 11 21 (.inl x4) fun h5 =>
  some (.inl (some (.inl (ag_lit 0))), h5)
def f163_316 (call : Nat → List ag_V → ag_H → ag_R)  (l0 : Option Nat) (l2 : Int32) (l3 : Int32) (l4 : Int32) (l7 : Int32) (s0 : Option Nat) (s1 : Int32) (s2 : Int32) (h : ag_H) : ag_R :=
  ag_dv (ag_lit 4) <|
  if (l4 / (ag_lit 4)) = (ag_lit 1) then
    f163_331 call l0 l7 s0 s1 s2 l2 l3 (ag_lit 1) h
  else
    f163_331 call l0 l7 s0 s1 s2 l2 l3 (ag_lit 0) h
def f163_294 (call : Nat → List ag_V → ag_H → ag_R)  (l0 : Option Nat) (l2 : Int32) (l3 : Int32) (l4 : Int32) (l7 : Int32) (h : ag_H) : ag_R :=
  ag_dv (ag_lit 4) <|
  if (l4 - l4 / (ag_lit 4) * (ag_lit 4)) = (ag_lit 2) then
    ag_gR h l0 11 25 fun x1 =>
    ag_xI h x1 100 l7 fun x2 =>
    f163_316 call l0 l2 l3 l4 l7 l0 l7 x2 h
  else
    f163_316 call l0 l2 l3 l4 l7 l0 l7 (ag_lit 0) h
def f163_282 (call : Nat → List ag_V → ag_H → ag_R)  (l0 : Option Nat) (l2 : Int32) (l3 : Int32) (l4 : Int32) (l7 : Int32) (h : ag_H) : ag_R :=
  ag_gI h l0 11 38 fun x1 =>
  ag_gI h l0 11 39 fun x2 =>
  ag_at h l0 11 fun a3 _ => ag_bV (call 132 [.inr (some a3), .inl x1, .inl x2] h) fun h4 =>
  f163_294 call l0 l2 l3 l4 l7 h4
def f163_247 (call : Nat → List ag_V → ag_H → ag_R)  (l0 : Option Nat) (l2 : Int32) (l3 : Int32) (l4 : Int32) (l7 : Int32) (l8 : Int32) (h : ag_H) : ag_R :=
  if l8 = (ag_lit 0) then
    f163_282 call l0 l2 l3 l4 l7 h
  else
    ag_dv (ag_lit 4) <|
    if (l4 - l4 / (ag_lit 4) * (ag_lit 4)) = (ag_lit 0) then
      f163_282 call l0 l2 l3 l4 l7 h
    else
      ag_at h l0 11 fun a1 _ => ag_bV (call 143 [.inr (some a1)] h) fun h2 =>
      ag_gI h2 l0 11 38 fun x3 =>
      ag_gI h2 l0 11 39 fun x4 =>
      ag_at h2 l0 11 fun a5 _ => ag_bV (call 161 [.inr (some a5), .inl l7, .inl (ag_lit 0), .inl x3, .inl x4, .inl (ag_lit 1)] h2) fun h6 =>
      f163_294 call l0 l2 l3 l4 l7 h6
def f163_234 (call : Nat → List ag_V → ag_H → ag_R)  (l0 : Option Nat) (l2 : Int32) (l3 : Int32) (l4 : Int32) (l7 : Int32) (l8 : Int32) (h : ag_H) : ag_R :=
  ag_dv (ag_lit 4) <|
  if (l4 - l4 / (ag_lit 4) * (ag_lit 4)) = (ag_lit 0) then
    ag_at h l0 11 fun a1 _ => ag_bV (call 162 [.inr (some a1), .inl l7] h) fun h2 =>
    f163_247 call l0 l2 l3 l4 l7 l8 h2
  else
    f163_247 call l0 l2 l3 l4 l7 l8 h
def f163_152 (call : Nat → List ag_V → ag_H → ag_R)  (l0 : Option Nat) (l1 : Int32) (l2 : Int32) (l3 : Int32) (l4 : Int32) (l6 : Int32) (l7 : Int32) (l8 : Int32) (h : ag_H) : ag_R :=
  if l8 = (ag_lit 0) then
    f163_234 call l0 l2 l3 l4 l7 l8 h
  else
    ag_gR h l0 11 22 fun x1 =>
    ag_gR h l0 11 30 fun x2 =>
    ag_xI h x2 100 l1 fun x3 =>
    ag_xI h x1 100 x3 fun x4 =>
    ag_gR h l0 11 23 fun x5 =>
    ag_gI h l0 11 38 fun x6 =>
    ag_xP h x5 100 (l6 + x4) (.inl x6) fun h7 =>
    ag_gR h7 l0 11 24 fun x8 =>
    ag_gR h7 l0 11 14 fun x9 =>
    ag_gI h7 l0 11 38 fun x10 =>
    ag_gI h7 l0 11 39 fun x11 =>
    ag_xI h7 x9 100 (((ag_lit16 200) * x10) + x11) fun x12 =>
    ag_xP h7 x8 100 (l6 + x4) (.inl (x12 - (ag_lit 1))) fun h13 =>
    ag_gR h13 l0 11 25 fun x14 =>
    ag_xP h13 x14 100 (l6 + x4) (.inl (ag_lit 0)) fun h15 =>
    ag_gR h15 l0 11 22 fun x16 =>
    ag_gR h15 l0 11 30 fun x17 =>
    ag_xI h15 x17 100 l1 fun x18 =>
    ag_xI h15 x16 100 x18 fun x19 =>
    ag_xP h15 x16 100 x18 (.inl (x19 + (ag_lit 1))) fun h20 =>
    f163_234 call l0 l2 l3 l4 (l6 + x4) l8 h20
def f163_132 (call : Nat → List ag_V → ag_H → ag_R)  (l0 : Option Nat) (l2 : Int32) (l3 : Int32) (h : ag_H) : ag_R :=
  ag_gI h l0 11 38 fun x1 =>
  ag_gI h l0 11 39 fun x2 =>
  ag_at h l0 11 fun a3 _ => ag_bV (call 132 [.inr (some a3), .inl x1, .inl x2] h) fun h4 =>
  ag_at h4 l0 11 fun a5 _ => ag_bV (call 132 [.inr (some a5), .inl l2, .inl l3] h4) fun h6 =>
  some (.inl (some (.inl (ag_lit 3))), h6)
def f163_109 (call : Nat → List ag_V → ag_H → ag_R)  (l0 : Option Nat) (l1 : Int32) (l2 : Int32) (l3 : Int32) (l4 : Int32) (l6 : Int32) (l7 : Int32) (l8 : Int32) (h : ag_H) : ag_R :=
  if l8 = (ag_lit 0) then
    ag_gR h l0 11 25 fun x1 =>
    ag_xI h x1 100 l7 fun x2 =>
    if x2 = (ag_lit 3) then
      ag_dv (ag_lit 4) <|
      if (l4 - l4 / (ag_lit 4) * (ag_lit 4)) = (ag_lit 0) then
        f163_152 call l0 l1 l2 l3 l4 l6 l7 l8 h
      else
        f163_132 call l0 l2 l3 h
    else
      f163_152 call l0 l1 l2 l3 l4 l6 l7 l8 h
  else
    f163_152 call l0 l1 l2 l3 l4 l6 l7 l8 h
def f163_87 (call : Nat → List ag_V → ag_H → ag_R)  (l0 : Option Nat) (l1 : Int32) (l2 : Int32) (l3 : Int32) (l4 : Int32) (l6 : Int32) (l7 : Int32) (s0 : Int32) (h : ag_H) : ag_R :=
  if s0 = (ag_lit 0) then
    f163_109 call l0 l1 l2 l3 l4 l6 l7 s0 h
  else
    ag_gR h l0 11 22 fun x1 =>
    ag_gR h l0 11 30 fun x2 =>
    ag_xI h x2 100 l1 fun x3 =>
    ag_xI h x1 100 x3 fun x4 =>
    if x4 = (ag_lit 4) then
      f163_132 call l0 l2 l3 h
    else
      f163_109 call l0 l1 l2 l3 l4 l6 l7 s0 h
def f163_38 (call : Nat → List ag_V → ag_H → ag_R)  (l0 : Option Nat) (l1 : Int32) (l2 : Int32) (l3 : Int32) (l4 : Int32) (l5 : Int32) (h : ag_H) : ag_R :=
  if l5 = (ag_lit 0) then
    ag_gR h l0 11 30 fun x1 =>
    ag_xI h x1 100 l1 fun x2 =>
    ag_gI h l0 11 38 fun x3 =>
    ag_gI h l0 11 39 fun x4 =>
    ag_at h l0 11 fun a5 _ => ag_bI (call 140 [.inr (some a5), .inl l1, .inl x3, .inl x4] h) fun x7 h6 =>
    if (ag_lit 0) ≤ x7 then
      f163_87 call l0 l1 l2 l3 l4 ((ag_lit 4) * x2) x7 (ag_lit 0) h6
    else
      f163_87 call l0 l1 l2 l3 l4 ((ag_lit 4) * x2) x7 (ag_lit 1) h6
  else
    ag_at h l0 11 fun a8 _ => ag_bV (call 132 [.inr (some a8), .inl l2, .inl l3] h) fun h9 =>
    some (.inl (some (.inl l5)), h9)
/-- NameSpacesModel.bound(IIII)I -/
def f163 (call : Nat → List ag_V → ag_H → ag_R)  (l0 : Option Nat) (l1 : Int32) (l2 : Int32) (l3 : Int32) (l4 : Int32) (h : ag_H) : ag_R :=
  ag_gI h l0 11 4 fun x1 =>
  ag_at h l0 11 fun a2 _ => ag_bI (call 141 [.inr (some a2), .inl l1, .inl x1] h) fun x4 h3 =>
  if x4 = (ag_lit 0) then
    ag_at h3 l0 11 fun a5 _ => ag_bI (call 142 [.inr (some a5)] h3) fun x7 h6 =>
    if x7 = (ag_lit 0) then
      ag_gI h6 l0 11 38 fun x8 =>
      ag_gI h6 l0 11 39 fun x9 =>
      ag_at h6 l0 11 fun a10 _ => ag_bV (call 132 [.inr (some a10), .inl x8, .inl x9] h6) fun h11 =>
      f163_38 call l0 l1 l2 l3 l4 (ag_lit 2) h11
    else
      f163_38 call l0 l1 l2 l3 l4 x4 h6
  else
    f163_38 call l0 l1 l2 l3 l4 x4 h3
set_option maxRecDepth 100000 in
set_option maxHeartbeats 4000000 in
theorem i163 (call : Nat → List ag_V → ag_H → ag_R) (B : ag_K4) (l0 : Option Nat) (l1 : Int32) (l2 : Int32) (l3 : Int32) (l4 : Int32) (h : ag_H) : ag_in 1 call B t163 0 [some (.inr l0), some (.inl l1), some (.inl l2), some (.inl l3), some (.inl l4), none, none, none, none] [] h = f163 call  l0 l1 l2 l3 l4 h := by
  rfl
set_option maxRecDepth 100000 in
set_option maxHeartbeats 4000000 in
theorem r163 (d : Nat) (l0 : Option Nat) (l1 : Int32) (l2 : Int32) (l3 : Int32) (l4 : Int32) (h : ag_H) : ag_run gT (d + 1) 163 [.inr l0, .inl l1, .inl l2, .inl l3, .inl l4] h = f163 (ag_run gT d)  l0 l1 l2 l3 l4 h := by
  show ag_out 1 (ag_run gT d) t163 4000 0 [some (.inr l0), some (.inl l1), some (.inl l2), some (.inl l3), some (.inl l4), none, none, none, none] [] h = _
  rw [ag_out_top, i163]
def f164_163 (call : Nat → List ag_V → ag_H → ag_R)  (s0 : Int32) (h : ag_H) : ag_R :=
  some (.inl (some (.inl s0)), h)
def f164_139 (call : Nat → List ag_V → ag_H → ag_R)  (l0 : Option Nat) (l4 : Int32) (h : ag_H) : ag_R :=
  ag_at h l0 11 fun a1 _ => ag_bV (call 139 [.inr (some a1)] h) fun h2 =>
  ag_at h2 l0 11 fun a3 _ => ag_bI (call 149 [.inr (some a3), .inl l4, .inl (ag_lit 3), .inl (ag_lit 4), .inl (ag_lit 2)] h2) fun x5 h4 =>
  if x5 = (ag_lit 0) then
    ag_gI h4 l0 11 21 fun x6 =>
    f164_163 call x6 h4
  else
    f164_163 call (ag_lit 0) h4
def f164_137 (call : Nat → List ag_V → ag_H → ag_R)  (l0 : Option Nat) (s0 : Int32) (h : ag_H) : ag_R :=
  f164_139 call l0 s0 h
def f164_90 (call : Nat → List ag_V → ag_H → ag_R)  (l0 : Option Nat) (l1 : Int32) (l2 : Int32) (l4 : Int32) (h : ag_H) : ag_R :=
  if l4 = (ag_lit 0) then
    ag_at h l0 11 fun a1 _ => ag_bV (call 143 [.inr (some a1)] h) fun h2 =>
    ag_gI h2 l0 11 38 fun x3 =>
    ag_gI h2 l0 11 39 fun x4 =>
    ag_at h2 l0 11 fun a5 _ => ag_bI (call 138 [.inr (some a5), .inl (ag_lit 0)] h2) fun x7 h6 =>
    if x7 = (ag_lit 0) then
      f164_137 call l0 (ag_lit 4) h6
    else
      ag_at h6 l0 11 fun a8 _ => ag_bI (call 163 [.inr (some a8), .inl l1, .inl x3, .inl x4, .inl l2] h6) fun x10 h9 =>
      f164_137 call l0 x10 h9
  else
    f164_139 call l0 l4 h
def f164_61 (call : Nat → List ag_V → ag_H → ag_R)  (l0 : Option Nat) (l1 : Int32) (l2 : Int32) (s0 : Int32) (h : ag_H) : ag_R :=
  if s0 = (ag_lit 0) then
    ag_at h l0 11 fun a1 _ => ag_bI (call 142 [.inr (some a1)] h) fun x3 h2 =>
    if x3 = (ag_lit 0) then
      ag_gI h2 l0 11 38 fun x4 =>
      ag_gI h2 l0 11 39 fun x5 =>
      ag_at h2 l0 11 fun a6 _ => ag_bV (call 132 [.inr (some a6), .inl x4, .inl x5] h2) fun h7 =>
      f164_90 call l0 l1 l2 (ag_lit 2) h7
    else
      f164_90 call l0 l1 l2 s0 h2
  else
    f164_90 call l0 l1 l2 s0 h
def f164_43 (call : Nat → List ag_V → ag_H → ag_R)  (l0 : Option Nat) (l1 : Int32) (l2 : Int32) (s0 : Int32) (h : ag_H) : ag_R :=
  if s0 = (ag_lit 0) then
    f164_61 call l0 l1 l2 (ag_lit 4) h
  else
    ag_gI h l0 11 4 fun x1 =>
    ag_at h l0 11 fun a2 _ => ag_bI (call 141 [.inr (some a2), .inl l1, .inl x1] h) fun x4 h3 =>
    f164_61 call l0 l1 l2 x4 h3
def f164_42 (call : Nat → List ag_V → ag_H → ag_R)  (l0 : Option Nat) (l1 : Int32) (l2 : Int32) (h : ag_H) : ag_R :=
  f164_43 call l0 l1 l2 (ag_lit 0) h
/-- NameSpacesModel.bind(II)I -/
def f164 (call : Nat → List ag_V → ag_H → ag_R)  (l0 : Option Nat) (l1 : Int32) (l2 : Int32) (h : ag_H) : ag_R :=
  ag_at h l0 11 fun a1 _ => ag_bI (call 144 [.inr (some a1), .inl l1] h) fun x3 h2 =>
  if x3 = (ag_lit 0) then
    ag_pF h2 l0 11 41 (.inl (ag_lit 1)) fun h12 =>
    some (.inl (some (.inl (ag_lit 0))), h12)
  else
    ag_at h2 l0 11 fun a4 _ => ag_bI (call 138 [.inr (some a4), .inl (ag_lit 0)] h2) fun x6 h5 =>
    if x6 = (ag_lit 0) then
      f164_42 call l0 l1 l2 h5
    else
      ag_at h5 l0 11 fun a7 _ => ag_bI (call 138 [.inr (some a7), .inl (ag_lit 1)] h5) fun x9 h8 =>
      if x9 = (ag_lit 0) then
        f164_42 call l0 l1 l2 h8
      else
        ag_bI (call 160 [.inl l2] h8) fun x11 h10 =>
        if x11 = (ag_lit 0) then
          f164_42 call l0 l1 l2 h10
        else
          f164_43 call l0 l1 l2 (ag_lit 1) h10
set_option maxRecDepth 100000 in
set_option maxHeartbeats 4000000 in
theorem i164 (call : Nat → List ag_V → ag_H → ag_R) (B : ag_K4) (l0 : Option Nat) (l1 : Int32) (l2 : Int32) (h : ag_H) : ag_in 1 call B t164 0 [some (.inr l0), some (.inl l1), some (.inl l2), none, none, none, none, none] [] h = f164 call  l0 l1 l2 h := by
  rfl
set_option maxRecDepth 100000 in
set_option maxHeartbeats 4000000 in
theorem r164 (d : Nat) (l0 : Option Nat) (l1 : Int32) (l2 : Int32) (h : ag_H) : ag_run gT (d + 1) 164 [.inr l0, .inl l1, .inl l2] h = f164 (ag_run gT d)  l0 l1 l2 h := by
  show ag_out 1 (ag_run gT d) t164 4000 0 [some (.inr l0), some (.inl l1), some (.inl l2), none, none, none, none, none] [] h = _
  rw [ag_out_top, i164]
def f165_103 (call : Nat → List ag_V → ag_H → ag_R)  (s0 : Int32) (h : ag_H) : ag_R :=
  some (.inl (some (.inl s0)), h)
def f165_83 (call : Nat → List ag_V → ag_H → ag_R)  (l0 : Option Nat) (l5 : Int32) (h : ag_H) : ag_R :=
  ag_at h l0 11 fun a1 _ => ag_bI (call 149 [.inr (some a1), .inl l5, .inl (ag_lit 3), .inl (ag_lit 4), .inl (ag_lit 2)] h) fun x3 h2 =>
  if x3 = (ag_lit 0) then
    ag_gI h2 l0 11 21 fun x4 =>
    f165_103 call x4 h2
  else
    f165_103 call (ag_lit 0) h2
def f165_44 (call : Nat → List ag_V → ag_H → ag_R)  (l0 : Option Nat) (l1 : Int32) (l2 : Int32) (l3 : Int32) (s0 : Int32) (h : ag_H) : ag_R :=
  ag_at h l0 11 fun a1 _ => ag_bV (call 139 [.inr (some a1)] h) fun h2 =>
  if s0 = (ag_lit 0) then
    f165_83 call l0 (ag_lit 4) h2
  else
    ag_at h2 l0 11 fun a3 _ => ag_bI (call 122 [.inr (some a3), .inl l2] h2) fun x5 h4 =>
    ag_at h4 l0 11 fun a6 _ => ag_bV (call 123 [.inr (some a6), .inl l2, .inl x5] h4) fun h7 =>
    ag_at h7 l0 11 fun a8 _ => ag_bI (call 163 [.inr (some a8), .inl l1, .inl l2, .inl x5, .inl l3] h7) fun x10 h9 =>
    f165_83 call l0 x10 h9
def f165_43 (call : Nat → List ag_V → ag_H → ag_R)  (l0 : Option Nat) (l1 : Int32) (l2 : Int32) (l3 : Int32) (h : ag_H) : ag_R :=
  f165_44 call l0 l1 l2 l3 (ag_lit 0) h
/-- NameSpacesModel.mount(III)I -/
def f165 (call : Nat → List ag_V → ag_H → ag_R)  (l0 : Option Nat) (l1 : Int32) (l2 : Int32) (l3 : Int32) (h : ag_H) : ag_R :=
  ag_at h l0 11 fun a1 _ => ag_bI (call 144 [.inr (some a1), .inl l1] h) fun x3 h2 =>
  if x3 = (ag_lit 0) then
    ag_pF h2 l0 11 41 (.inl (ag_lit 1)) fun h11 =>
    some (.inl (some (.inl (ag_lit 0))), h11)
  else
    ag_at h2 l0 11 fun a4 _ => ag_bI (call 138 [.inr (some a4), .inl (ag_lit 0)] h2) fun x6 h5 =>
    if x6 = (ag_lit 0) then
      f165_43 call l0 l1 l2 l3 h5
    else
      ag_bI (call 160 [.inl l3] h5) fun x8 h7 =>
      if x8 = (ag_lit 0) then
        f165_43 call l0 l1 l2 l3 h7
      else
        ag_bI (call 114 [.inl l2, .inl (ag_lit 0), .inl (ag_lit 1)] h7) fun x10 h9 =>
        if x10 = (ag_lit 0) then
          f165_44 call l0 l1 l2 l3 (ag_lit 1) h9
        else
          f165_43 call l0 l1 l2 l3 h9
set_option maxRecDepth 100000 in
set_option maxHeartbeats 4000000 in
theorem i165 (call : Nat → List ag_V → ag_H → ag_R) (B : ag_K4) (l0 : Option Nat) (l1 : Int32) (l2 : Int32) (l3 : Int32) (h : ag_H) : ag_in 1 call B t165 0 [some (.inr l0), some (.inl l1), some (.inl l2), some (.inl l3), none, none, none] [] h = f165 call  l0 l1 l2 l3 h := by
  rfl
set_option maxRecDepth 100000 in
set_option maxHeartbeats 4000000 in
theorem r165 (d : Nat) (l0 : Option Nat) (l1 : Int32) (l2 : Int32) (l3 : Int32) (h : ag_H) : ag_run gT (d + 1) 165 [.inr l0, .inl l1, .inl l2, .inl l3] h = f165 (ag_run gT d)  l0 l1 l2 l3 h := by
  show ag_out 1 (ag_run gT d) t165 4000 0 [some (.inr l0), some (.inl l1), some (.inl l2), some (.inl l3), none, none, none] [] h = _
  rw [ag_out_top, i165]
def f166_96 (call : Nat → List ag_V → ag_H → ag_R) (b27 : Option Nat → Int32 → Int32 → Int32 → ag_H → ag_R) (b96 : Option Nat → Int32 → Int32 → Int32 → Int32 → ag_H → ag_R) (l0 : Option Nat) (l1 : Int32) (l3 : Int32) (l4 : Int32) (l5 : Int32) (h : ag_H) : ag_R :=
  if (ag_lit 3) ≤ l5 then
    b27 l0 l1 l3 (l4 + ag_lit 1) h
  else
    ag_gR h l0 11 26 fun x1 =>
    ag_gR h l0 11 26 fun x2 =>
    ag_xI h x2 100 ((((ag_lit 3) * l4) + (ag_lit 3)) + l5) fun x3 =>
    ag_xP h x1 100 (((ag_lit 3) * l4) + l5) (.inl x3) fun h4 =>
    ag_gR h4 l0 11 27 fun x5 =>
    ag_gR h4 l0 11 27 fun x6 =>
    ag_xI h4 x6 100 ((((ag_lit 3) * l4) + (ag_lit 3)) + l5) fun x7 =>
    ag_xP h4 x5 100 (((ag_lit 3) * l4) + l5) (.inl x7) fun h8 =>
    ag_gR h8 l0 11 28 fun x9 =>
    ag_gR h8 l0 11 28 fun x10 =>
    ag_xI h8 x10 102 ((((ag_lit 3) * l4) + (ag_lit 3)) + l5) fun x11 =>
    ag_isB x11 <| ag_xP h8 x9 102 (((ag_lit 3) * l4) + l5) (.inl x11) fun h12 =>
    b96 l0 l1 l3 l4 (l5 + ag_lit 1) h12
def f166_27 (call : Nat → List ag_V → ag_H → ag_R) (b27 : Option Nat → Int32 → Int32 → Int32 → ag_H → ag_R) (b96 : Option Nat → Int32 → Int32 → Int32 → Int32 → ag_H → ag_R) (l0 : Option Nat) (l1 : Int32) (l3 : Int32) (l4 : Int32) (h : ag_H) : ag_R :=
  ag_gR h l0 11 22 fun x1 =>
  ag_gR h l0 11 30 fun x2 =>
  ag_xI h x2 100 l1 fun x3 =>
  ag_xI h x1 100 x3 fun x4 =>
  if (l3 + x4) ≤ l4 then
    some (.inl none, h)
  else
    ag_gR h l0 11 23 fun x5 =>
    ag_gR h l0 11 23 fun x6 =>
    ag_xI h x6 100 (l4 + (ag_lit 1)) fun x7 =>
    ag_xP h x5 100 l4 (.inl x7) fun h8 =>
    ag_gR h8 l0 11 24 fun x9 =>
    ag_gR h8 l0 11 24 fun x10 =>
    ag_xI h8 x10 100 (l4 + (ag_lit 1)) fun x11 =>
    ag_xP h8 x9 100 l4 (.inl x11) fun h12 =>
    ag_gR h12 l0 11 25 fun x13 =>
    ag_gR h12 l0 11 25 fun x14 =>
    ag_xI h12 x14 100 (l4 + (ag_lit 1)) fun x15 =>
    ag_xP h12 x13 100 l4 (.inl x15) fun h16 =>
    f166_96 call b27 b96 l0 l1 l3 l4 (ag_lit 0) h16
/-- NameSpacesModel.dropPlace(II)V -/
def f166 (call : Nat → List ag_V → ag_H → ag_R) (b27 : Option Nat → Int32 → Int32 → Int32 → ag_H → ag_R) (b96 : Option Nat → Int32 → Int32 → Int32 → Int32 → ag_H → ag_R) (l0 : Option Nat) (l1 : Int32) (l2 : Int32) (h : ag_H) : ag_R :=
  ag_gR h l0 11 30 fun x1 =>
  ag_xI h x1 100 l1 fun x2 =>
  ag_gR h l0 11 22 fun x3 =>
  ag_gR h l0 11 30 fun x4 =>
  ag_xI h x4 100 l1 fun x5 =>
  ag_xI h x3 100 x5 fun x6 =>
  ag_xP h x3 100 x5 (.inl (x6 - (ag_lit 1))) fun h7 =>
  f166_27 call b27 b96 l0 l1 ((ag_lit 4) * x2) l2 h7
def g166 (call : Nat → List ag_V → ag_H → ag_R) : Nat → (Option Nat → Int32 → Int32 → Int32 → ag_H → ag_R) × (Option Nat → Int32 → Int32 → Int32 → Int32 → ag_H → ag_R)
  | 0 => (fun _ _ _ _ _ => none, fun _ _ _ _ _ _ => none)
  | n + 1 => (f166_27 call (g166 call n).1 (g166 call n).2, f166_96 call (g166 call n).1 (g166 call n).2)
set_option maxRecDepth 100000 in
set_option maxHeartbeats 4000000 in
theorem i166_27 (call : Nat → List ag_V → ag_H → ag_R) (B : ag_K4) (l0 : Option Nat) (l1 : Int32) (l3 : Int32) (l4 : Int32) (h : ag_H) : ag_in 0 call B t166 27 [some (.inr l0), some (.inl l1), none, some (.inl l3), some (.inl l4), none] [] h = f166_27 call (fun (l0 : Option Nat) (l1 : Int32) (l3 : Int32) (l4 : Int32) (h : ag_H) => B 27 [some (.inr l0), some (.inl l1), none, some (.inl l3), some (.inl l4), none] [] h) (fun (l0 : Option Nat) (l1 : Int32) (l3 : Int32) (l4 : Int32) (l5 : Int32) (h : ag_H) => B 96 [some (.inr l0), some (.inl l1), none, some (.inl l3), some (.inl l4), some (.inl l5)] [] h) l0 l1 l3 l4 h := by
  rfl
set_option maxRecDepth 100000 in
set_option maxHeartbeats 4000000 in
theorem i166_96 (call : Nat → List ag_V → ag_H → ag_R) (B : ag_K4) (l0 : Option Nat) (l1 : Int32) (l3 : Int32) (l4 : Int32) (l5 : Int32) (h : ag_H) : ag_in 0 call B t166 96 [some (.inr l0), some (.inl l1), none, some (.inl l3), some (.inl l4), some (.inl l5)] [] h = f166_96 call (fun (l0 : Option Nat) (l1 : Int32) (l3 : Int32) (l4 : Int32) (h : ag_H) => B 27 [some (.inr l0), some (.inl l1), none, some (.inl l3), some (.inl l4), none] [] h) (fun (l0 : Option Nat) (l1 : Int32) (l3 : Int32) (l4 : Int32) (l5 : Int32) (h : ag_H) => B 96 [some (.inr l0), some (.inl l1), none, some (.inl l3), some (.inl l4), some (.inl l5)] [] h) l0 l1 l3 l4 l5 h := by
  rfl
set_option maxRecDepth 100000 in
set_option maxHeartbeats 4000000 in
theorem i166 (call : Nat → List ag_V → ag_H → ag_R) (B : ag_K4) (l0 : Option Nat) (l1 : Int32) (l2 : Int32) (h : ag_H) : ag_in 0 call B t166 0 [some (.inr l0), some (.inl l1), some (.inl l2), none, none, none] [] h = f166 call (fun (l0 : Option Nat) (l1 : Int32) (l3 : Int32) (l4 : Int32) (h : ag_H) => B 27 [some (.inr l0), some (.inl l1), none, some (.inl l3), some (.inl l4), none] [] h) (fun (l0 : Option Nat) (l1 : Int32) (l3 : Int32) (l4 : Int32) (l5 : Int32) (h : ag_H) => B 96 [some (.inr l0), some (.inl l1), none, some (.inl l3), some (.inl l4), some (.inl l5)] [] h) l0 l1 l2 h := by
  rfl
set_option maxRecDepth 100000 in
set_option maxHeartbeats 4000000 in
theorem o166 (call : Nat → List ag_V → ag_H → ag_R) : ∀ n : Nat, (fun (l0 : Option Nat) (l1 : Int32) (l3 : Int32) (l4 : Int32) (h : ag_H) => (ag_out 0 call t166 n) 27 [some (.inr l0), some (.inl l1), none, some (.inl l3), some (.inl l4), none] [] h) = (g166 call n).1 ∧ (fun (l0 : Option Nat) (l1 : Int32) (l3 : Int32) (l4 : Int32) (l5 : Int32) (h : ag_H) => (ag_out 0 call t166 n) 96 [some (.inr l0), some (.inl l1), none, some (.inl l3), some (.inl l4), some (.inl l5)] [] h) = (g166 call n).2 := by
  intro n
  induction n with
  | zero => exact ⟨rfl, rfl⟩
  | succ n ih =>
    obtain ⟨e0, e1⟩ := ih
    refine ⟨?_, ?_⟩
    · funext l0 l1 l3 l4 h
      show ag_in 0 call (ag_out 0 call t166 n) t166 27 [some (.inr l0), some (.inl l1), none, some (.inl l3), some (.inl l4), none] [] h = f166_27 call (g166 call n).1 (g166 call n).2 l0 l1 l3 l4 h
      rw [i166_27, e0, e1]
    · funext l0 l1 l3 l4 l5 h
      show ag_in 0 call (ag_out 0 call t166 n) t166 96 [some (.inr l0), some (.inl l1), none, some (.inl l3), some (.inl l4), some (.inl l5)] [] h = f166_96 call (g166 call n).1 (g166 call n).2 l0 l1 l3 l4 l5 h
      rw [i166_96, e0, e1]
set_option maxRecDepth 100000 in
set_option maxHeartbeats 4000000 in
theorem r166 (d : Nat) (l0 : Option Nat) (l1 : Int32) (l2 : Int32) (h : ag_H) : ag_run gT (d + 1) 166 [.inr l0, .inl l1, .inl l2] h = f166 (ag_run gT d) (g166 (ag_run gT d) 3999).1 (g166 (ag_run gT d) 3999).2 l0 l1 l2 h := by
  show ag_out 0 (ag_run gT d) t166 4000 0 [some (.inr l0), some (.inl l1), some (.inl l2), none, none, none] [] h = _
  rw [ag_out_top, i166, (o166 (ag_run gT d) 3999).1, (o166 (ag_run gT d) 3999).2]
def f167_129 (call : Nat → List ag_V → ag_H → ag_R)  (s0 : Int32) (h : ag_H) : ag_R :=
  some (.inl (some (.inl s0)), h)
def f167_103 (call : Nat → List ag_V → ag_H → ag_R)  (l0 : Option Nat) (l1 : Int32) (l3 : Int32) (h : ag_H) : ag_R :=
  ag_at h l0 11 fun a1 _ => ag_bI (call 149 [.inr (some a1), .inl l3, .inl (ag_lit 2), .inl (ag_lit 3), .inl (ag_lit 0)] h) fun x3 h2 =>
  if x3 = (ag_lit 0) then
    ag_gR h2 l0 11 22 fun x4 =>
    ag_gR h2 l0 11 30 fun x5 =>
    ag_xI h2 x5 100 l1 fun x6 =>
    ag_xI h2 x4 100 x6 fun x7 =>
    f167_129 call x7 h2
  else
    f167_129 call (ag_lit 0) h2
def f167_90 (call : Nat → List ag_V → ag_H → ag_R)  (l0 : Option Nat) (l1 : Int32) (s0 : Int32) (h : ag_H) : ag_R :=
  ag_gI h l0 11 38 fun x1 =>
  ag_gI h l0 11 39 fun x2 =>
  ag_at h l0 11 fun a3 _ => ag_bV (call 132 [.inr (some a3), .inl x1, .inl x2] h) fun h4 =>
  f167_103 call l0 l1 s0 h4
def f167_80 (call : Nat → List ag_V → ag_H → ag_R)  (l0 : Option Nat) (l1 : Int32) (l4 : Int32) (h : ag_H) : ag_R :=
  if (ag_lit 0) ≤ l4 then
    f167_90 call l0 l1 (ag_lit 0) h
  else
    f167_90 call l0 l1 (ag_lit 2) h
def f167_42 (call : Nat → List ag_V → ag_H → ag_R)  (l0 : Option Nat) (l1 : Int32) (s0 : Int32) (h : ag_H) : ag_R :=
  if s0 = (ag_lit 0) then
    ag_gI h l0 11 38 fun x1 =>
    ag_gI h l0 11 39 fun x2 =>
    ag_at h l0 11 fun a3 _ => ag_bI (call 140 [.inr (some a3), .inl l1, .inl x1, .inl x2] h) fun x5 h4 =>
    if x5 < (ag_lit 0) then
      f167_80 call l0 l1 x5 h4
    else
      ag_at h4 l0 11 fun a6 _ => ag_bV (call 162 [.inr (some a6), .inl x5] h4) fun h7 =>
      ag_at h7 l0 11 fun a8 _ => ag_bV (call 166 [.inr (some a8), .inl l1, .inl x5] h7) fun h9 =>
      f167_80 call l0 l1 x5 h9
  else
    f167_103 call l0 l1 s0 h
/-- NameSpacesModel.unmount(I)I -/
def f167 (call : Nat → List ag_V → ag_H → ag_R)  (l0 : Option Nat) (l1 : Int32) (h : ag_H) : ag_R :=
  ag_at h l0 11 fun a1 _ => ag_bI (call 144 [.inr (some a1), .inl l1] h) fun x3 h2 =>
  if x3 = (ag_lit 0) then
    ag_pF h2 l0 11 41 (.inl (ag_lit 1)) fun h13 =>
    some (.inl (some (.inl (ag_lit 0))), h13)
  else
    ag_at h2 l0 11 fun a4 _ => ag_bI (call 138 [.inr (some a4), .inl (ag_lit 0)] h2) fun x6 h5 =>
    ag_at h5 l0 11 fun a7 _ => ag_bV (call 139 [.inr (some a7)] h5) fun h8 =>
    if x6 = (ag_lit 0) then
      f167_42 call l0 l1 (ag_lit 4) h8
    else
      ag_gI h8 l0 11 4 fun x9 =>
      ag_at h8 l0 11 fun a10 _ => ag_bI (call 141 [.inr (some a10), .inl l1, .inl x9] h8) fun x12 h11 =>
      f167_42 call l0 l1 x12 h11
set_option maxRecDepth 100000 in
set_option maxHeartbeats 4000000 in
theorem i167 (call : Nat → List ag_V → ag_H → ag_R) (B : ag_K4) (l0 : Option Nat) (l1 : Int32) (h : ag_H) : ag_in 1 call B t167 0 [some (.inr l0), some (.inl l1), none, none, none] [] h = f167 call  l0 l1 h := by
  rfl
set_option maxRecDepth 100000 in
set_option maxHeartbeats 4000000 in
theorem r167 (d : Nat) (l0 : Option Nat) (l1 : Int32) (h : ag_H) : ag_run gT (d + 1) 167 [.inr l0, .inl l1] h = f167 (ag_run gT d)  l0 l1 h := by
  show ag_out 1 (ag_run gT d) t167 4000 0 [some (.inr l0), some (.inl l1), none, none, none] [] h = _
  rw [ag_out_top, i167]
def f168_35 (call : Nat → List ag_V → ag_H → ag_R) (b4 : Option Nat → Int32 → Int32 → Int32 → ag_H → ag_R) (l0 : Option Nat) (l1 : Int32) (l3 : Int32) (s0 : Int32) (h : ag_H) : ag_R :=
  b4 l0 l1 s0 (l3 + ag_lit 1) h
def f168_34 (call : Nat → List ag_V → ag_H → ag_R) (b4 : Option Nat → Int32 → Int32 → Int32 → ag_H → ag_R) (l0 : Option Nat) (l1 : Int32) (l2 : Int32) (l3 : Int32) (h : ag_H) : ag_R :=
  f168_35 call b4 l0 l1 l3 l2 h
def f168_4 (call : Nat → List ag_V → ag_H → ag_R) (b4 : Option Nat → Int32 → Int32 → Int32 → ag_H → ag_R) (l0 : Option Nat) (l1 : Int32) (l2 : Int32) (l3 : Int32) (h : ag_H) : ag_R :=
  if (ag_lit 4) ≤ l3 then
    some (.inl (some (.inl l2)), h)
  else
    ag_gR h l0 11 29 fun x1 =>
    ag_xI h x1 102 l3 fun x2 =>
    if x2 = (ag_lit 0) then
      f168_34 call b4 l0 l1 l2 l3 h
    else
      ag_gR h l0 11 30 fun x3 =>
      ag_xI h x3 100 l3 fun x4 =>
      if x4 = l1 then
        f168_35 call b4 l0 l1 l3 (l2 + (ag_lit 1)) h
      else
        f168_34 call b4 l0 l1 l2 l3 h
/-- NameSpacesModel.users(I)I -/
def f168 (call : Nat → List ag_V → ag_H → ag_R) (b4 : Option Nat → Int32 → Int32 → Int32 → ag_H → ag_R) (l0 : Option Nat) (l1 : Int32) (h : ag_H) : ag_R :=
  f168_4 call b4 l0 l1 (ag_lit 0) (ag_lit 0) h
def g168 (call : Nat → List ag_V → ag_H → ag_R) : Nat → Option Nat → Int32 → Int32 → Int32 → ag_H → ag_R
  | 0 => fun _ _ _ _ _ => none
  | n + 1 => f168_4 call (g168 call n)
set_option maxRecDepth 100000 in
set_option maxHeartbeats 4000000 in
theorem i168_4 (call : Nat → List ag_V → ag_H → ag_R) (B : ag_K4) (l0 : Option Nat) (l1 : Int32) (l2 : Int32) (l3 : Int32) (h : ag_H) : ag_in 1 call B t168 4 [some (.inr l0), some (.inl l1), some (.inl l2), some (.inl l3)] [] h = f168_4 call (fun (l0 : Option Nat) (l1 : Int32) (l2 : Int32) (l3 : Int32) (h : ag_H) => B 4 [some (.inr l0), some (.inl l1), some (.inl l2), some (.inl l3)] [] h) l0 l1 l2 l3 h := by
  rfl
set_option maxRecDepth 100000 in
set_option maxHeartbeats 4000000 in
theorem i168 (call : Nat → List ag_V → ag_H → ag_R) (B : ag_K4) (l0 : Option Nat) (l1 : Int32) (h : ag_H) : ag_in 1 call B t168 0 [some (.inr l0), some (.inl l1), none, none] [] h = f168 call (fun (l0 : Option Nat) (l1 : Int32) (l2 : Int32) (l3 : Int32) (h : ag_H) => B 4 [some (.inr l0), some (.inl l1), some (.inl l2), some (.inl l3)] [] h) l0 l1 h := by
  rfl
set_option maxRecDepth 100000 in
set_option maxHeartbeats 4000000 in
theorem o168 (call : Nat → List ag_V → ag_H → ag_R) : ∀ n : Nat, (fun (l0 : Option Nat) (l1 : Int32) (l2 : Int32) (l3 : Int32) (h : ag_H) => (ag_out 1 call t168 n) 4 [some (.inr l0), some (.inl l1), some (.inl l2), some (.inl l3)] [] h) = g168 call n := by
  intro n
  induction n with
  | zero => rfl
  | succ n ih =>
    funext l0 l1 l2 l3 h
    show ag_in 1 call (ag_out 1 call t168 n) t168 4 [some (.inr l0), some (.inl l1), some (.inl l2), some (.inl l3)] [] h = f168_4 call (g168 call n) l0 l1 l2 l3 h
    rw [i168_4, ih]
set_option maxRecDepth 100000 in
set_option maxHeartbeats 4000000 in
theorem r168 (d : Nat) (l0 : Option Nat) (l1 : Int32) (h : ag_H) : ag_run gT (d + 1) 168 [.inr l0, .inl l1] h = f168 (ag_run gT d) (g168 (ag_run gT d) 3999) l0 l1 h := by
  show ag_out 1 (ag_run gT d) t168 4000 0 [some (.inr l0), some (.inl l1), none, none] [] h = _
  rw [ag_out_top, i168, o168]
def f169_25 (call : Nat → List ag_V → ag_H → ag_R) (b4 : Option Nat → Int32 → Int32 → ag_H → ag_R) (l0 : Option Nat) (l2 : Int32) (s0 : Int32) (h : ag_H) : ag_R :=
  b4 l0 s0 (l2 + ag_lit 1) h
def f169_4 (call : Nat → List ag_V → ag_H → ag_R) (b4 : Option Nat → Int32 → Int32 → ag_H → ag_R) (l0 : Option Nat) (l1 : Int32) (l2 : Int32) (h : ag_H) : ag_R :=
  if (ag_lit 4) ≤ l2 then
    some (.inl (some (.inl l1)), h)
  else
    ag_gR h l0 11 29 fun x1 =>
    ag_xI h x1 102 l2 fun x2 =>
    if x2 = (ag_lit 0) then
      f169_25 call b4 l0 l2 l1 h
    else
      f169_25 call b4 l0 l2 (l1 + (ag_lit 1)) h
/-- NameSpacesModel.processes()I -/
def f169 (call : Nat → List ag_V → ag_H → ag_R) (b4 : Option Nat → Int32 → Int32 → ag_H → ag_R) (l0 : Option Nat) (h : ag_H) : ag_R :=
  f169_4 call b4 l0 (ag_lit 0) (ag_lit 0) h
def g169 (call : Nat → List ag_V → ag_H → ag_R) : Nat → Option Nat → Int32 → Int32 → ag_H → ag_R
  | 0 => fun _ _ _ _ => none
  | n + 1 => f169_4 call (g169 call n)
set_option maxRecDepth 100000 in
set_option maxHeartbeats 4000000 in
theorem i169_4 (call : Nat → List ag_V → ag_H → ag_R) (B : ag_K4) (l0 : Option Nat) (l1 : Int32) (l2 : Int32) (h : ag_H) : ag_in 1 call B t169 4 [some (.inr l0), some (.inl l1), some (.inl l2)] [] h = f169_4 call (fun (l0 : Option Nat) (l1 : Int32) (l2 : Int32) (h : ag_H) => B 4 [some (.inr l0), some (.inl l1), some (.inl l2)] [] h) l0 l1 l2 h := by
  rfl
set_option maxRecDepth 100000 in
set_option maxHeartbeats 4000000 in
theorem i169 (call : Nat → List ag_V → ag_H → ag_R) (B : ag_K4) (l0 : Option Nat) (h : ag_H) : ag_in 1 call B t169 0 [some (.inr l0), none, none] [] h = f169 call (fun (l0 : Option Nat) (l1 : Int32) (l2 : Int32) (h : ag_H) => B 4 [some (.inr l0), some (.inl l1), some (.inl l2)] [] h) l0 h := by
  rfl
set_option maxRecDepth 100000 in
set_option maxHeartbeats 4000000 in
theorem o169 (call : Nat → List ag_V → ag_H → ag_R) : ∀ n : Nat, (fun (l0 : Option Nat) (l1 : Int32) (l2 : Int32) (h : ag_H) => (ag_out 1 call t169 n) 4 [some (.inr l0), some (.inl l1), some (.inl l2)] [] h) = g169 call n := by
  intro n
  induction n with
  | zero => rfl
  | succ n ih =>
    funext l0 l1 l2 h
    show ag_in 1 call (ag_out 1 call t169 n) t169 4 [some (.inr l0), some (.inl l1), some (.inl l2)] [] h = f169_4 call (g169 call n) l0 l1 l2 h
    rw [i169_4, ih]
set_option maxRecDepth 100000 in
set_option maxHeartbeats 4000000 in
theorem r169 (d : Nat) (l0 : Option Nat) (h : ag_H) : ag_run gT (d + 1) 169 [.inr l0] h = f169 (ag_run gT d) (g169 (ag_run gT d) 3999) l0 h := by
  show ag_out 1 (ag_run gT d) t169 4000 0 [some (.inr l0), none, none] [] h = _
  rw [ag_out_top, i169, o169]
def f170_201 (call : Nat → List ag_V → ag_H → ag_R) (b40 : Option Nat → Int32 → Int32 → Int32 → ag_H → ag_R) (b58 : Option Nat → Int32 → Int32 → Int32 → Int32 → ag_H → ag_R) (b132 : Option Nat → Int32 → Int32 → Int32 → Int32 → ag_H → ag_R) (b201 : Option Nat → Int32 → Int32 → Int32 → Int32 → Int32 → Int32 → Int32 → ag_H → ag_R) (l0 : Option Nat) (l3 : Int32) (l4 : Int32) (l5 : Int32) (l6 : Int32) (l7 : Int32) (l8 : Int32) (l9 : Int32) (h : ag_H) : ag_R :=
  ag_gR h l0 11 25 fun x1 =>
  ag_xI h x1 100 l7 fun x2 =>
  if x2 ≤ l9 then
    b132 l0 l3 l4 l5 (l6 + ag_lit 1) h
  else
    ag_gR h l0 11 26 fun x3 =>
    ag_xI h x3 100 (((ag_lit 3) * l7) + l9) fun x4 =>
    ag_gR h l0 11 27 fun x5 =>
    ag_xI h x5 100 (((ag_lit 3) * l7) + l9) fun x6 =>
    ag_at h l0 11 fun a7 _ => ag_bV (call 125 [.inr (some a7), .inl x4, .inl x6, .inl (ag_lit (-1))] h) fun h8 =>
    ag_gR h8 l0 11 26 fun x9 =>
    ag_xI h8 x9 100 (((ag_lit 3) * l7) + l9) fun x10 =>
    ag_gI h8 l0 11 40 fun x11 =>
    ag_gR h8 l0 11 28 fun x12 =>
    ag_xI h8 x12 102 (((ag_lit 3) * l7) + l9) fun x13 =>
    ag_at h8 l0 11 fun a14 _ => ag_bV (call 161 [.inr (some a14), .inl l8, .inl l9, .inl x10, .inl x11, .inl x13] h8) fun h15 =>
    b201 l0 l3 l4 l5 l6 l7 l8 (l9 + ag_lit 1) h15
def f170_132 (call : Nat → List ag_V → ag_H → ag_R) (b40 : Option Nat → Int32 → Int32 → Int32 → ag_H → ag_R) (b58 : Option Nat → Int32 → Int32 → Int32 → Int32 → ag_H → ag_R) (b132 : Option Nat → Int32 → Int32 → Int32 → Int32 → ag_H → ag_R) (b201 : Option Nat → Int32 → Int32 → Int32 → Int32 → Int32 → Int32 → Int32 → ag_H → ag_R) (l0 : Option Nat) (l3 : Int32) (l4 : Int32) (l5 : Int32) (l6 : Int32) (h : ag_H) : ag_R :=
  ag_gR h l0 11 22 fun x1 =>
  ag_xI h x1 100 l5 fun x2 =>
  if x2 ≤ l6 then
    some (.inl (some (.inl l3)), h)
  else
    ag_gR h l0 11 23 fun x3 =>
    ag_gR h l0 11 23 fun x4 =>
    ag_xI h x4 100 (((ag_lit 4) * l5) + l6) fun x5 =>
    ag_xP h x3 100 (((ag_lit 4) * l4) + l6) (.inl x5) fun h6 =>
    ag_gR h6 l0 11 24 fun x7 =>
    ag_gR h6 l0 11 24 fun x8 =>
    ag_xI h6 x8 100 (((ag_lit 4) * l5) + l6) fun x9 =>
    ag_xP h6 x7 100 (((ag_lit 4) * l4) + l6) (.inl x9) fun h10 =>
    ag_gR h10 l0 11 25 fun x11 =>
    ag_xP h10 x11 100 (((ag_lit 4) * l4) + l6) (.inl (ag_lit 0)) fun h12 =>
    f170_201 call b40 b58 b132 b201 l0 l3 l4 l5 l6 (((ag_lit 4) * l5) + l6) (((ag_lit 4) * l4) + l6) (ag_lit 0) h12
def f170_100 (call : Nat → List ag_V → ag_H → ag_R) (b40 : Option Nat → Int32 → Int32 → Int32 → ag_H → ag_R) (b58 : Option Nat → Int32 → Int32 → Int32 → Int32 → ag_H → ag_R) (b132 : Option Nat → Int32 → Int32 → Int32 → Int32 → ag_H → ag_R) (b201 : Option Nat → Int32 → Int32 → Int32 → Int32 → Int32 → Int32 → Int32 → ag_H → ag_R) (l0 : Option Nat) (l1 : Int32) (l2 : Int32) (l3 : Int32) (l4 : Int32) (s0 : Option Nat) (s1 : Int32) (s2 : Int32) (h : ag_H) : ag_R :=
  ag_xP h s0 100 s1 (.inl s2) fun h1 =>
  if l2 = (ag_lit 0) then
    ag_gR h1 l0 11 30 fun x2 =>
    ag_xI h1 x2 100 l1 fun x3 =>
    ag_gR h1 l0 11 22 fun x4 =>
    ag_gR h1 l0 11 22 fun x5 =>
    ag_xI h1 x5 100 x3 fun x6 =>
    ag_xP h1 x4 100 l4 (.inl x6) fun h7 =>
    f170_132 call b40 b58 b132 b201 l0 l3 l4 x3 (ag_lit 0) h7
  else
    some (.inl (some (.inl l3)), h1)
def f170_58 (call : Nat → List ag_V → ag_H → ag_R) (b40 : Option Nat → Int32 → Int32 → Int32 → ag_H → ag_R) (b58 : Option Nat → Int32 → Int32 → Int32 → Int32 → ag_H → ag_R) (b132 : Option Nat → Int32 → Int32 → Int32 → Int32 → ag_H → ag_R) (b201 : Option Nat → Int32 → Int32 → Int32 → Int32 → Int32 → Int32 → Int32 → ag_H → ag_R) (l0 : Option Nat) (l1 : Int32) (l2 : Int32) (l3 : Int32) (l4 : Int32) (h : ag_H) : ag_R :=
  ag_at h l0 11 fun a1 _ => ag_bI (call 168 [.inr (some a1), .inl l4] h) fun x3 h2 =>
  if x3 ≤ (ag_lit 0) then
    ag_gR h2 l0 11 29 fun x4 =>
    ag_isB (ag_lit 1) <| ag_xP h2 x4 102 l3 (.inl (ag_lit 1)) fun h5 =>
    ag_gR h5 l0 11 30 fun x6 =>
    if l2 = (ag_lit 0) then
      f170_100 call b40 b58 b132 b201 l0 l1 l2 l3 l4 x6 l3 l4 h5
    else
      ag_gR h5 l0 11 30 fun x7 =>
      ag_xI h5 x7 100 l1 fun x8 =>
      f170_100 call b40 b58 b132 b201 l0 l1 l2 l3 l4 x6 l3 x8 h5
  else
    b58 l0 l1 l2 l3 (l4 + ag_lit 1) h2
def f170_40 (call : Nat → List ag_V → ag_H → ag_R) (b40 : Option Nat → Int32 → Int32 → Int32 → ag_H → ag_R) (b58 : Option Nat → Int32 → Int32 → Int32 → Int32 → ag_H → ag_R) (b132 : Option Nat → Int32 → Int32 → Int32 → Int32 → ag_H → ag_R) (b201 : Option Nat → Int32 → Int32 → Int32 → Int32 → Int32 → Int32 → Int32 → ag_H → ag_R) (l0 : Option Nat) (l1 : Int32) (l2 : Int32) (l3 : Int32) (h : ag_H) : ag_R :=
  ag_gR h l0 11 29 fun x1 =>
  ag_xI h x1 102 l3 fun x2 =>
  if x2 = (ag_lit 0) then
    f170_58 call b40 b58 b132 b201 l0 l1 l2 l3 (ag_lit 0) h
  else
    b40 l0 l1 l2 (l3 + ag_lit 1) h
def f170_26 (call : Nat → List ag_V → ag_H → ag_R) (b40 : Option Nat → Int32 → Int32 → Int32 → ag_H → ag_R) (b58 : Option Nat → Int32 → Int32 → Int32 → Int32 → ag_H → ag_R) (b132 : Option Nat → Int32 → Int32 → Int32 → Int32 → ag_H → ag_R) (b201 : Option Nat → Int32 → Int32 → Int32 → Int32 → Int32 → Int32 → Int32 → ag_H → ag_R) (l0 : Option Nat) (l1 : Int32) (l2 : Int32) (s0 : Option Nat) (s1 : Int32) (h : ag_H) : ag_R :=
  ag_pF h s0 11 41 (.inl s1) fun h1 =>
  ag_gI h1 l0 11 41 fun x2 =>
  if x2 = (ag_lit 0) then
    f170_40 call b40 b58 b132 b201 l0 l1 l2 (ag_lit 0) h1
  else
    some (.inl (some (.inl (ag_lit 0))), h1)
/-- NameSpacesModel.fork(IZ)I -/
def f170 (call : Nat → List ag_V → ag_H → ag_R) (b40 : Option Nat → Int32 → Int32 → Int32 → ag_H → ag_R) (b58 : Option Nat → Int32 → Int32 → Int32 → Int32 → ag_H → ag_R) (b132 : Option Nat → Int32 → Int32 → Int32 → Int32 → ag_H → ag_R) (b201 : Option Nat → Int32 → Int32 → Int32 → Int32 → Int32 → Int32 → Int32 → ag_H → ag_R) (l0 : Option Nat) (l1 : Int32) (l2 : Int32) (h : ag_H) : ag_R :=
  ag_at h l0 11 fun a1 _ => ag_bI (call 144 [.inr (some a1), .inl l1] h) fun x3 h2 =>
  if x3 = (ag_lit 0) then
    f170_26 call b40 b58 b132 b201 l0 l1 l2 l0 (ag_lit 1) h2
  else
    ag_at h2 l0 11 fun a4 _ => ag_bI (call 169 [.inr (some a4)] h2) fun x6 h5 =>
    if x6 = (ag_lit 4) then
      f170_26 call b40 b58 b132 b201 l0 l1 l2 l0 (ag_lit 2) h5
    else
      f170_26 call b40 b58 b132 b201 l0 l1 l2 l0 (ag_lit 0) h5
def g170 (call : Nat → List ag_V → ag_H → ag_R) : Nat → (Option Nat → Int32 → Int32 → Int32 → ag_H → ag_R) × (Option Nat → Int32 → Int32 → Int32 → Int32 → ag_H → ag_R) × (Option Nat → Int32 → Int32 → Int32 → Int32 → ag_H → ag_R) × (Option Nat → Int32 → Int32 → Int32 → Int32 → Int32 → Int32 → Int32 → ag_H → ag_R)
  | 0 => (fun _ _ _ _ _ => none, fun _ _ _ _ _ _ => none, fun _ _ _ _ _ _ => none, fun _ _ _ _ _ _ _ _ _ => none)
  | n + 1 => (f170_40 call (g170 call n).1 (g170 call n).2.1 (g170 call n).2.2.1 (g170 call n).2.2.2, f170_58 call (g170 call n).1 (g170 call n).2.1 (g170 call n).2.2.1 (g170 call n).2.2.2, f170_132 call (g170 call n).1 (g170 call n).2.1 (g170 call n).2.2.1 (g170 call n).2.2.2, f170_201 call (g170 call n).1 (g170 call n).2.1 (g170 call n).2.2.1 (g170 call n).2.2.2)
set_option maxRecDepth 100000 in
set_option maxHeartbeats 4000000 in
theorem i170_40 (call : Nat → List ag_V → ag_H → ag_R) (B : ag_K4) (l0 : Option Nat) (l1 : Int32) (l2 : Int32) (l3 : Int32) (h : ag_H) : ag_in 1 call B t170 40 [some (.inr l0), some (.inl l1), some (.inl l2), some (.inl l3), none, none, none, none, none, none] [] h = f170_40 call (fun (l0 : Option Nat) (l1 : Int32) (l2 : Int32) (l3 : Int32) (h : ag_H) => B 40 [some (.inr l0), some (.inl l1), some (.inl l2), some (.inl l3), none, none, none, none, none, none] [] h) (fun (l0 : Option Nat) (l1 : Int32) (l2 : Int32) (l3 : Int32) (l4 : Int32) (h : ag_H) => B 58 [some (.inr l0), some (.inl l1), some (.inl l2), some (.inl l3), some (.inl l4), none, none, none, none, none] [] h) (fun (l0 : Option Nat) (l3 : Int32) (l4 : Int32) (l5 : Int32) (l6 : Int32) (h : ag_H) => B 132 [some (.inr l0), none, none, some (.inl l3), some (.inl l4), some (.inl l5), some (.inl l6), none, none, none] [] h) (fun (l0 : Option Nat) (l3 : Int32) (l4 : Int32) (l5 : Int32) (l6 : Int32) (l7 : Int32) (l8 : Int32) (l9 : Int32) (h : ag_H) => B 201 [some (.inr l0), none, none, some (.inl l3), some (.inl l4), some (.inl l5), some (.inl l6), some (.inl l7), some (.inl l8), some (.inl l9)] [] h) l0 l1 l2 l3 h := by
  rfl
set_option maxRecDepth 100000 in
set_option maxHeartbeats 4000000 in
theorem i170_58 (call : Nat → List ag_V → ag_H → ag_R) (B : ag_K4) (l0 : Option Nat) (l1 : Int32) (l2 : Int32) (l3 : Int32) (l4 : Int32) (h : ag_H) : ag_in 1 call B t170 58 [some (.inr l0), some (.inl l1), some (.inl l2), some (.inl l3), some (.inl l4), none, none, none, none, none] [] h = f170_58 call (fun (l0 : Option Nat) (l1 : Int32) (l2 : Int32) (l3 : Int32) (h : ag_H) => B 40 [some (.inr l0), some (.inl l1), some (.inl l2), some (.inl l3), none, none, none, none, none, none] [] h) (fun (l0 : Option Nat) (l1 : Int32) (l2 : Int32) (l3 : Int32) (l4 : Int32) (h : ag_H) => B 58 [some (.inr l0), some (.inl l1), some (.inl l2), some (.inl l3), some (.inl l4), none, none, none, none, none] [] h) (fun (l0 : Option Nat) (l3 : Int32) (l4 : Int32) (l5 : Int32) (l6 : Int32) (h : ag_H) => B 132 [some (.inr l0), none, none, some (.inl l3), some (.inl l4), some (.inl l5), some (.inl l6), none, none, none] [] h) (fun (l0 : Option Nat) (l3 : Int32) (l4 : Int32) (l5 : Int32) (l6 : Int32) (l7 : Int32) (l8 : Int32) (l9 : Int32) (h : ag_H) => B 201 [some (.inr l0), none, none, some (.inl l3), some (.inl l4), some (.inl l5), some (.inl l6), some (.inl l7), some (.inl l8), some (.inl l9)] [] h) l0 l1 l2 l3 l4 h := by
  rfl
set_option maxRecDepth 100000 in
set_option maxHeartbeats 4000000 in
theorem i170_132 (call : Nat → List ag_V → ag_H → ag_R) (B : ag_K4) (l0 : Option Nat) (l3 : Int32) (l4 : Int32) (l5 : Int32) (l6 : Int32) (h : ag_H) : ag_in 1 call B t170 132 [some (.inr l0), none, none, some (.inl l3), some (.inl l4), some (.inl l5), some (.inl l6), none, none, none] [] h = f170_132 call (fun (l0 : Option Nat) (l1 : Int32) (l2 : Int32) (l3 : Int32) (h : ag_H) => B 40 [some (.inr l0), some (.inl l1), some (.inl l2), some (.inl l3), none, none, none, none, none, none] [] h) (fun (l0 : Option Nat) (l1 : Int32) (l2 : Int32) (l3 : Int32) (l4 : Int32) (h : ag_H) => B 58 [some (.inr l0), some (.inl l1), some (.inl l2), some (.inl l3), some (.inl l4), none, none, none, none, none] [] h) (fun (l0 : Option Nat) (l3 : Int32) (l4 : Int32) (l5 : Int32) (l6 : Int32) (h : ag_H) => B 132 [some (.inr l0), none, none, some (.inl l3), some (.inl l4), some (.inl l5), some (.inl l6), none, none, none] [] h) (fun (l0 : Option Nat) (l3 : Int32) (l4 : Int32) (l5 : Int32) (l6 : Int32) (l7 : Int32) (l8 : Int32) (l9 : Int32) (h : ag_H) => B 201 [some (.inr l0), none, none, some (.inl l3), some (.inl l4), some (.inl l5), some (.inl l6), some (.inl l7), some (.inl l8), some (.inl l9)] [] h) l0 l3 l4 l5 l6 h := by
  rfl
set_option maxRecDepth 100000 in
set_option maxHeartbeats 4000000 in
theorem i170_201 (call : Nat → List ag_V → ag_H → ag_R) (B : ag_K4) (l0 : Option Nat) (l3 : Int32) (l4 : Int32) (l5 : Int32) (l6 : Int32) (l7 : Int32) (l8 : Int32) (l9 : Int32) (h : ag_H) : ag_in 1 call B t170 201 [some (.inr l0), none, none, some (.inl l3), some (.inl l4), some (.inl l5), some (.inl l6), some (.inl l7), some (.inl l8), some (.inl l9)] [] h = f170_201 call (fun (l0 : Option Nat) (l1 : Int32) (l2 : Int32) (l3 : Int32) (h : ag_H) => B 40 [some (.inr l0), some (.inl l1), some (.inl l2), some (.inl l3), none, none, none, none, none, none] [] h) (fun (l0 : Option Nat) (l1 : Int32) (l2 : Int32) (l3 : Int32) (l4 : Int32) (h : ag_H) => B 58 [some (.inr l0), some (.inl l1), some (.inl l2), some (.inl l3), some (.inl l4), none, none, none, none, none] [] h) (fun (l0 : Option Nat) (l3 : Int32) (l4 : Int32) (l5 : Int32) (l6 : Int32) (h : ag_H) => B 132 [some (.inr l0), none, none, some (.inl l3), some (.inl l4), some (.inl l5), some (.inl l6), none, none, none] [] h) (fun (l0 : Option Nat) (l3 : Int32) (l4 : Int32) (l5 : Int32) (l6 : Int32) (l7 : Int32) (l8 : Int32) (l9 : Int32) (h : ag_H) => B 201 [some (.inr l0), none, none, some (.inl l3), some (.inl l4), some (.inl l5), some (.inl l6), some (.inl l7), some (.inl l8), some (.inl l9)] [] h) l0 l3 l4 l5 l6 l7 l8 l9 h := by
  rfl
set_option maxRecDepth 100000 in
set_option maxHeartbeats 4000000 in
theorem i170 (call : Nat → List ag_V → ag_H → ag_R) (B : ag_K4) (l0 : Option Nat) (l1 : Int32) (l2 : Int32) (h : ag_H) : ag_in 1 call B t170 0 [some (.inr l0), some (.inl l1), some (.inl l2), none, none, none, none, none, none, none] [] h = f170 call (fun (l0 : Option Nat) (l1 : Int32) (l2 : Int32) (l3 : Int32) (h : ag_H) => B 40 [some (.inr l0), some (.inl l1), some (.inl l2), some (.inl l3), none, none, none, none, none, none] [] h) (fun (l0 : Option Nat) (l1 : Int32) (l2 : Int32) (l3 : Int32) (l4 : Int32) (h : ag_H) => B 58 [some (.inr l0), some (.inl l1), some (.inl l2), some (.inl l3), some (.inl l4), none, none, none, none, none] [] h) (fun (l0 : Option Nat) (l3 : Int32) (l4 : Int32) (l5 : Int32) (l6 : Int32) (h : ag_H) => B 132 [some (.inr l0), none, none, some (.inl l3), some (.inl l4), some (.inl l5), some (.inl l6), none, none, none] [] h) (fun (l0 : Option Nat) (l3 : Int32) (l4 : Int32) (l5 : Int32) (l6 : Int32) (l7 : Int32) (l8 : Int32) (l9 : Int32) (h : ag_H) => B 201 [some (.inr l0), none, none, some (.inl l3), some (.inl l4), some (.inl l5), some (.inl l6), some (.inl l7), some (.inl l8), some (.inl l9)] [] h) l0 l1 l2 h := by
  rfl
set_option maxRecDepth 100000 in
set_option maxHeartbeats 4000000 in
theorem o170 (call : Nat → List ag_V → ag_H → ag_R) : ∀ n : Nat, (fun (l0 : Option Nat) (l1 : Int32) (l2 : Int32) (l3 : Int32) (h : ag_H) => (ag_out 1 call t170 n) 40 [some (.inr l0), some (.inl l1), some (.inl l2), some (.inl l3), none, none, none, none, none, none] [] h) = (g170 call n).1 ∧ (fun (l0 : Option Nat) (l1 : Int32) (l2 : Int32) (l3 : Int32) (l4 : Int32) (h : ag_H) => (ag_out 1 call t170 n) 58 [some (.inr l0), some (.inl l1), some (.inl l2), some (.inl l3), some (.inl l4), none, none, none, none, none] [] h) = (g170 call n).2.1 ∧ (fun (l0 : Option Nat) (l3 : Int32) (l4 : Int32) (l5 : Int32) (l6 : Int32) (h : ag_H) => (ag_out 1 call t170 n) 132 [some (.inr l0), none, none, some (.inl l3), some (.inl l4), some (.inl l5), some (.inl l6), none, none, none] [] h) = (g170 call n).2.2.1 ∧ (fun (l0 : Option Nat) (l3 : Int32) (l4 : Int32) (l5 : Int32) (l6 : Int32) (l7 : Int32) (l8 : Int32) (l9 : Int32) (h : ag_H) => (ag_out 1 call t170 n) 201 [some (.inr l0), none, none, some (.inl l3), some (.inl l4), some (.inl l5), some (.inl l6), some (.inl l7), some (.inl l8), some (.inl l9)] [] h) = (g170 call n).2.2.2 := by
  intro n
  induction n with
  | zero => exact ⟨rfl, rfl, rfl, rfl⟩
  | succ n ih =>
    obtain ⟨e0, e1, e2, e3⟩ := ih
    refine ⟨?_, ?_, ?_, ?_⟩
    · funext l0 l1 l2 l3 h
      show ag_in 1 call (ag_out 1 call t170 n) t170 40 [some (.inr l0), some (.inl l1), some (.inl l2), some (.inl l3), none, none, none, none, none, none] [] h = f170_40 call (g170 call n).1 (g170 call n).2.1 (g170 call n).2.2.1 (g170 call n).2.2.2 l0 l1 l2 l3 h
      rw [i170_40, e0, e1, e2, e3]
    · funext l0 l1 l2 l3 l4 h
      show ag_in 1 call (ag_out 1 call t170 n) t170 58 [some (.inr l0), some (.inl l1), some (.inl l2), some (.inl l3), some (.inl l4), none, none, none, none, none] [] h = f170_58 call (g170 call n).1 (g170 call n).2.1 (g170 call n).2.2.1 (g170 call n).2.2.2 l0 l1 l2 l3 l4 h
      rw [i170_58, e0, e1, e2, e3]
    · funext l0 l3 l4 l5 l6 h
      show ag_in 1 call (ag_out 1 call t170 n) t170 132 [some (.inr l0), none, none, some (.inl l3), some (.inl l4), some (.inl l5), some (.inl l6), none, none, none] [] h = f170_132 call (g170 call n).1 (g170 call n).2.1 (g170 call n).2.2.1 (g170 call n).2.2.2 l0 l3 l4 l5 l6 h
      rw [i170_132, e0, e1, e2, e3]
    · funext l0 l3 l4 l5 l6 l7 l8 l9 h
      show ag_in 1 call (ag_out 1 call t170 n) t170 201 [some (.inr l0), none, none, some (.inl l3), some (.inl l4), some (.inl l5), some (.inl l6), some (.inl l7), some (.inl l8), some (.inl l9)] [] h = f170_201 call (g170 call n).1 (g170 call n).2.1 (g170 call n).2.2.1 (g170 call n).2.2.2 l0 l3 l4 l5 l6 l7 l8 l9 h
      rw [i170_201, e0, e1, e2, e3]
set_option maxRecDepth 100000 in
set_option maxHeartbeats 4000000 in
theorem r170 (d : Nat) (l0 : Option Nat) (l1 : Int32) (l2 : Int32) (h : ag_H) : ag_run gT (d + 1) 170 [.inr l0, .inl l1, .inl l2] h = f170 (ag_run gT d) (g170 (ag_run gT d) 3999).1 (g170 (ag_run gT d) 3999).2.1 (g170 (ag_run gT d) 3999).2.2.1 (g170 (ag_run gT d) 3999).2.2.2 l0 l1 l2 h := by
  show ag_out 1 (ag_run gT d) t170 4000 0 [some (.inr l0), some (.inl l1), some (.inl l2), none, none, none, none, none, none, none] [] h = _
  rw [ag_out_top, i170, (o170 (ag_run gT d) 3999).1, (o170 (ag_run gT d) 3999).2.1, (o170 (ag_run gT d) 3999).2.2.1, (o170 (ag_run gT d) 3999).2.2.2]
def f171_115 (call : Nat → List ag_V → ag_H → ag_R) (b32 : Option Nat → Int32 → Int32 → ag_H → ag_R) (b68 : Option Nat → Int32 → Int32 → ag_H → ag_R) (l0 : Option Nat) (l1 : Int32) (h : ag_H) : ag_R :=
  ag_gR h l0 11 29 fun x1 =>
  ag_isB (ag_lit 0) <| ag_xP h x1 102 l1 (.inl (ag_lit 0)) fun h2 =>
  ag_at h2 l0 11 fun a3 _ => ag_bI (call 169 [.inr (some a3)] h2) fun x5 h4 =>
  some (.inl (some (.inl x5)), h4)
def f171_68 (call : Nat → List ag_V → ag_H → ag_R) (b32 : Option Nat → Int32 → Int32 → ag_H → ag_R) (b68 : Option Nat → Int32 → Int32 → ag_H → ag_R) (l0 : Option Nat) (l1 : Int32) (l2 : Int32) (h : ag_H) : ag_R :=
  ag_gR h l0 11 22 fun x1 =>
  ag_gR h l0 11 30 fun x2 =>
  ag_xI h x2 100 l1 fun x3 =>
  ag_xI h x1 100 x3 fun x4 =>
  if x4 ≤ l2 then
    ag_gR h l0 11 22 fun x5 =>
    ag_gR h l0 11 30 fun x6 =>
    ag_xI h x6 100 l1 fun x7 =>
    ag_xP h x5 100 x7 (.inl (ag_lit 0)) fun h8 =>
    f171_115 call b32 b68 l0 l1 h8
  else
    ag_gR h l0 11 30 fun x9 =>
    ag_xI h x9 100 l1 fun x10 =>
    ag_at h l0 11 fun a11 _ => ag_bV (call 162 [.inr (some a11), .inl (((ag_lit 4) * x10) + l2)] h) fun h12 =>
    b68 l0 l1 (l2 + ag_lit 1) h12
def f171_32 (call : Nat → List ag_V → ag_H → ag_R) (b32 : Option Nat → Int32 → Int32 → ag_H → ag_R) (b68 : Option Nat → Int32 → Int32 → ag_H → ag_R) (l0 : Option Nat) (l1 : Int32) (l2 : Int32) (h : ag_H) : ag_R :=
  if (ag_lit 5) ≤ l2 then
    ag_gR h l0 11 30 fun x1 =>
    ag_xI h x1 100 l1 fun x2 =>
    ag_at h l0 11 fun a3 _ => ag_bI (call 168 [.inr (some a3), .inl x2] h) fun x5 h4 =>
    if x5 = (ag_lit 1) then
      f171_68 call b32 b68 l0 l1 (ag_lit 0) h4
    else
      f171_115 call b32 b68 l0 l1 h4
  else
    ag_at h l0 11 fun a6 _ => ag_bV (call 156 [.inr (some a6), .inl (((ag_lit 5) * l1) + l2)] h) fun h7 =>
    b32 l0 l1 (l2 + ag_lit 1) h7
def f171_18 (call : Nat → List ag_V → ag_H → ag_R) (b32 : Option Nat → Int32 → Int32 → ag_H → ag_R) (b68 : Option Nat → Int32 → Int32 → ag_H → ag_R) (l0 : Option Nat) (l1 : Int32) (s0 : Option Nat) (s1 : Int32) (h : ag_H) : ag_R :=
  ag_pF h s0 11 41 (.inl s1) fun h1 =>
  ag_gI h1 l0 11 41 fun x2 =>
  if x2 = (ag_lit 0) then
    f171_32 call b32 b68 l0 l1 (ag_lit 0) h1
  else
    some (.inl (some (.inl (ag_lit 0))), h1)
def f171_13 (call : Nat → List ag_V → ag_H → ag_R) (b32 : Option Nat → Int32 → Int32 → ag_H → ag_R) (b68 : Option Nat → Int32 → Int32 → ag_H → ag_R) (l0 : Option Nat) (l1 : Int32) (s0 : Option Nat) (h : ag_H) : ag_R :=
  f171_18 call b32 b68 l0 l1 s0 (ag_lit 1) h
/-- NameSpacesModel.exit(I)I -/
def f171 (call : Nat → List ag_V → ag_H → ag_R) (b32 : Option Nat → Int32 → Int32 → ag_H → ag_R) (b68 : Option Nat → Int32 → Int32 → ag_H → ag_R) (l0 : Option Nat) (l1 : Int32) (h : ag_H) : ag_R :=
  ag_at h l0 11 fun a1 _ => ag_bI (call 144 [.inr (some a1), .inl l1] h) fun x3 h2 =>
  if x3 = (ag_lit 0) then
    f171_13 call b32 b68 l0 l1 l0 h2
  else
    if l1 = (ag_lit 0) then
      f171_13 call b32 b68 l0 l1 l0 h2
    else
      f171_18 call b32 b68 l0 l1 l0 (ag_lit 0) h2
def g171 (call : Nat → List ag_V → ag_H → ag_R) : Nat → (Option Nat → Int32 → Int32 → ag_H → ag_R) × (Option Nat → Int32 → Int32 → ag_H → ag_R)
  | 0 => (fun _ _ _ _ => none, fun _ _ _ _ => none)
  | n + 1 => (f171_32 call (g171 call n).1 (g171 call n).2, f171_68 call (g171 call n).1 (g171 call n).2)
set_option maxRecDepth 100000 in
set_option maxHeartbeats 4000000 in
theorem i171_32 (call : Nat → List ag_V → ag_H → ag_R) (B : ag_K4) (l0 : Option Nat) (l1 : Int32) (l2 : Int32) (h : ag_H) : ag_in 1 call B t171 32 [some (.inr l0), some (.inl l1), some (.inl l2)] [] h = f171_32 call (fun (l0 : Option Nat) (l1 : Int32) (l2 : Int32) (h : ag_H) => B 32 [some (.inr l0), some (.inl l1), some (.inl l2)] [] h) (fun (l0 : Option Nat) (l1 : Int32) (l2 : Int32) (h : ag_H) => B 68 [some (.inr l0), some (.inl l1), some (.inl l2)] [] h) l0 l1 l2 h := by
  rfl
set_option maxRecDepth 100000 in
set_option maxHeartbeats 4000000 in
theorem i171_68 (call : Nat → List ag_V → ag_H → ag_R) (B : ag_K4) (l0 : Option Nat) (l1 : Int32) (l2 : Int32) (h : ag_H) : ag_in 1 call B t171 68 [some (.inr l0), some (.inl l1), some (.inl l2)] [] h = f171_68 call (fun (l0 : Option Nat) (l1 : Int32) (l2 : Int32) (h : ag_H) => B 32 [some (.inr l0), some (.inl l1), some (.inl l2)] [] h) (fun (l0 : Option Nat) (l1 : Int32) (l2 : Int32) (h : ag_H) => B 68 [some (.inr l0), some (.inl l1), some (.inl l2)] [] h) l0 l1 l2 h := by
  rfl
set_option maxRecDepth 100000 in
set_option maxHeartbeats 4000000 in
theorem i171 (call : Nat → List ag_V → ag_H → ag_R) (B : ag_K4) (l0 : Option Nat) (l1 : Int32) (h : ag_H) : ag_in 1 call B t171 0 [some (.inr l0), some (.inl l1), none] [] h = f171 call (fun (l0 : Option Nat) (l1 : Int32) (l2 : Int32) (h : ag_H) => B 32 [some (.inr l0), some (.inl l1), some (.inl l2)] [] h) (fun (l0 : Option Nat) (l1 : Int32) (l2 : Int32) (h : ag_H) => B 68 [some (.inr l0), some (.inl l1), some (.inl l2)] [] h) l0 l1 h := by
  rfl
set_option maxRecDepth 100000 in
set_option maxHeartbeats 4000000 in
theorem o171 (call : Nat → List ag_V → ag_H → ag_R) : ∀ n : Nat, (fun (l0 : Option Nat) (l1 : Int32) (l2 : Int32) (h : ag_H) => (ag_out 1 call t171 n) 32 [some (.inr l0), some (.inl l1), some (.inl l2)] [] h) = (g171 call n).1 ∧ (fun (l0 : Option Nat) (l1 : Int32) (l2 : Int32) (h : ag_H) => (ag_out 1 call t171 n) 68 [some (.inr l0), some (.inl l1), some (.inl l2)] [] h) = (g171 call n).2 := by
  intro n
  induction n with
  | zero => exact ⟨rfl, rfl⟩
  | succ n ih =>
    obtain ⟨e0, e1⟩ := ih
    refine ⟨?_, ?_⟩
    · funext l0 l1 l2 h
      show ag_in 1 call (ag_out 1 call t171 n) t171 32 [some (.inr l0), some (.inl l1), some (.inl l2)] [] h = f171_32 call (g171 call n).1 (g171 call n).2 l0 l1 l2 h
      rw [i171_32, e0, e1]
    · funext l0 l1 l2 h
      show ag_in 1 call (ag_out 1 call t171 n) t171 68 [some (.inr l0), some (.inl l1), some (.inl l2)] [] h = f171_68 call (g171 call n).1 (g171 call n).2 l0 l1 l2 h
      rw [i171_68, e0, e1]
set_option maxRecDepth 100000 in
set_option maxHeartbeats 4000000 in
theorem r171 (d : Nat) (l0 : Option Nat) (l1 : Int32) (h : ag_H) : ag_run gT (d + 1) 171 [.inr l0, .inl l1] h = f171 (ag_run gT d) (g171 (ag_run gT d) 3999).1 (g171 (ag_run gT d) 3999).2 l0 l1 h := by
  show ag_out 1 (ag_run gT d) t171 4000 0 [some (.inr l0), some (.inl l1), none] [] h = _
  rw [ag_out_top, i171, (o171 (ag_run gT d) 3999).1, (o171 (ag_run gT d) 3999).2]
def f172_82 (call : Nat → List ag_V → ag_H → ag_R)  (s0 : Int32) (h : ag_H) : ag_R :=
  some (.inl (some (.inl s0)), h)
def f172_59 (call : Nat → List ag_V → ag_H → ag_R)   (h : ag_H) : ag_R :=
  f172_82 call (ag_lit (-1)) h
def f172_29 (call : Nat → List ag_V → ag_H → ag_R)  (l0 : Option Nat) (l1 : Int32) (l2 : Int32) (s0 : Int32) (h : ag_H) : ag_R :=
  ag_bI (call 114 [.inl l1, .inl (ag_lit 0), .inl (ag_lit 1)] h) fun x2 h1 =>
  if x2 = (ag_lit 0) then
    if l2 = (ag_lit (-1)) then
      f172_82 call s0 h1
    else
      if l2 < (ag_lit 0) then
        f172_59 call h1
      else
        if l2 < s0 then
          if l1 = (ag_lit 0) then
            ag_gR h1 l0 11 16 fun x5 =>
            ag_xI h1 x5 100 l2 fun x6 =>
            f172_82 call x6 h1
          else
            ag_gR h1 l0 11 18 fun x3 =>
            ag_xI h1 x3 100 l2 fun x4 =>
            f172_82 call x4 h1
        else
          f172_59 call h1
  else
    some (.inl (some (.inl (ag_lit (-1)))), h1)
/-- NameSpacesModel.wire(II)I -/
def f172 (call : Nat → List ag_V → ag_H → ag_R)  (l0 : Option Nat) (l1 : Int32) (l2 : Int32) (h : ag_H) : ag_R :=
  ag_pF h l0 11 41 (.inl (ag_lit 0)) fun h1 =>
  if l1 = (ag_lit 0) then
    ag_gI h1 l0 11 17 fun x3 =>
    f172_29 call l0 l1 l2 x3 h1
  else
    if l1 = (ag_lit 1) then
      ag_gI h1 l0 11 19 fun x2 =>
      f172_29 call l0 l1 l2 x2 h1
    else
      f172_29 call l0 l1 l2 (ag_lit 0) h1
set_option maxRecDepth 100000 in
set_option maxHeartbeats 4000000 in
theorem i172 (call : Nat → List ag_V → ag_H → ag_R) (B : ag_K4) (l0 : Option Nat) (l1 : Int32) (l2 : Int32) (h : ag_H) : ag_in 1 call B t172 0 [some (.inr l0), some (.inl l1), some (.inl l2), none] [] h = f172 call  l0 l1 l2 h := by
  rfl
set_option maxRecDepth 100000 in
set_option maxHeartbeats 4000000 in
theorem r172 (d : Nat) (l0 : Option Nat) (l1 : Int32) (l2 : Int32) (h : ag_H) : ag_run gT (d + 1) 172 [.inr l0, .inl l1, .inl l2] h = f172 (ag_run gT d)  l0 l1 l2 h := by
  show ag_out 1 (ag_run gT d) t172 4000 0 [some (.inr l0), some (.inl l1), some (.inl l2), none] [] h = _
  rw [ag_out_top, i172]
def f173_109 (call : Nat → List ag_V → ag_H → ag_R) (b21 : Option Nat → Int32 → Int32 → Int32 → Int32 → ag_H → ag_R) (s0 : Int32) (h : ag_H) : ag_R :=
  some (.inl (some (.inl s0)), h)
def f173_52 (call : Nat → List ag_V → ag_H → ag_R) (b21 : Option Nat → Int32 → Int32 → Int32 → Int32 → ag_H → ag_R) (l0 : Option Nat) (l1 : Int32) (l2 : Int32) (l4 : Int32) (s0 : Int32) (h : ag_H) : ag_R :=
  b21 l0 l1 l2 s0 (l4 + ag_lit 1) h
def f173_21 (call : Nat → List ag_V → ag_H → ag_R) (b21 : Option Nat → Int32 → Int32 → Int32 → Int32 → ag_H → ag_R) (l0 : Option Nat) (l1 : Int32) (l2 : Int32) (l3 : Int32) (l4 : Int32) (h : ag_H) : ag_R :=
  if (ag_lit16 200) ≤ l4 then
    if l2 = (ag_lit 0) then
      ag_gR h l0 11 15 fun x6 =>
      ag_xI h x6 100 l1 fun x7 =>
      f173_109 call b21 x7 h
    else
      if l2 = (ag_lit 1) then
        f173_109 call b21 l3 h
      else
        if l2 = (ag_lit 2) then
          ag_at h l0 11 fun a3 _ => ag_bI (call 127 [.inr (some a3), .inl l1] h) fun x5 h4 =>
          f173_109 call b21 x5 h4
        else
          if l2 = (ag_lit 3) then
            ag_gR h l0 11 6 fun x1 =>
            ag_xI h x1 100 l1 fun x2 =>
            f173_109 call b21 x2 h
          else
            f173_109 call b21 (ag_lit (-1)) h
  else
    ag_gR h l0 11 14 fun x8 =>
    ag_xI h x8 100 (((ag_lit16 200) * l1) + l4) fun x9 =>
    if x9 = (ag_lit 0) then
      f173_52 call b21 l0 l1 l2 l4 l3 h
    else
      f173_52 call b21 l0 l1 l2 l4 (l3 + (ag_lit 1)) h
/-- NameSpacesModel.server(II)I -/
def f173 (call : Nat → List ag_V → ag_H → ag_R) (b21 : Option Nat → Int32 → Int32 → Int32 → Int32 → ag_H → ag_R) (l0 : Option Nat) (l1 : Int32) (l2 : Int32) (h : ag_H) : ag_R :=
  ag_pF h l0 11 41 (.inl (ag_lit 0)) fun h1 =>
  ag_bI (call 114 [.inl l1, .inl (ag_lit 0), .inl (ag_lit 1)] h1) fun x3 h2 =>
  if x3 = (ag_lit 0) then
    f173_21 call b21 l0 l1 l2 (ag_lit 0) (ag_lit 0) h2
  else
    some (.inl (some (.inl (ag_lit (-1)))), h2)
def g173 (call : Nat → List ag_V → ag_H → ag_R) : Nat → Option Nat → Int32 → Int32 → Int32 → Int32 → ag_H → ag_R
  | 0 => fun _ _ _ _ _ _ => none
  | n + 1 => f173_21 call (g173 call n)
set_option maxRecDepth 100000 in
set_option maxHeartbeats 4000000 in
theorem i173_21 (call : Nat → List ag_V → ag_H → ag_R) (B : ag_K4) (l0 : Option Nat) (l1 : Int32) (l2 : Int32) (l3 : Int32) (l4 : Int32) (h : ag_H) : ag_in 1 call B t173 21 [some (.inr l0), some (.inl l1), some (.inl l2), some (.inl l3), some (.inl l4)] [] h = f173_21 call (fun (l0 : Option Nat) (l1 : Int32) (l2 : Int32) (l3 : Int32) (l4 : Int32) (h : ag_H) => B 21 [some (.inr l0), some (.inl l1), some (.inl l2), some (.inl l3), some (.inl l4)] [] h) l0 l1 l2 l3 l4 h := by
  rfl
set_option maxRecDepth 100000 in
set_option maxHeartbeats 4000000 in
theorem i173 (call : Nat → List ag_V → ag_H → ag_R) (B : ag_K4) (l0 : Option Nat) (l1 : Int32) (l2 : Int32) (h : ag_H) : ag_in 1 call B t173 0 [some (.inr l0), some (.inl l1), some (.inl l2), none, none] [] h = f173 call (fun (l0 : Option Nat) (l1 : Int32) (l2 : Int32) (l3 : Int32) (l4 : Int32) (h : ag_H) => B 21 [some (.inr l0), some (.inl l1), some (.inl l2), some (.inl l3), some (.inl l4)] [] h) l0 l1 l2 h := by
  rfl
set_option maxRecDepth 100000 in
set_option maxHeartbeats 4000000 in
theorem o173 (call : Nat → List ag_V → ag_H → ag_R) : ∀ n : Nat, (fun (l0 : Option Nat) (l1 : Int32) (l2 : Int32) (l3 : Int32) (l4 : Int32) (h : ag_H) => (ag_out 1 call t173 n) 21 [some (.inr l0), some (.inl l1), some (.inl l2), some (.inl l3), some (.inl l4)] [] h) = g173 call n := by
  intro n
  induction n with
  | zero => rfl
  | succ n ih =>
    funext l0 l1 l2 l3 l4 h
    show ag_in 1 call (ag_out 1 call t173 n) t173 21 [some (.inr l0), some (.inl l1), some (.inl l2), some (.inl l3), some (.inl l4)] [] h = f173_21 call (g173 call n) l0 l1 l2 l3 l4 h
    rw [i173_21, ih]
set_option maxRecDepth 100000 in
set_option maxHeartbeats 4000000 in
theorem r173 (d : Nat) (l0 : Option Nat) (l1 : Int32) (l2 : Int32) (h : ag_H) : ag_run gT (d + 1) 173 [.inr l0, .inl l1, .inl l2] h = f173 (ag_run gT d) (g173 (ag_run gT d) 3999) l0 l1 l2 h := by
  show ag_out 1 (ag_run gT d) t173 4000 0 [some (.inr l0), some (.inl l1), some (.inl l2), none, none] [] h = _
  rw [ag_out_top, i173, o173]
def f174_123 (call : Nat → List ag_V → ag_H → ag_R) (b41 : Option Nat → Int32 → Int32 → Int32 → Int32 → ag_H → ag_R) (s0 : Int32) (h : ag_H) : ag_R :=
  some (.inl (some (.inl s0)), h)
def f174_41 (call : Nat → List ag_V → ag_H → ag_R) (b41 : Option Nat → Int32 → Int32 → Int32 → Int32 → ag_H → ag_R) (l0 : Option Nat) (l1 : Int32) (l2 : Int32) (l3 : Int32) (l4 : Int32) (h : ag_H) : ag_R :=
  ag_gR h l0 11 22 fun x1 =>
  ag_gR h l0 11 30 fun x2 =>
  ag_xI h x2 100 l1 fun x3 =>
  ag_xI h x1 100 x3 fun x4 =>
  if x4 ≤ l4 then
    if l2 = (ag_lit 0) then
      f174_123 call b41 (ag_lit 1) h
    else
      if l2 = (ag_lit 1) then
        ag_at h l0 11 fun a9 _ => ag_bI (call 146 [.inr (some a9), .inl l1] h) fun x11 h10 =>
        f174_123 call b41 x11 h10
      else
        if l2 = (ag_lit 2) then
          ag_gR h l0 11 22 fun x5 =>
          ag_gR h l0 11 30 fun x6 =>
          ag_xI h x6 100 l1 fun x7 =>
          ag_xI h x5 100 x7 fun x8 =>
          f174_123 call b41 x8 h
        else
          f174_123 call b41 l3 h
  else
    ag_gR h l0 11 25 fun x12 =>
    ag_gR h l0 11 30 fun x13 =>
    ag_xI h x13 100 l1 fun x14 =>
    ag_xI h x12 100 (((ag_lit 4) * x14) + l4) fun x15 =>
    b41 l0 l1 l2 (l3 + x15) (l4 + ag_lit 1) h
def f174_23 (call : Nat → List ag_V → ag_H → ag_R) (b41 : Option Nat → Int32 → Int32 → Int32 → Int32 → ag_H → ag_R)  (h : ag_H) : ag_R :=
  some (.inl (some (.inl (ag_lit (-1)))), h)
/-- NameSpacesModel.process(II)I -/
def f174 (call : Nat → List ag_V → ag_H → ag_R) (b41 : Option Nat → Int32 → Int32 → Int32 → Int32 → ag_H → ag_R) (l0 : Option Nat) (l1 : Int32) (l2 : Int32) (h : ag_H) : ag_R :=
  ag_pF h l0 11 41 (.inl (ag_lit 0)) fun h1 =>
  ag_bI (call 114 [.inl l1, .inl (ag_lit 0), .inl (ag_lit 3)] h1) fun x3 h2 =>
  if x3 = (ag_lit 0) then
    ag_bI (call 114 [.inl l2, .inl (ag_lit 0), .inl (ag_lit 3)] h2) fun x5 h4 =>
    if x5 = (ag_lit 0) then
      ag_gR h4 l0 11 29 fun x6 =>
      ag_xI h4 x6 102 l1 fun x7 =>
      if x7 = (ag_lit 0) then
        some (.inl (some (.inl (ag_lit 0))), h4)
      else
        f174_41 call b41 l0 l1 l2 (ag_lit 0) (ag_lit 0) h4
    else
      f174_23 call b41 h4
  else
    f174_23 call b41 h2
def g174 (call : Nat → List ag_V → ag_H → ag_R) : Nat → Option Nat → Int32 → Int32 → Int32 → Int32 → ag_H → ag_R
  | 0 => fun _ _ _ _ _ _ => none
  | n + 1 => f174_41 call (g174 call n)
set_option maxRecDepth 100000 in
set_option maxHeartbeats 4000000 in
theorem i174_41 (call : Nat → List ag_V → ag_H → ag_R) (B : ag_K4) (l0 : Option Nat) (l1 : Int32) (l2 : Int32) (l3 : Int32) (l4 : Int32) (h : ag_H) : ag_in 1 call B t174 41 [some (.inr l0), some (.inl l1), some (.inl l2), some (.inl l3), some (.inl l4)] [] h = f174_41 call (fun (l0 : Option Nat) (l1 : Int32) (l2 : Int32) (l3 : Int32) (l4 : Int32) (h : ag_H) => B 41 [some (.inr l0), some (.inl l1), some (.inl l2), some (.inl l3), some (.inl l4)] [] h) l0 l1 l2 l3 l4 h := by
  rfl
set_option maxRecDepth 100000 in
set_option maxHeartbeats 4000000 in
theorem i174 (call : Nat → List ag_V → ag_H → ag_R) (B : ag_K4) (l0 : Option Nat) (l1 : Int32) (l2 : Int32) (h : ag_H) : ag_in 1 call B t174 0 [some (.inr l0), some (.inl l1), some (.inl l2), none, none] [] h = f174 call (fun (l0 : Option Nat) (l1 : Int32) (l2 : Int32) (l3 : Int32) (l4 : Int32) (h : ag_H) => B 41 [some (.inr l0), some (.inl l1), some (.inl l2), some (.inl l3), some (.inl l4)] [] h) l0 l1 l2 h := by
  rfl
set_option maxRecDepth 100000 in
set_option maxHeartbeats 4000000 in
theorem o174 (call : Nat → List ag_V → ag_H → ag_R) : ∀ n : Nat, (fun (l0 : Option Nat) (l1 : Int32) (l2 : Int32) (l3 : Int32) (l4 : Int32) (h : ag_H) => (ag_out 1 call t174 n) 41 [some (.inr l0), some (.inl l1), some (.inl l2), some (.inl l3), some (.inl l4)] [] h) = g174 call n := by
  intro n
  induction n with
  | zero => rfl
  | succ n ih =>
    funext l0 l1 l2 l3 l4 h
    show ag_in 1 call (ag_out 1 call t174 n) t174 41 [some (.inr l0), some (.inl l1), some (.inl l2), some (.inl l3), some (.inl l4)] [] h = f174_41 call (g174 call n) l0 l1 l2 l3 l4 h
    rw [i174_41, ih]
set_option maxRecDepth 100000 in
set_option maxHeartbeats 4000000 in
theorem r174 (d : Nat) (l0 : Option Nat) (l1 : Int32) (l2 : Int32) (h : ag_H) : ag_run gT (d + 1) 174 [.inr l0, .inl l1, .inl l2] h = f174 (ag_run gT d) (g174 (ag_run gT d) 3999) l0 l1 l2 h := by
  show ag_out 1 (ag_run gT d) t174 4000 0 [some (.inr l0), some (.inl l1), some (.inl l2), none, none] [] h = _
  rw [ag_out_top, i174, o174]
end
section
/-! THE ABSTRACT HEAP IN THE MACHINE'S, and the instructions that touch it -/
abbrev ag_D : Type := (Nat → ClassId) × (Nat → Nat → Nat) × (Nat → ClassId)
def ag_G (D : ag_D) : va_G := (D.1, D.2.1)
def ag_ct : Nat → FieldType := fun t => match t with
  | 0 => .int
  | 1 => .char
  | 2 => .boolean
  | 3 => .object RX7
  | 4 => .object RX2
  | 5 => .object RX6
  | 6 => .object RX9
  | 7 => .object RX5
  | _ => .object RX3
def ag_tys (D : ag_D) : List (ClassId × FieldType) := (List.range 9).map fun t => (D.2.2 t, ag_ct t)
def ag_K (D : ag_D) (U : State) : Prop := va_K (ag_G D) vwCl (ag_tys D) U
def ag_arr (D : ag_D) (t : Nat) (xs : List ag_V) : Cell := { cls := D.2.2 t, slots := (xs.map ag_v).toArray, vm := .none }
def ag_cell (D : ag_D) (q : ag_C) (a : Nat) (H : Heap) : Prop :=
  (q.1 < 100 ∧ (∃ r, vwCl[q.1]? = some r ∧ q.2.length = r.2.2) ∧ va_at (ag_G D) vwCl (a, .inr (q.1, q.2.map ag_v)) H) ∨
  (100 ≤ q.1 ∧ q.1 < 109 ∧ H[a]? = some (ag_arr D (q.1 - 100) q.2))
def ag_rep (D : ag_D) (base : Nat) (h : ag_H) (H : Heap) : Prop := H.size = h.1 ∧ ∀ (a : Nat) (q : ag_C), h.2.2 a = some q → base ≤ a ∧ ag_cell D q a H
theorem ag_cell.kept {D : ag_D} {q : ag_C} {a : Nat} {H H1 : Heap} (h : ag_cell D q a H) (e : H1[a]? = H[a]?) : ag_cell D q a H1 := by
  rcases h with ⟨h1, h2, h3⟩ | ⟨h1, h2, h3⟩
  · exact Or.inl ⟨h1, h2, h3.kept e⟩
  · exact Or.inr ⟨h1, h2, e.trans h3⟩
theorem ag_cell.lt {D : ag_D} {q : ag_C} {a : Nat} {H : Heap} (h : ag_cell D q a H) : a < H.size := by
  rcases h with ⟨h1, h2, h3⟩ | ⟨h1, h2, h3⟩
  · exact h3.lt
  · exact (Array.getElem?_eq_some_iff.mp h3).1
theorem ag_rep.put {D : ag_D} {base : Nat} {h : ag_H} {H H1 : Heap} {a : Nat} {q0 q : ag_C} (hR : ag_rep D base h H) (ha : h.2.2 a = some q0) (hz : H1.size = H.size) (ho : ∀ b : Nat, b ≠ a → H1[b]? = H[b]?) (hc : ag_cell D q a H1) : ag_rep D base (ag_set h a q) H1 := by
  refine ⟨hz.trans hR.1, fun b x hb => ?_⟩
  have hb : (if b = a then some q else h.2.2 b) = some x := hb
  by_cases e : b = a
  · subst e
    rw [if_pos rfl] at hb
    cases hb
    exact ⟨(hR.2 _ _ ha).1, hc⟩
  · rw [if_neg e] at hb
    exact ⟨(hR.2 _ _ hb).1, (hR.2 _ _ hb).2.kept (ho b e)⟩
theorem ag_rep.push {D : ag_D} {base : Nat} {h : ag_H} {H H1 : Heap} {n : Nat} {q : ag_C} (hR : ag_rep D base h H) (hbase : base ≤ H.size) (hz : H1.size = H.size + 1) (ho : ∀ b : Nat, b < H.size → H1[b]? = H[b]?) (hc : ag_cell D q H.size H1) : ag_rep D base (ag_new h n q) H1 := by
  refine ⟨by show H1.size = h.1 + 1; rw [hz, hR.1], fun b x hb => ?_⟩
  have hb : (if b = h.1 then some q else h.2.2 b) = some x := hb
  by_cases e : b = h.1
  · rw [if_pos e] at hb
    cases hb
    rw [e, ← hR.1]
    exact ⟨hbase, hc⟩
  · rw [if_neg e] at hb
    have hc2 := (hR.2 _ _ hb).2
    exact ⟨(hR.2 _ _ hb).1, hc2.kept (ho b hc2.lt)⟩
theorem ag_rep.thr {D : ag_D} {base : Nat} {h : ag_H} {H H1 : Heap} (hR : ag_rep D base h H) (hz : H1.size = H.size + 1) (ho : ∀ b : Nat, b < H.size → H1[b]? = H[b]?) : ag_rep D base (ag_thr h) H1 :=
  ⟨by show H1.size = h.1 + 1; rw [hz, hR.1], fun b x hb => ⟨(hR.2 _ _ hb).1, (hR.2 _ _ hb).2.kept (ho b (hR.2 _ _ hb).2.lt)⟩⟩
/-- the cell of an object, an array -/
theorem ag_rep.obj {D : ag_D} {base : Nat} {h : ag_H} {H : Heap} {a ci : Nat} {fs : List ag_V} (hR : ag_rep D base h H) (ha : h.2.2 a = some (ci, fs)) (hci : ci < 100) : (∃ r, vwCl[ci]? = some r ∧ fs.length = r.2.2) ∧ va_at (ag_G D) vwCl (a, .inr (ci, fs.map ag_v)) H := by
  rcases (hR.2 _ _ ha).2 with ⟨h1, h2, h3⟩ | ⟨h1, h2, h3⟩
  · exact ⟨h2, h3⟩
  · exact absurd hci (Nat.not_lt.mpr h1)
theorem ag_rep.arr {D : ag_D} {base : Nat} {h : ag_H} {H : Heap} {a t : Nat} {xs : List ag_V} (hR : ag_rep D base h H) (ha : h.2.2 a = some (100 + t, xs)) : t < 9 ∧ H[a]? = some (ag_arr D t xs) := by
  rcases (hR.2 _ _ ha).2 with ⟨h1, h2, h3⟩ | ⟨h1, h2, h3⟩
  · exact absurd (show 100 + t < 100 from h1) (by omega)
  · have h2 : 100 + t < 109 := h2
    have h3 : H[a]? = some (ag_arr D (100 + t - 100) xs) := h3
    rw [show 100 + t - 100 = t by omega] at h3
    exact ⟨by omega, h3⟩
theorem ag_K.arr {D : ag_D} {U : State} (hK : ag_K D U) {t : Nat} (ht : t < 9) : ArrOfT U (D.2.2 t) (ag_ct t) ∧ va_RA U (D.2.2 t) (ag_ct t) := by
  have h1 : (ag_tys D)[t]? = some (D.2.2 t, ag_ct t) := by
    unfold ag_tys
    rw [List.getElem?_map, List.getElem?_range ht]
    rfl
  exact hK.2 t _ h1
theorem ag_K.isArr {D : ag_D} {U : State} (hK : ag_K D U) {t : Nat} (ht : t < 9) (xs : List ag_V) : U.isArrayOf (ag_arr D t xs) (ag_ct t) := by
  obtain ⟨-, k, h1, h2⟩ := (hK.arr ht).1 0 (fun _ => .null)
  exact ⟨fun _ h9 => (by cases h9), k, h1, h2⟩
theorem ag_sgl {D : ag_D} {a : Nat} {e : va_E} {H : Heap} (h : va_at (ag_G D) vwCl (a, e) H) : va_P (ag_G D) vwCl [(a, e)] H := by
  intro k q hq
  have hz : k < 1 := (List.getElem?_eq_some_iff.mp hq).1
  rw [show k = 0 by omega] at hq
  cases hq
  exact h
section AGW
variable {p : Program} {l : Launch} {e : Env} {R : Room} {s : State} {m : MethodId} {args : Array Value} {below : List Frame} {meth : Method} {c : Code} {H : Heap} {locs : List Loc} {cells slots : Nat} {Q : State → Prop} {cc : ByteArray} {pc : Nat} {ls : Array Slot} {rest : List Value} {D : ag_D} {base : Nat} {h : ag_H} {own C : String} {T : u_T} {N : Nat} {Ts : List Cond}
theorem ag_w_get (hx : p.tables.exec = Jvm.exec) (hb : c.code = cc) (hts : ∀ w ∈ Ts, w.before args s = true) (hin : ∀ w ∈ u_ws C T N, w ∈ Ts) (hown : s.vm.findClass own = some m.cls) (hK : ag_K D s) (hR : ag_rep D base h H)
    {a ci k idx : Nat} {fs : List ag_V} {v : ag_V} (ha : h.2.2 a = some (ci, fs)) (hci : ci < 100) (hr : vwCl[ci]? = some (C, T, N)) (hk : k < N) (hlink : (Cond.fieldLink own idx (T k).1 (T k).2.1 (T k).2.2.1).before args s = true) (hv : fs[k]? = some v) (hdg : decode cc pc = .ok (.getfield idx, 3))
    (kk : W p l e R s m args below meth c H locs cells slots Q (F0 m (pc + 3) ls (ag_v v :: rest))) : W p l e R s m args below meth c H locs cells slots Q (F0 m pc ls (.ref a :: rest)) :=
  va_get (D := ag_G D) (cl := vwCl) (tys := ag_tys D) (ws := [(a, .inr (ci, fs.map ag_v))]) hx hb hts hin hown hK (ag_sgl (hR.obj ha hci).2) 0 rfl hr k hk hlink (fun _ h9 => h9) (by rw [List.getElem?_map, hv]; rfl) hdg kk
theorem ag_w_put (hx : p.tables.exec = Jvm.exec) (hb : c.code = cc) (hts : ∀ w ∈ Ts, w.before args s = true) (hin : ∀ w ∈ u_ws C T N, w ∈ Ts) (ty0 : Nat → FieldType) (hty : ∀ k, k < N → parseFieldDescriptor (T k).2.2.1 = some (ty0 k)) (hnm : ∀ a, a < N → ∀ b, b < N → a ≠ b → (T a).2.1 ≠ (T b).2.1) (hown : s.vm.findClass own = some m.cls) (hK : ag_K D s) (hR : ag_rep D base h H)
    {a ci k idx : Nat} {fs : List ag_V} {v : ag_V} (ha : h.2.2 a = some (ci, fs)) (hci : ci < 100) (hr : vwCl[ci]? = some (C, T, N)) (hk : k < N) (hlink : (Cond.fieldLink own idx (T k).1 (T k).2.1 (T k).2.2.1).before args s = true)
    (hfin : (T k).2.2.2 = false ∨ ((T k).2.2.2 = true ∧ meth.name = "<init>" ∧ (T k).1 = own)) (hn : narrow (ty0 k) (ag_v v) = ag_v v) (hfit : fits (ty0 k) (ag_v v) = true) (hdg : decode cc pc = .ok (.putfield idx, 3))
    (kk : ∀ (H1 : Heap) (i : Nat), ag_rep D base (ag_set h a (ci, fs.set k v)) H1 → H1.size = H.size → (∀ b : Nat, b ≠ a → H1[b]? = H[b]?) → W p l e R s m args below meth c H1 (locs ++ [⟨a, i⟩]) cells slots Q (F0 m (pc + 3) ls rest)) : W p l e R s m args below meth c H locs cells slots Q (F0 m pc ls (ag_v v :: .ref a :: rest)) := by
  have hap := va_apart (D := ag_G D) (cl := vwCl) (tys := ag_tys D) (own := own) hts hin ty0 hty hnm hK hr
  obtain ⟨⟨r', hr', hlen⟩, r, h1, cell, q1, q2, q3, q4⟩ := hR.obj ha hci
  cases hr.symm.trans hr'
  cases hr.symm.trans h1
  have hlen : fs.length = N := hlen
  obtain ⟨hS, hfc, kC, hkC, hkind⟩ := hK.1 ci _ hr
  obtain ⟨cf, kf, fi, f, hi, hsl⟩ := hS k hk
  have hlay := hts _ (hin _ (u_in_lay hk))
  have hst := (u_facts hfc hkC (u_lays hts hin hk) hi).1
  have q4k : cell.slots[D.2.1 ci k]? = some (vp_V (fs.map ag_v) k) := q4 k hk
  have fin : ∀ H' : Heap, H'[a]? = some (cell.setSlot f.slot (ag_v v)) → H'.size = H.size → (∀ b : Nat, b ≠ a → H'[b]? = H[b]?) → ag_rep D base (ag_set h a (ci, fs.set k v)) H' := by
    intro H' e1 e2 e3
    rw [hsl] at e1
    refine hR.put ha e2 e3 (Or.inl ⟨hci, ⟨_, hr, by show (fs.set k v).length = N; rw [List.length_set, hlen]⟩, _, hr, ?_⟩)
    have := t_OB.to (V := updV (vp_V (fs.map ag_v)) k (ag_v v)) (V' := vp_V ((fs.map ag_v).set k (ag_v v))) ⟨_, e1, q2, q3, t_set q4 hap hk (ag_v v)⟩ (fun j _ => vp_updV_set (by rw [List.length_map, hlen]; exact hk) (ag_v v) j)
    rw [← List.map_set] at this
    exact this
  rcases hfin with hf | ⟨hf, hin2, hdecl⟩
  · unfold u_lay at hlay
    rw [if_neg (by rw [hf]; decide)] at hlay
    have h6 := u_store hfc hkC hkind hlay hi (hty k hk) hn hfit
    exact W.putK hx hb (f := f) ⟨hown, hlink, ⟨_, _, _, hi⟩, hst⟩ (by rw [q2]; exact h6) q1 q3 (by rw [hsl]; exact k2_hasslot q4k) rfl rfl hdg fun H' e1 e2 e3 => kk H' _ (fin H' e1 e2 e3) e2 e3
  · unfold u_lay at hlay
    rw [if_pos hf] at hlay
    have hcf : m.cls = cf := by
      obtain ⟨_, _, c', _, _, _, -, -, hf', -, -, -, hown2, -⟩ := Cond.laysFinal_spec hlay
      have e1 : c' = cf := by have := hi.symm.trans hf'; simp at this; exact this.1.symm
      rw [hdecl] at hown2
      rw [← e1]; exact Option.some.inj (hown.symm.trans hown2)
    have h6 := u_fits hfc hkC hkind (Or.inr hlay) hi (hty k hk) hn hfit
    exact W.putFinK hx hb hown hlink hi hst hcf hin2 (by rw [q2]; exact h6) q1 q3 (by rw [hsl]; exact k2_hasslot q4k) rfl rfl hdg fun H' e1 e2 e3 => kk H' _ (fin H' e1 e2 e3) e2 e3
end AGW
end
section
theorem ag_arr_at {D : ag_D} {t j : Nat} {xs : List ag_V} {v : ag_V} (hv : xs[j]? = some v) : (ag_arr D t xs).slots[j]? = some (ag_v v) := by
  show (xs.map ag_v).toArray[j]? = _
  rw [List.getElem?_toArray, List.getElem?_map, hv]
  rfl
theorem ag_arr_sz {D : ag_D} {t : Nat} {xs : List ag_V} : (ag_arr D t xs).slots.size = xs.length := by
  show (xs.map ag_v).toArray.size = _
  simp
theorem ag_arr_set {D : ag_D} {t j : Nat} {xs : List ag_V} {v : ag_V} : (ag_arr D t xs).setSlot j (ag_v v) = ag_arr D t (xs.set j v) := by
  unfold ag_arr Cell.setSlot
  simp [List.map_set]
theorem ag_in_of {D : ag_D} {t : Nat} {xs : List ag_V} {j : Int32} (h0 : ¬ j < 0) (hj : j.toNatClampNeg < xs.length) : ¬ (j < 0 ∨ (ag_arr D t xs).slots.size ≤ j.toNatClampNeg) := by
  rw [ag_arr_sz]
  rintro (h | h)
  · exact h0 h
  · omega
theorem ag_char {x : Int32} (h : 0 ≤ x ∧ x < 65536) : narrow .char (.int x) = .int x ∧ fits .char (.int x) = true := by
  obtain ⟨j, hj, rfl⟩ := nI_of (x := x) (by
    intro h9
    have a := Int32.le_iff_toInt_le.mp h.1
    have b := Int32.lt_iff_toInt_lt.mp h9
    omega)
  have h2 : nI j < nI 65536 := h.2
  exact pk_charN ((nI_ltI hj (by decide)).mp h2)
theorem ag_bool {x : Int32} (h : x = 0 ∨ x = 1) : narrow .boolean (.int x) = .int x ∧ fits .boolean (.int x) = true := by
  rcases h with rfl | rfl <;> exact ⟨by decide, by decide⟩
section AGX
variable {p : Program} {l : Launch} {e : Env} {R : Room} {s : State} {m : MethodId} {args : Array Value} {below : List Frame} {meth : Method} {c : Code} {H : Heap} {locs : List Loc} {cells slots : Nat} {Q : State → Prop} {cc : ByteArray} {pc : Nat} {ls : Array Slot} {rest : List Value} {D : ag_D} {base : Nat} {h : ag_H} {own C : String} {T : u_T} {N : Nat} {Ts : List Cond} {a t : Nat} {xs : List ag_V} {j : Int32} {v : ag_V}
theorem ag_w_iald (hx : p.tables.exec = Jvm.exec) (hb : c.code = cc) (hK : ag_K D s) (hR : ag_rep D base h H) (ha : h.2.2 a = some (100, xs)) (h0 : ¬ j < 0) (hv : xs[j.toNatClampNeg]? = some v) (hdg : decode cc pc = .ok (.iaload, 1))
    (kk : W p l e R s m args below meth c H locs cells slots Q (F0 m (pc + 1) ls (ag_v v :: rest))) : W p l e R s m args below meth c H locs cells slots Q (F0 m pc ls (.int j :: .ref a :: rest)) :=
  W.iald hx hb (hR.arr (t := 0) ha).2 (hK.isArr (t := 0) (by decide) xs) (fun q => by cases q) (ag_in_of h0 (List.getElem?_eq_some_iff.mp hv).1) (ag_arr_at hv) rfl rfl hdg kk
theorem ag_w_cald (hx : p.tables.exec = Jvm.exec) (hb : c.code = cc) (hK : ag_K D s) (hR : ag_rep D base h H) (ha : h.2.2 a = some (101, xs)) (h0 : ¬ j < 0) (hv : xs[j.toNatClampNeg]? = some v) (hdg : decode cc pc = .ok (.caload, 1))
    (kk : W p l e R s m args below meth c H locs cells slots Q (F0 m (pc + 1) ls (ag_v v :: rest))) : W p l e R s m args below meth c H locs cells slots Q (F0 m pc ls (.int j :: .ref a :: rest)) :=
  W.cald hx hb (hR.arr (t := 1) ha).2 (hK.isArr (t := 1) (by decide) xs) (fun q => by cases q) (ag_in_of h0 (List.getElem?_eq_some_iff.mp hv).1) (ag_arr_at hv) rfl rfl hdg kk
theorem ag_w_zald (hx : p.tables.exec = Jvm.exec) (hb : c.code = cc) (hK : ag_K D s) (hR : ag_rep D base h H) (ha : h.2.2 a = some (102, xs)) (h0 : ¬ j < 0) (hv : xs[j.toNatClampNeg]? = some v) (hdg : decode cc pc = .ok (.baload, 1))
    (kk : W p l e R s m args below meth c H locs cells slots Q (F0 m (pc + 1) ls (ag_v v :: rest))) : W p l e R s m args below meth c H locs cells slots Q (F0 m pc ls (.int j :: .ref a :: rest)) :=
  W.zald hx hb (hR.arr (t := 2) ha).2 (hK.isArr (t := 2) (by decide) xs) (fun q => by cases q) (ag_in_of h0 (List.getElem?_eq_some_iff.mp hv).1) (ag_arr_at hv) rfl rfl hdg kk
theorem ag_ct_ref {t : Nat} (h3 : 3 ≤ t) : ∃ C : String, ag_ct t = .object C := by
  match t, h3 with
  | 3, _ => exact ⟨_, rfl⟩
  | 4, _ => exact ⟨_, rfl⟩
  | 5, _ => exact ⟨_, rfl⟩
  | 6, _ => exact ⟨_, rfl⟩
  | 7, _ => exact ⟨_, rfl⟩
  | (n + 8), _ => exact ⟨_, rfl⟩
theorem ag_w_aald (hx : p.tables.exec = Jvm.exec) (hb : c.code = cc) (hK : ag_K D s) (hR : ag_rep D base h H) (ha : h.2.2 a = some (100 + t, xs)) (h3 : 3 ≤ t) (h0 : ¬ j < 0) (hv : xs[j.toNatClampNeg]? = some v) (hdg : decode cc pc = .ok (.aaload, 1))
    (kk : W p l e R s m args below meth c H locs cells slots Q (F0 m (pc + 1) ls (ag_v v :: rest))) : W p l e R s m args below meth c H locs cells slots Q (F0 m pc ls (.int j :: .ref a :: rest)) := by
  obtain ⟨ht, hc⟩ := hR.arr ha
  obtain ⟨C, hC⟩ := ag_ct_ref h3
  exact W.aald (ty := .object C) hx hb hc (hC ▸ hK.isArr ht xs) rfl (fun q => by cases q) (ag_in_of h0 (List.getElem?_eq_some_iff.mp hv).1) (ag_arr_at hv) rfl rfl hdg kk
theorem ag_w_alen (hx : p.tables.exec = Jvm.exec) (hb : c.code = cc) (hK : ag_K D s) (hR : ag_rep D base h H) (ha : h.2.2 a = some (100 + t, xs)) (hdg : decode cc pc = .ok (.arraylength, 1))
    (kk : W p l e R s m args below meth c H locs cells slots Q (F0 m (pc + 1) ls (.int (nI xs.length) :: rest))) : W p l e R s m args below meth c H locs cells slots Q (F0 m pc ls (.ref a :: rest)) := by
  obtain ⟨ht, hc⟩ := hR.arr ha
  exact W.alen (n := nI xs.length) hx hb hc (hK.isArr ht xs) (by rw [ag_arr_sz]; rfl) rfl rfl hdg kk
theorem ag_arr_cell {H1 : Heap} (h9 : t < 9) (hc : H1[a]? = some (ag_arr D t xs)) : ag_cell D (100 + t, xs) a H1 := by
  refine Or.inr ⟨by show 100 ≤ 100 + t; omega, by show 100 + t < 109; omega, ?_⟩
  show H1[a]? = some (ag_arr D (100 + t - 100) xs)
  rw [show 100 + t - 100 = t by omega]
  exact hc
theorem ag_w_iast {x : Int32} (hx : p.tables.exec = Jvm.exec) (hb : c.code = cc) (hK : ag_K D s) (hR : ag_rep D base h H) (ha : h.2.2 a = some (100, xs)) (h0 : ¬ j < 0) (hj : j.toNatClampNeg < xs.length) (hdg : decode cc pc = .ok (.iastore, 1))
    (kk : ∀ (H1 : Heap) (i : Nat), ag_rep D base (ag_set h a (100, xs.set j.toNatClampNeg (.inl x))) H1 → H1.size = H.size → (∀ b : Nat, b ≠ a → H1[b]? = H[b]?) → W p l e R s m args below meth c H1 (locs ++ [⟨a, i⟩]) cells slots Q (F0 m (pc + 1) ls rest)) : W p l e R s m args below meth c H locs cells slots Q (F0 m pc ls (.int x :: .int j :: .ref a :: rest)) := by
  refine W.iast hx hb (hR.arr (t := 0) ha).2 (hK.isArr (t := 0) (by decide) xs) (fun q => by cases q) (ag_in_of h0 hj) rfl rfl hdg fun H1 e1 e2 e3 => kk H1 _ (hR.put ha e2 e3 (ag_arr_cell (t := 0) (by decide) ?_)) e2 e3
  rw [e1]; exact congrArg some (ag_arr_set (v := .inl x))
theorem ag_w_cast {x : Int32} (hx : p.tables.exec = Jvm.exec) (hb : c.code = cc) (hK : ag_K D s) (hR : ag_rep D base h H) (ha : h.2.2 a = some (101, xs)) (h0 : ¬ j < 0) (hj : j.toNatClampNeg < xs.length) (hxc : 0 ≤ x ∧ x < 65536) (hdg : decode cc pc = .ok (.castore, 1))
    (kk : ∀ (H1 : Heap) (i : Nat), ag_rep D base (ag_set h a (101, xs.set j.toNatClampNeg (.inl x))) H1 → H1.size = H.size → (∀ b : Nat, b ≠ a → H1[b]? = H[b]?) → W p l e R s m args below meth c H1 (locs ++ [⟨a, i⟩]) cells slots Q (F0 m (pc + 1) ls rest)) : W p l e R s m args below meth c H locs cells slots Q (F0 m pc ls (.int x :: .int j :: .ref a :: rest)) := by
  refine W.cast hx hb (hR.arr (t := 1) ha).2 (hK.isArr (t := 1) (by decide) xs) (fun q => by cases q) (ag_in_of h0 hj) rfl rfl hdg fun H1 e1 e2 e3 => kk H1 _ (hR.put ha e2 e3 (ag_arr_cell (t := 1) (by decide) ?_)) e2 e3
  rw [e1, (ag_char hxc).1]; exact congrArg some (ag_arr_set (v := .inl x))
theorem ag_w_zast {x : Int32} (hx : p.tables.exec = Jvm.exec) (hb : c.code = cc) (hK : ag_K D s) (hR : ag_rep D base h H) (ha : h.2.2 a = some (102, xs)) (h0 : ¬ j < 0) (hj : j.toNatClampNeg < xs.length) (hxc : x = 0 ∨ x = 1) (hdg : decode cc pc = .ok (.bastore, 1))
    (kk : ∀ (H1 : Heap) (i : Nat), ag_rep D base (ag_set h a (102, xs.set j.toNatClampNeg (.inl x))) H1 → H1.size = H.size → (∀ b : Nat, b ≠ a → H1[b]? = H[b]?) → W p l e R s m args below meth c H1 (locs ++ [⟨a, i⟩]) cells slots Q (F0 m (pc + 1) ls rest)) : W p l e R s m args below meth c H locs cells slots Q (F0 m pc ls (.int x :: .int j :: .ref a :: rest)) := by
  refine W.zast hx hb (hR.arr (t := 2) ha).2 (hK.isArr (t := 2) (by decide) xs) (fun q => by cases q) (ag_in_of h0 hj) rfl rfl hdg fun H1 e1 e2 e3 => kk H1 _ (hR.put ha e2 e3 (ag_arr_cell (t := 2) (by decide) ?_)) e2 e3
  rw [e1, (ag_bool hxc).1]; exact congrArg some (ag_arr_set (v := .inl x))
/-- a reference into an array of objects of class ci -/
theorem ag_w_aast {o : Option Nat} {ci : Nat} (hx : p.tables.exec = Jvm.exec) (hb : c.code = cc) (hK : ag_K D s) (hR : ag_rep D base h H) (ha : h.2.2 a = some (100 + t, xs)) (hr : vwCl[ci]? = some (C, T, N)) (hci : ci < 100) (hC : ag_ct t = .object C) (ho : ∀ b, o = some b → ∃ fs, h.2.2 b = some (ci, fs)) (h0 : ¬ j < 0) (hj : j.toNatClampNeg < xs.length) (hdg : decode cc pc = .ok (.aastore, 1))
    (kk : ∀ (H1 : Heap) (i : Nat), ag_rep D base (ag_set h a (100 + t, xs.set j.toNatClampNeg (.inr o))) H1 → H1.size = H.size → (∀ b : Nat, b ≠ a → H1[b]? = H[b]?) → W p l e R s m args below meth c H1 (locs ++ [⟨a, i⟩]) cells slots Q (F0 m (pc + 1) ls rest)) : W p l e R s m args below meth c H locs cells slots Q (F0 m pc ls (ag_v (.inr o) :: .int j :: .ref a :: rest)) := by
  obtain ⟨ht, hc⟩ := hR.arr ha
  have hia := hK.isArr ht xs
  rw [hC] at hia
  cases o with
  | none =>
    refine va_WaastN (C := C) hx hb hc hia (fun q => by cases q) (ag_in_of h0 hj) rfl rfl hdg fun H1 e1 e2 e3 => kk H1 _ (hR.put ha e2 e3 (ag_arr_cell ht ?_)) e2 e3
    rw [e1]; exact congrArg some (ag_arr_set (v := .inr none))
  | some b =>
    obtain ⟨fs, hb2⟩ := ho b rfl
    obtain ⟨-, r, h1, cellV, g1, g2, g3, -⟩ := hR.obj hb2 hci
    have hcls := (hK.1 ci _ hr).2
    obtain ⟨kC, hkC, -⟩ := hcls.2
    have hRA := (hK.arr ht).2
    rw [hC] at hRA
    obtain ⟨kA, comp, k1, k2, k3, -⟩ := hRA
    have hcomp : comp = D.1 ci := Option.some.inj (k3.symm.trans hcls.1)
    subst hcomp
    have g2 : cellV.cls = D.1 ci := g2
    have hkC : s.vm.classes[D.1 ci]? = some kC := hkC
    refine W.aast hx hb hc (fun q h9 => by cases h9) (fun h9 => by cases h9) k1 k2 rfl hkC ⟨h0, by rw [ag_arr_sz]; exact hj⟩ g1 (fun q h9 => by rw [g3] at h9; cases h9) (by rw [g2]; exact hkC) (by rw [g2]; exact va_assign hcls) rfl rfl hdg fun H1 e1 e2 e3 => kk H1 _ (hR.put ha e2 e3 (ag_arr_cell ht ?_)) e2 e3
    rw [e1]; exact congrArg some (ag_arr_set (v := .inr (some b)))
theorem ag_push {H : Heap} {cl : Cell} : (H.push cl).size = H.size + 1 ∧ (H.push cl)[H.size]? = some cl ∧ ∀ b : Nat, b < H.size → (H.push cl)[b]? = H[b]? :=
  ⟨Array.size_push _, Array.getElem?_push_size, fun b hb => by rw [Array.getElem?_push, if_neg (Nat.ne_of_lt hb)]⟩
theorem ag_w_newa {n : Int32} {at9 : ArrayType} (hx : p.tables.exec = Jvm.exec) (hb : c.code = cc) (hK : ag_K D s) (hR : ag_rep D base h H) (hbase : base ≤ H.size) (harr : (Cond.arrayClass (newarray.typeOf at9)).before args s = true) (ht : t < 3) (hct : newarray.typeOf at9 = ag_ct t) (hn : ¬ n < 0) (hN : n.toNatClampNeg < 100000) (hcells : cells + 1 ≤ R.cells) (hslots : slots + n.toNatClampNeg ≤ R.slots) (hdg : decode cc pc = .ok (.newarray at9, 2))
    (kk : ∀ H1 : Heap, ag_rep D base (ag_new h n.toNatClampNeg (100 + t, List.replicate n.toNatClampNeg (.inl 0))) H1 → H1.size = H.size + 1 → (∀ b : Nat, b < H.size → H1[b]? = H[b]?) → W p l e R s m args below meth c H1 locs (cells + 1) (slots + n.toNatClampNeg) Q (F0 m (pc + 2) ls (.ref h.1 :: rest))) : W p l e R s m args below meth c H locs cells slots Q (F0 m pc ls (.int n :: rest)) := by
  have ht9 : t < 9 := by omega
  have hd : defaultValue (ag_ct t) = .int 0 ∧ va_RA s (D.2.2 t) (ag_ct t) = (s.vm.findClass ("[" ++ (ag_ct t).toString) = some (D.2.2 t)) := by
    match t, ht with
    | 0, _ => exact ⟨rfl, rfl⟩
    | 1, _ => exact ⟨rfl, rfl⟩
    | 2, _ => exact ⟨rfl, rfl⟩
  have hRA := (hK.arr ht9).2
  rw [hd.2] at hRA
  have hby : n.toNatClampNeg * componentBytes (newarray.typeOf at9) ≤ 536870912 := by
    rw [hct]
    match t, ht with
    | 0, _ => show n.toNatClampNeg * 4 ≤ 536870912; omega
    | 1, _ => show n.toNatClampNeg * 2 ≤ 536870912; omega
    | 2, _ => show n.toNatClampNeg * 1 ≤ 536870912; omega
  refine W.newa hx hb harr rfl hdg rfl hn hby hcells hslots fun cA kA comp f1 f2 f3 => ?_
  rw [hct] at f1 ⊢
  have hcA : cA = D.2.2 t := Option.some.inj (f1.symm.trans hRA)
  subst hcA
  obtain ⟨z1, e1, o1⟩ := ag_push (H := H) (cl := ({ cls := D.2.2 t, slots := Array.replicate n.toNatClampNeg (defaultValue (ag_ct t)), vm := .none } : Cell))
  rw [← hR.1] at kk
  refine kk _ (hR.push hbase z1 o1 (ag_arr_cell ht9 ?_)) z1 o1
  rw [e1, hd.1]
  congr 1
  unfold ag_arr
  simp [ag_v]
theorem ag_w_newq {n : Int32} {idx : Nat} (hx : p.tables.exec = Jvm.exec) (hb : c.code = cc) (hown : s.vm.findClass own = some m.cls) (hK : ag_K D s) (hR : ag_rep D base h H) (hbase : base ≤ H.size) (hcl : (Cond.classLink own idx C).before args s = true) (hov : (Cond.arrayOver (.object C)).before args s = true) (ht : t < 9) (hct : ag_ct t = .object C) (hn : ¬ n < 0) (hN : n.toNatClampNeg < 100000) (hcells : cells + 1 ≤ R.cells) (hslots : slots + n.toNatClampNeg ≤ R.slots) (hdg : decode cc pc = .ok (.anewarray idx, 3))
    (kk : ∀ H1 : Heap, ag_rep D base (ag_new h n.toNatClampNeg (100 + t, List.replicate n.toNatClampNeg (.inr none))) H1 → H1.size = H.size + 1 → (∀ b : Nat, b < H.size → H1[b]? = H[b]?) → W p l e R s m args below meth c H1 locs (cells + 1) (slots + n.toNatClampNeg) Q (F0 m (pc + 3) ls (.ref h.1 :: rest))) : W p l e R s m args below meth c H locs cells slots Q (F0 m pc ls (.int n :: rest)) := by
  have hRA := (hK.arr ht).2
  rw [hct] at hRA
  obtain ⟨kA, comp, k1, k2, k3, k4⟩ := hRA
  refine W.anew hx hb hown hcl hov rfl hdg rfl hn (by omega) hcells hslots fun cA kA9 comp9 f1 f2 f3 f4 => ?_
  have hcA : cA = D.2.2 t := Option.some.inj (f1.symm.trans k4)
  subst hcA
  obtain ⟨z1, e1, o1⟩ := ag_push (H := H) (cl := ({ cls := D.2.2 t, slots := Array.replicate n.toNatClampNeg .null, vm := .none } : Cell))
  rw [← hR.1] at kk
  refine kk _ (hR.push hbase z1 o1 (ag_arr_cell ht ?_)) z1 o1
  rw [e1]
  congr 1
  unfold ag_arr
  simp [ag_v]
theorem ag_fs_eq {ci : Nat} (hr : vwCl[ci]? = some (C, T, N)) : ag_fs ci = (List.range N).map fun k => match parseFieldDescriptor (T k).2.2.1 with
    | some t => ag_df t
    | none => .inl 0 := by
  unfold ag_fs
  rw [hr]
  rfl
theorem ag_w_new {ci idx : Nat} (hx : p.tables.exec = Jvm.exec) (hb : c.code = cc) (hts : ∀ w ∈ Ts, w.before args s = true) (hin : ∀ w ∈ u_ws C T N, w ∈ Ts) (ty0 : Nat → FieldType) (hty : ∀ k, k < N → parseFieldDescriptor (T k).2.2.1 = some (ty0 k)) (hdf : ∀ k, k < N → defaultValue (ty0 k) = ag_v (ag_df (ty0 k))) (hown : s.vm.findClass own = some m.cls) (hcl : (Cond.classLink own idx C).before args s = true) (hinst : (Cond.instantiable C N).before args s = true) (hini : (Cond.initialized C).before args s = true)
    (hK : ag_K D s) (hR : ag_rep D base h H) (hbase : base ≤ H.size) (hci : ci < 100) (hr : vwCl[ci]? = some (C, T, N)) (hcells : cells + 1 ≤ R.cells) (hslots : slots + N ≤ R.slots) (hdg : decode cc pc = .ok (.new idx, 3))
    (kk : ∀ H1 : Heap, ag_rep D base (ag_new h (ag_fs ci).length (ci, ag_fs ci)) H1 → H1.size = H.size + 1 → (∀ b : Nat, b < H.size → H1[b]? = H[b]?) → W p l e R s m args below meth c H1 locs (cells + 1) (slots + N) Q (F0 m (pc + 3) ls (.ref h.1 :: rest))) : W p l e R s m args below meth c H locs cells slots Q (F0 m pc ls rest) := by
  have hKn := hK.1 ci _ hr
  rw [← hR.1] at kk
  refine W.newcK hx hb hown hcl hinst hini rfl hdg hcells hslots hKn.2.1 rfl fun H1 kC hkC e1 z1 o1 => ?_
  refine kk H1 (hR.push hbase z1 o1 (Or.inl ⟨hci, ⟨_, hr, ?_⟩, _, hr, ?_⟩)) z1 o1
  · show (ag_fs ci).length = N
    rw [ag_fs_eq hr]
    simp
  · refine (u_born ty0 hts hin hKn hkC e1 hty).to fun k hk => ?_
    show defaultValue (ty0 k) = vp_V ((ag_fs ci).map ag_v) k
    rw [ag_fs_eq hr, hdf k hk]
    simp [vp_V, hk, hty k hk]
end AGX
end
