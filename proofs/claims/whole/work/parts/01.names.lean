-- ===== PART A: goes FIRST, ahead of the names: the tables' words, and 'selects' of the private methods out of them =====
/-- a private method of a class that the tables say can be made, by its rows of tables_1 -/
def lw_okq (q : MethodName × Nat) : Prop := (q.1.cls ≠ "java/lang/invoke/MethodHandle" ∧ q.1.cls ≠ "java/lang/invoke/VarHandle") ∧ Cond.instantiable q.1.cls q.2 ∈ tables_1 ∧ Cond.privateMethod q.1 ∈ tables_1 ∧ Cond.instanceMethod q.1 ∈ tables_1
theorem lw_p0 : lw_okq (⟨"GreenDoor$Scene", "thoseWith", "(II)I"⟩, 3) := ⟨⟨by decide +kernel, by decide +kernel⟩, List.mem_of_getElem? (i := 31) (by decide +kernel), List.mem_of_getElem? (i := 313) (by decide +kernel), List.mem_of_getElem? (i := 314) (by decide +kernel)⟩
theorem lw_p1 : lw_okq (⟨"GreenDoor$Text", "endOfToken", "(I)I"⟩, 5) := ⟨⟨by decide +kernel, by decide +kernel⟩, List.mem_of_getElem? (i := 58) (by decide +kernel), List.mem_of_getElem? (i := 379) (by decide +kernel), List.mem_of_getElem? (i := 380) (by decide +kernel)⟩
theorem lw_p2 : lw_okq (⟨"GreenDoor$Text", "sortAt", "(I)I"⟩, 5) := ⟨⟨by decide +kernel, by decide +kernel⟩, List.mem_of_getElem? (i := 58) (by decide +kernel), List.mem_of_getElem? (i := 383) (by decide +kernel), List.mem_of_getElem? (i := 384) (by decide +kernel)⟩
theorem lw_p3 : lw_okq (⟨"GreenDoor$Text", "readNumber", "(II)Z"⟩, 5) := ⟨⟨by decide +kernel, by decide +kernel⟩, List.mem_of_getElem? (i := 58) (by decide +kernel), List.mem_of_getElem? (i := 388) (by decide +kernel), List.mem_of_getElem? (i := 389) (by decide +kernel)⟩
theorem lw_p4 : lw_okq (⟨"GreenDoor$Text", "readWord", "(II)Z"⟩, 5) := ⟨⟨by decide +kernel, by decide +kernel⟩, List.mem_of_getElem? (i := 58) (by decide +kernel), List.mem_of_getElem? (i := 396) (by decide +kernel), List.mem_of_getElem? (i := 397) (by decide +kernel)⟩
theorem lw_p5 : lw_okq (⟨"GreenDoor", "told", "(LGreenDoor$Saying;I)I"⟩, 12) := ⟨⟨by decide +kernel, by decide +kernel⟩, List.mem_of_getElem? (i := 23) (by decide +kernel), List.mem_of_getElem? (i := 467) (by decide +kernel), List.mem_of_getElem? (i := 468) (by decide +kernel)⟩
theorem lw_p6 : lw_okq (⟨"GreenDoor$Scene", "thoseMarked", "(I)I"⟩, 3) := ⟨⟨by decide +kernel, by decide +kernel⟩, List.mem_of_getElem? (i := 31) (by decide +kernel), List.mem_of_getElem? (i := 487) (by decide +kernel), List.mem_of_getElem? (i := 488) (by decide +kernel)⟩
theorem lw_p7 : lw_okq (⟨"GreenDoor$Scene", "thoseLinked", "(II)I"⟩, 3) := ⟨⟨by decide +kernel, by decide +kernel⟩, List.mem_of_getElem? (i := 31) (by decide +kernel), List.mem_of_getElem? (i := 495) (by decide +kernel), List.mem_of_getElem? (i := 496) (by decide +kernel)⟩
theorem lw_p8 : lw_okq (⟨"GreenDoor$Scene", "greatestSize", "(I)I"⟩, 3) := ⟨⟨by decide +kernel, by decide +kernel⟩, List.mem_of_getElem? (i := 31) (by decide +kernel), List.mem_of_getElem? (i := 499) (by decide +kernel), List.mem_of_getElem? (i := 500) (by decide +kernel)⟩
theorem lw_p9 : lw_okq (⟨"GreenDoor$Scene", "ofSize", "(II)I"⟩, 3) := ⟨⟨by decide +kernel, by decide +kernel⟩, List.mem_of_getElem? (i := 31) (by decide +kernel), List.mem_of_getElem? (i := 506) (by decide +kernel), List.mem_of_getElem? (i := 507) (by decide +kernel)⟩
theorem lw_p10 : lw_okq (⟨"GreenDoor$Scene", "leastSize", "(I)I"⟩, 3) := ⟨⟨by decide +kernel, by decide +kernel⟩, List.mem_of_getElem? (i := 31) (by decide +kernel), List.mem_of_getElem? (i := 510) (by decide +kernel), List.mem_of_getElem? (i := 511) (by decide +kernel)⟩
theorem lw_p11 : lw_okq (⟨"GreenDoor$Scene", "leftmost", "(I)I"⟩, 3) := ⟨⟨by decide +kernel, by decide +kernel⟩, List.mem_of_getElem? (i := 31) (by decide +kernel), List.mem_of_getElem? (i := 515) (by decide +kernel), List.mem_of_getElem? (i := 516) (by decide +kernel)⟩
theorem lw_p12 : lw_okq (⟨"GreenDoor", "waysWith", "(I)LGreenDoor$Ways;"⟩, 12) := ⟨⟨by decide +kernel, by decide +kernel⟩, List.mem_of_getElem? (i := 23) (by decide +kernel), List.mem_of_getElem? (i := 555) (by decide +kernel), List.mem_of_getElem? (i := 556) (by decide +kernel)⟩
theorem lw_p13 : lw_okq (⟨"GreenDoor$Ways", "start", "(LGreenDoor$Scene;[I)V"⟩, 12) := ⟨⟨by decide +kernel, by decide +kernel⟩, List.mem_of_getElem? (i := 105) (by decide +kernel), List.mem_of_getElem? (i := 563) (by decide +kernel), List.mem_of_getElem? (i := 564) (by decide +kernel)⟩
theorem lw_p14 : lw_okq (⟨"GreenDoor$Ways", "offerNamed", "(LGreenDoor$Scene;II)V"⟩, 12) := ⟨⟨by decide +kernel, by decide +kernel⟩, List.mem_of_getElem? (i := 105) (by decide +kernel), List.mem_of_getElem? (i := 572) (by decide +kernel), List.mem_of_getElem? (i := 573) (by decide +kernel)⟩
theorem lw_p15 : lw_okq (⟨"GreenDoor$Ways", "offer", "(III)V"⟩, 12) := ⟨⟨by decide +kernel, by decide +kernel⟩, List.mem_of_getElem? (i := 105) (by decide +kernel), List.mem_of_getElem? (i := 579) (by decide +kernel), List.mem_of_getElem? (i := 580) (by decide +kernel)⟩
def lw_privs_1 : List (MethodName × Nat) := [(⟨"GreenDoor$Scene", "thoseWith", "(II)I"⟩, 3), (⟨"GreenDoor$Text", "endOfToken", "(I)I"⟩, 5), (⟨"GreenDoor$Text", "sortAt", "(I)I"⟩, 5), (⟨"GreenDoor$Text", "readNumber", "(II)Z"⟩, 5), (⟨"GreenDoor$Text", "readWord", "(II)Z"⟩, 5), (⟨"GreenDoor", "told", "(LGreenDoor$Saying;I)I"⟩, 12), (⟨"GreenDoor$Scene", "thoseMarked", "(I)I"⟩, 3), (⟨"GreenDoor$Scene", "thoseLinked", "(II)I"⟩, 3), (⟨"GreenDoor$Scene", "greatestSize", "(I)I"⟩, 3), (⟨"GreenDoor$Scene", "ofSize", "(II)I"⟩, 3), (⟨"GreenDoor$Scene", "leastSize", "(I)I"⟩, 3), (⟨"GreenDoor$Scene", "leftmost", "(I)I"⟩, 3), (⟨"GreenDoor", "waysWith", "(I)LGreenDoor$Ways;"⟩, 12), (⟨"GreenDoor$Ways", "start", "(LGreenDoor$Scene;[I)V"⟩, 12), (⟨"GreenDoor$Ways", "offerNamed", "(LGreenDoor$Scene;II)V"⟩, 12), (⟨"GreenDoor$Ways", "offer", "(III)V"⟩, 12)]
theorem lw_r1 : ∀ q ∈ lw_privs_1, lw_okq q := List.forall_mem_cons.mpr ⟨lw_p0, List.forall_mem_cons.mpr ⟨lw_p1, List.forall_mem_cons.mpr ⟨lw_p2, List.forall_mem_cons.mpr ⟨lw_p3, List.forall_mem_cons.mpr ⟨lw_p4, List.forall_mem_cons.mpr ⟨lw_p5, List.forall_mem_cons.mpr ⟨lw_p6, List.forall_mem_cons.mpr ⟨lw_p7, List.forall_mem_cons.mpr ⟨lw_p8, List.forall_mem_cons.mpr ⟨lw_p9, List.forall_mem_cons.mpr ⟨lw_p10, List.forall_mem_cons.mpr ⟨lw_p11, List.forall_mem_cons.mpr ⟨lw_p12, List.forall_mem_cons.mpr ⟨lw_p13, List.forall_mem_cons.mpr ⟨lw_p14, List.forall_mem_cons.mpr ⟨lw_p15, fun _ h => absurd h List.not_mem_nil⟩⟩⟩⟩⟩⟩⟩⟩⟩⟩⟩⟩⟩⟩⟩⟩
theorem lw_p16 : lw_okq (⟨"GreenDoor$Ways", "isAhead", "(II)Z"⟩, 12) := ⟨⟨by decide +kernel, by decide +kernel⟩, List.mem_of_getElem? (i := 105) (by decide +kernel), List.mem_of_getElem? (i := 583) (by decide +kernel), List.mem_of_getElem? (i := 584) (by decide +kernel)⟩
theorem lw_p17 : lw_okq (⟨"GreenDoor$Ways", "nearest", "(I)I"⟩, 12) := ⟨⟨by decide +kernel, by decide +kernel⟩, List.mem_of_getElem? (i := 105) (by decide +kernel), List.mem_of_getElem? (i := 589) (by decide +kernel), List.mem_of_getElem? (i := 590) (by decide +kernel)⟩
theorem lw_p18 : lw_okq (⟨"GreenDoor$Ways", "reach", "(I)V"⟩, 12) := ⟨⟨by decide +kernel, by decide +kernel⟩, List.mem_of_getElem? (i := 105) (by decide +kernel), List.mem_of_getElem? (i := 594) (by decide +kernel), List.mem_of_getElem? (i := 595) (by decide +kernel)⟩
theorem lw_p19 : lw_okq (⟨"GreenDoor$Ways", "turn", "(LGreenDoor$Scene;[II)V"⟩, 12) := ⟨⟨by decide +kernel, by decide +kernel⟩, List.mem_of_getElem? (i := 105) (by decide +kernel), List.mem_of_getElem? (i := 599) (by decide +kernel), List.mem_of_getElem? (i := 600) (by decide +kernel)⟩
theorem lw_p20 : lw_okq (⟨"GreenDoor$Ways", "joinAll", "([II)V"⟩, 12) := ⟨⟨by decide +kernel, by decide +kernel⟩, List.mem_of_getElem? (i := 105) (by decide +kernel), List.mem_of_getElem? (i := 604) (by decide +kernel), List.mem_of_getElem? (i := 605) (by decide +kernel)⟩
theorem lw_p21 : lw_okq (⟨"GreenDoor$Ways", "joinTwo", "([III)V"⟩, 12) := ⟨⟨by decide +kernel, by decide +kernel⟩, List.mem_of_getElem? (i := 105) (by decide +kernel), List.mem_of_getElem? (i := 608) (by decide +kernel), List.mem_of_getElem? (i := 609) (by decide +kernel)⟩
theorem lw_p22 : lw_okq (⟨"GreenDoor$Twins", "part", "(LGreenDoor$Scene;I)Z"⟩, 3) := ⟨⟨by decide +kernel, by decide +kernel⟩, List.mem_of_getElem? (i := 182) (by decide +kernel), List.mem_of_getElem? (i := 650) (by decide +kernel), List.mem_of_getElem? (i := 651) (by decide +kernel)⟩
theorem lw_p23 : lw_okq (⟨"GreenDoor$Twins", "hasAsMany", "(LGreenDoor$Scene;II)Z"⟩, 3) := ⟨⟨by decide +kernel, by decide +kernel⟩, List.mem_of_getElem? (i := 182) (by decide +kernel), List.mem_of_getElem? (i := 657) (by decide +kernel), List.mem_of_getElem? (i := 658) (by decide +kernel)⟩
theorem lw_p24 : lw_okq (⟨"GreenDoor", "firstBreak", "(LGreenDoor$Saying;)I"⟩, 12) := ⟨⟨by decide +kernel, by decide +kernel⟩, List.mem_of_getElem? (i := 23) (by decide +kernel), List.mem_of_getElem? (i := 675) (by decide +kernel), List.mem_of_getElem? (i := 676) (by decide +kernel)⟩
theorem lw_p25 : lw_okq (⟨"GreenDoor", "think", "(I)V"⟩, 12) := ⟨⟨by decide +kernel, by decide +kernel⟩, List.mem_of_getElem? (i := 23) (by decide +kernel), List.mem_of_getElem? (i := 683) (by decide +kernel), List.mem_of_getElem? (i := 684) (by decide +kernel)⟩
theorem lw_p26 : lw_okq (⟨"GreenDoor$Hearer", "isBetter", "(II)Z"⟩, 4) := ⟨⟨by decide +kernel, by decide +kernel⟩, List.mem_of_getElem? (i := 200) (by decide +kernel), List.mem_of_getElem? (i := 704) (by decide +kernel), List.mem_of_getElem? (i := 705) (by decide +kernel)⟩
theorem lw_p27 : lw_okq (⟨"GreenDoor$Misheard", "hearAs", "(LGreenDoor$Scene;LGreenDoor$Saying;II)V"⟩, 3) := ⟨⟨by decide +kernel, by decide +kernel⟩, List.mem_of_getElem? (i := 220) (by decide +kernel), List.mem_of_getElem? (i := 738) (by decide +kernel), List.mem_of_getElem? (i := 739) (by decide +kernel)⟩
theorem lw_p28 : lw_okq (⟨"GreenDoor$Talk", "pointingAt", "(I)I"⟩, 2) := ⟨⟨by decide +kernel, by decide +kernel⟩, List.mem_of_getElem? (i := 239) (by decide +kernel), List.mem_of_getElem? (i := 766) (by decide +kernel), List.mem_of_getElem? (i := 767) (by decide +kernel)⟩
theorem lw_p29 : lw_okq (⟨"GreenDoor$BestMark", "tryMark", "(LGreenDoor$Scene;[III)V"⟩, 5) := ⟨⟨by decide +kernel, by decide +kernel⟩, List.mem_of_getElem? (i := 154) (by decide +kernel), List.mem_of_getElem? (i := 786) (by decide +kernel), List.mem_of_getElem? (i := 787) (by decide +kernel)⟩
theorem lw_p30 : lw_okq (⟨"GreenDoorModel", "isThing", "(I)Z"⟩, 41) := ⟨⟨by decide +kernel, by decide +kernel⟩, List.mem_of_getElem? (i := 797) (by decide +kernel), List.mem_of_getElem? (i := 939) (by decide +kernel), List.mem_of_getElem? (i := 940) (by decide +kernel)⟩
theorem lw_p31 : lw_okq (⟨"GreenDoorModel", "tieMany", "()I"⟩, 41) := ⟨⟨by decide +kernel, by decide +kernel⟩, List.mem_of_getElem? (i := 797) (by decide +kernel), List.mem_of_getElem? (i := 947) (by decide +kernel), List.mem_of_getElem? (i := 948) (by decide +kernel)⟩
def lw_privs_2 : List (MethodName × Nat) := [(⟨"GreenDoor$Ways", "isAhead", "(II)Z"⟩, 12), (⟨"GreenDoor$Ways", "nearest", "(I)I"⟩, 12), (⟨"GreenDoor$Ways", "reach", "(I)V"⟩, 12), (⟨"GreenDoor$Ways", "turn", "(LGreenDoor$Scene;[II)V"⟩, 12), (⟨"GreenDoor$Ways", "joinAll", "([II)V"⟩, 12), (⟨"GreenDoor$Ways", "joinTwo", "([III)V"⟩, 12), (⟨"GreenDoor$Twins", "part", "(LGreenDoor$Scene;I)Z"⟩, 3), (⟨"GreenDoor$Twins", "hasAsMany", "(LGreenDoor$Scene;II)Z"⟩, 3), (⟨"GreenDoor", "firstBreak", "(LGreenDoor$Saying;)I"⟩, 12), (⟨"GreenDoor", "think", "(I)V"⟩, 12), (⟨"GreenDoor$Hearer", "isBetter", "(II)Z"⟩, 4), (⟨"GreenDoor$Misheard", "hearAs", "(LGreenDoor$Scene;LGreenDoor$Saying;II)V"⟩, 3), (⟨"GreenDoor$Talk", "pointingAt", "(I)I"⟩, 2), (⟨"GreenDoor$BestMark", "tryMark", "(LGreenDoor$Scene;[III)V"⟩, 5), (⟨"GreenDoorModel", "isThing", "(I)Z"⟩, 41), (⟨"GreenDoorModel", "tieMany", "()I"⟩, 41)]
theorem lw_r2 : ∀ q ∈ lw_privs_2, lw_okq q := List.forall_mem_cons.mpr ⟨lw_p16, List.forall_mem_cons.mpr ⟨lw_p17, List.forall_mem_cons.mpr ⟨lw_p18, List.forall_mem_cons.mpr ⟨lw_p19, List.forall_mem_cons.mpr ⟨lw_p20, List.forall_mem_cons.mpr ⟨lw_p21, List.forall_mem_cons.mpr ⟨lw_p22, List.forall_mem_cons.mpr ⟨lw_p23, List.forall_mem_cons.mpr ⟨lw_p24, List.forall_mem_cons.mpr ⟨lw_p25, List.forall_mem_cons.mpr ⟨lw_p26, List.forall_mem_cons.mpr ⟨lw_p27, List.forall_mem_cons.mpr ⟨lw_p28, List.forall_mem_cons.mpr ⟨lw_p29, List.forall_mem_cons.mpr ⟨lw_p30, List.forall_mem_cons.mpr ⟨lw_p31, fun _ h => absurd h List.not_mem_nil⟩⟩⟩⟩⟩⟩⟩⟩⟩⟩⟩⟩⟩⟩⟩⟩
theorem lw_p32 : lw_okq (⟨"GreenDoorModel", "besides", "(I)I"⟩, 41) := ⟨⟨by decide +kernel, by decide +kernel⟩, List.mem_of_getElem? (i := 797) (by decide +kernel), List.mem_of_getElem? (i := 958) (by decide +kernel), List.mem_of_getElem? (i := 959) (by decide +kernel)⟩
theorem lw_p33 : lw_okq (⟨"GreenDoorModel", "isRead", "()Z"⟩, 41) := ⟨⟨by decide +kernel, by decide +kernel⟩, List.mem_of_getElem? (i := 797) (by decide +kernel), List.mem_of_getElem? (i := 979) (by decide +kernel), List.mem_of_getElem? (i := 980) (by decide +kernel)⟩
theorem lw_p34 : lw_okq (⟨"GreenDoorModel", "nextToken", "()V"⟩, 41) := ⟨⟨by decide +kernel, by decide +kernel⟩, List.mem_of_getElem? (i := 797) (by decide +kernel), List.mem_of_getElem? (i := 983) (by decide +kernel), List.mem_of_getElem? (i := 984) (by decide +kernel)⟩
theorem lw_p35 : lw_okq (⟨"GreenDoorModel", "wordTold", "()I"⟩, 41) := ⟨⟨by decide +kernel, by decide +kernel⟩, List.mem_of_getElem? (i := 797) (by decide +kernel), List.mem_of_getElem? (i := 992) (by decide +kernel), List.mem_of_getElem? (i := 993) (by decide +kernel)⟩
theorem lw_p36 : lw_okq (⟨"GreenDoorModel", "fails", "()Z"⟩, 41) := ⟨⟨by decide +kernel, by decide +kernel⟩, List.mem_of_getElem? (i := 797) (by decide +kernel), List.mem_of_getElem? (i := 1011) (by decide +kernel), List.mem_of_getElem? (i := 1012) (by decide +kernel)⟩
theorem lw_p37 : lw_okq (⟨"GreenDoorModel", "meaning", "()I"⟩, 41) := ⟨⟨by decide +kernel, by decide +kernel⟩, List.mem_of_getElem? (i := 797) (by decide +kernel), List.mem_of_getElem? (i := 1022) (by decide +kernel), List.mem_of_getElem? (i := 1023) (by decide +kernel)⟩
theorem lw_p38 : lw_okq (⟨"GreenDoorModel", "allOf", "(II)I"⟩, 41) := ⟨⟨by decide +kernel, by decide +kernel⟩, List.mem_of_getElem? (i := 797) (by decide +kernel), List.mem_of_getElem? (i := 1026) (by decide +kernel), List.mem_of_getElem? (i := 1027) (by decide +kernel)⟩
theorem lw_p39 : lw_okq (⟨"GreenDoorModel", "made", "(III)I"⟩, 41) := ⟨⟨by decide +kernel, by decide +kernel⟩, List.mem_of_getElem? (i := 797) (by decide +kernel), List.mem_of_getElem? (i := 1030) (by decide +kernel), List.mem_of_getElem? (i := 1031) (by decide +kernel)⟩
theorem lw_p40 : lw_okq (⟨"GreenDoorModel", "every", "()I"⟩, 41) := ⟨⟨by decide +kernel, by decide +kernel⟩, List.mem_of_getElem? (i := 797) (by decide +kernel), List.mem_of_getElem? (i := 1034) (by decide +kernel), List.mem_of_getElem? (i := 1035) (by decide +kernel)⟩
theorem lw_p41 : lw_okq (⟨"GreenDoorModel", "bySize", "(IZ)I"⟩, 41) := ⟨⟨by decide +kernel, by decide +kernel⟩, List.mem_of_getElem? (i := 797) (by decide +kernel), List.mem_of_getElem? (i := 1038) (by decide +kernel), List.mem_of_getElem? (i := 1039) (by decide +kernel)⟩
theorem lw_p42 : lw_okq (⟨"GreenDoorModel", "leftmost", "(I)I"⟩, 41) := ⟨⟨by decide +kernel, by decide +kernel⟩, List.mem_of_getElem? (i := 797) (by decide +kernel), List.mem_of_getElem? (i := 1042) (by decide +kernel), List.mem_of_getElem? (i := 1043) (by decide +kernel)⟩
theorem lw_p43 : lw_okq (⟨"GreenDoorModel", "costTold", "()I"⟩, 41) := ⟨⟨by decide +kernel, by decide +kernel⟩, List.mem_of_getElem? (i := 797) (by decide +kernel), List.mem_of_getElem? (i := 1046) (by decide +kernel), List.mem_of_getElem? (i := 1047) (by decide +kernel)⟩
theorem lw_p44 : lw_okq (⟨"GreenDoorModel", "recall", "(I)V"⟩, 41) := ⟨⟨by decide +kernel, by decide +kernel⟩, List.mem_of_getElem? (i := 797) (by decide +kernel), List.mem_of_getElem? (i := 1058) (by decide +kernel), List.mem_of_getElem? (i := 1059) (by decide +kernel)⟩
theorem lw_p45 : lw_okq (⟨"GreenDoorModel", "search", "(I)V"⟩, 41) := ⟨⟨by decide +kernel, by decide +kernel⟩, List.mem_of_getElem? (i := 797) (by decide +kernel), List.mem_of_getElem? (i := 1069) (by decide +kernel), List.mem_of_getElem? (i := 1070) (by decide +kernel)⟩
theorem lw_p46 : lw_okq (⟨"GreenDoorModel", "offer", "(IIIII)V"⟩, 41) := ⟨⟨by decide +kernel, by decide +kernel⟩, List.mem_of_getElem? (i := 797) (by decide +kernel), List.mem_of_getElem? (i := 1073) (by decide +kernel), List.mem_of_getElem? (i := 1074) (by decide +kernel)⟩
theorem lw_p47 : lw_okq (⟨"GreenDoorModel", "cheapestLeft", "()I"⟩, 41) := ⟨⟨by decide +kernel, by decide +kernel⟩, List.mem_of_getElem? (i := 797) (by decide +kernel), List.mem_of_getElem? (i := 1077) (by decide +kernel), List.mem_of_getElem? (i := 1078) (by decide +kernel)⟩
def lw_privs_3 : List (MethodName × Nat) := [(⟨"GreenDoorModel", "besides", "(I)I"⟩, 41), (⟨"GreenDoorModel", "isRead", "()Z"⟩, 41), (⟨"GreenDoorModel", "nextToken", "()V"⟩, 41), (⟨"GreenDoorModel", "wordTold", "()I"⟩, 41), (⟨"GreenDoorModel", "fails", "()Z"⟩, 41), (⟨"GreenDoorModel", "meaning", "()I"⟩, 41), (⟨"GreenDoorModel", "allOf", "(II)I"⟩, 41), (⟨"GreenDoorModel", "made", "(III)I"⟩, 41), (⟨"GreenDoorModel", "every", "()I"⟩, 41), (⟨"GreenDoorModel", "bySize", "(IZ)I"⟩, 41), (⟨"GreenDoorModel", "leftmost", "(I)I"⟩, 41), (⟨"GreenDoorModel", "costTold", "()I"⟩, 41), (⟨"GreenDoorModel", "recall", "(I)V"⟩, 41), (⟨"GreenDoorModel", "search", "(I)V"⟩, 41), (⟨"GreenDoorModel", "offer", "(IIIII)V"⟩, 41), (⟨"GreenDoorModel", "cheapestLeft", "()I"⟩, 41)]
theorem lw_r3 : ∀ q ∈ lw_privs_3, lw_okq q := List.forall_mem_cons.mpr ⟨lw_p32, List.forall_mem_cons.mpr ⟨lw_p33, List.forall_mem_cons.mpr ⟨lw_p34, List.forall_mem_cons.mpr ⟨lw_p35, List.forall_mem_cons.mpr ⟨lw_p36, List.forall_mem_cons.mpr ⟨lw_p37, List.forall_mem_cons.mpr ⟨lw_p38, List.forall_mem_cons.mpr ⟨lw_p39, List.forall_mem_cons.mpr ⟨lw_p40, List.forall_mem_cons.mpr ⟨lw_p41, List.forall_mem_cons.mpr ⟨lw_p42, List.forall_mem_cons.mpr ⟨lw_p43, List.forall_mem_cons.mpr ⟨lw_p44, List.forall_mem_cons.mpr ⟨lw_p45, List.forall_mem_cons.mpr ⟨lw_p46, List.forall_mem_cons.mpr ⟨lw_p47, fun _ h => absurd h List.not_mem_nil⟩⟩⟩⟩⟩⟩⟩⟩⟩⟩⟩⟩⟩⟩⟩⟩
theorem lw_p48 : lw_okq (⟨"GreenDoorModel", "settle", "(I)V"⟩, 41) := ⟨⟨by decide +kernel, by decide +kernel⟩, List.mem_of_getElem? (i := 797) (by decide +kernel), List.mem_of_getElem? (i := 1081) (by decide +kernel), List.mem_of_getElem? (i := 1082) (by decide +kernel)⟩
theorem lw_p49 : lw_okq (⟨"GreenDoorModel", "isAhead", "(II)Z"⟩, 41) := ⟨⟨by decide +kernel, by decide +kernel⟩, List.mem_of_getElem? (i := 797) (by decide +kernel), List.mem_of_getElem? (i := 1085) (by decide +kernel), List.mem_of_getElem? (i := 1086) (by decide +kernel)⟩
theorem lw_p50 : lw_okq (⟨"GreenDoorModel", "findTwins", "()V"⟩, 41) := ⟨⟨by decide +kernel, by decide +kernel⟩, List.mem_of_getElem? (i := 797) (by decide +kernel), List.mem_of_getElem? (i := 1101) (by decide +kernel), List.mem_of_getElem? (i := 1102) (by decide +kernel)⟩
theorem lw_p51 : lw_okq (⟨"GreenDoorModel", "areAlike", "(II)Z"⟩, 41) := ⟨⟨by decide +kernel, by decide +kernel⟩, List.mem_of_getElem? (i := 797) (by decide +kernel), List.mem_of_getElem? (i := 1105) (by decide +kernel), List.mem_of_getElem? (i := 1106) (by decide +kernel)⟩
theorem lw_p52 : lw_okq (⟨"GreenDoorModel", "howMany", "(II)I"⟩, 41) := ⟨⟨by decide +kernel, by decide +kernel⟩, List.mem_of_getElem? (i := 797) (by decide +kernel), List.mem_of_getElem? (i := 1109) (by decide +kernel), List.mem_of_getElem? (i := 1110) (by decide +kernel)⟩
theorem lw_p53 : lw_okq (⟨"GreenDoorModel", "tiesTo", "(I)I"⟩, 41) := ⟨⟨by decide +kernel, by decide +kernel⟩, List.mem_of_getElem? (i := 797) (by decide +kernel), List.mem_of_getElem? (i := 1113) (by decide +kernel), List.mem_of_getElem? (i := 1114) (by decide +kernel)⟩
theorem lw_p54 : lw_okq (⟨"GreenDoorModel", "think", "(I)V"⟩, 41) := ⟨⟨by decide +kernel, by decide +kernel⟩, List.mem_of_getElem? (i := 797) (by decide +kernel), List.mem_of_getElem? (i := 1125) (by decide +kernel), List.mem_of_getElem? (i := 1126) (by decide +kernel)⟩
theorem lw_p55 : lw_okq (⟨"GreenDoorModel", "findSaid", "()V"⟩, 41) := ⟨⟨by decide +kernel, by decide +kernel⟩, List.mem_of_getElem? (i := 797) (by decide +kernel), List.mem_of_getElem? (i := 1129) (by decide +kernel), List.mem_of_getElem? (i := 1130) (by decide +kernel)⟩
theorem lw_p56 : lw_okq (⟨"GreenDoorModel", "tryWord", "(III)V"⟩, 41) := ⟨⟨by decide +kernel, by decide +kernel⟩, List.mem_of_getElem? (i := 797) (by decide +kernel), List.mem_of_getElem? (i := 1145) (by decide +kernel), List.mem_of_getElem? (i := 1146) (by decide +kernel)⟩
theorem lw_p57 : lw_okq (⟨"GreenDoorModel", "worthOf", "(I)I"⟩, 41) := ⟨⟨by decide +kernel, by decide +kernel⟩, List.mem_of_getElem? (i := 797) (by decide +kernel), List.mem_of_getElem? (i := 1165) (by decide +kernel), List.mem_of_getElem? (i := 1166) (by decide +kernel)⟩
def lw_privs_4 : List (MethodName × Nat) := [(⟨"GreenDoorModel", "settle", "(I)V"⟩, 41), (⟨"GreenDoorModel", "isAhead", "(II)Z"⟩, 41), (⟨"GreenDoorModel", "findTwins", "()V"⟩, 41), (⟨"GreenDoorModel", "areAlike", "(II)Z"⟩, 41), (⟨"GreenDoorModel", "howMany", "(II)I"⟩, 41), (⟨"GreenDoorModel", "tiesTo", "(I)I"⟩, 41), (⟨"GreenDoorModel", "think", "(I)V"⟩, 41), (⟨"GreenDoorModel", "findSaid", "()V"⟩, 41), (⟨"GreenDoorModel", "tryWord", "(III)V"⟩, 41), (⟨"GreenDoorModel", "worthOf", "(I)I"⟩, 41)]
theorem lw_r4 : ∀ q ∈ lw_privs_4, lw_okq q := List.forall_mem_cons.mpr ⟨lw_p48, List.forall_mem_cons.mpr ⟨lw_p49, List.forall_mem_cons.mpr ⟨lw_p50, List.forall_mem_cons.mpr ⟨lw_p51, List.forall_mem_cons.mpr ⟨lw_p52, List.forall_mem_cons.mpr ⟨lw_p53, List.forall_mem_cons.mpr ⟨lw_p54, List.forall_mem_cons.mpr ⟨lw_p55, List.forall_mem_cons.mpr ⟨lw_p56, List.forall_mem_cons.mpr ⟨lw_p57, fun _ h => absurd h List.not_mem_nil⟩⟩⟩⟩⟩⟩⟩⟩⟩⟩
def lw_privs : List (MethodName × Nat) := lw_privs_1 ++ (lw_privs_2 ++ (lw_privs_3 ++ (lw_privs_4)))
def lw_tbl : List Cond := k2_sels lw_privs ++ tables_1
theorem lw_privs_ok : ∀ q ∈ lw_privs, lw_okq q := by
  show ∀ q ∈ lw_privs_1 ++ (lw_privs_2 ++ (lw_privs_3 ++ (lw_privs_4))), lw_okq q
  exact List.forall_mem_append.mpr ⟨lw_r1, List.forall_mem_append.mpr ⟨lw_r2, List.forall_mem_append.mpr ⟨lw_r3, lw_r4⟩⟩⟩
/-! ===== BEGIN words of one list among another's, by their places ===== -/
theorem goodIn_r {big : List Cond} (ws : List Cond) (ps : List Nat) (hp : ws = ps.filterMap (fun i => big[i]?)) (h : ws.all goodWord = true) : GoodIn big ws := by
  intro w hw
  have h1 := List.all_eq_true.mp h w hw
  rw [hp] at hw
  obtain ⟨i, -, hi⟩ := List.mem_filterMap.mp hw
  have hm : w ∈ big := by first | exact List.mem_of_getElem? hi | exact List.getElem?_mem hi
  exact ⟨hm, good_of_word h1⟩
theorem goodIn_app {big a b : List Cond} (ha : GoodIn big a) (hb : GoodIn big b) : GoodIn big (a ++ b) := fun w h => (List.mem_append.mp h).elim (ha w) (hb w)
theorem goodIn_ca {big a b : List Cond} {c : Cond} (ha : GoodIn big (c :: a)) (hb : GoodIn big b) : GoodIn big (c :: (a ++ b)) := fun w h => (List.mem_cons.mp h).elim (fun e => ha w (List.mem_cons.mpr (Or.inl e))) (fun h => (List.mem_append.mp h).elim (fun h => ha w (List.mem_cons.mpr (Or.inr h))) (hb w))
theorem goodIn_sub {big ws : List Cond} (hm : ∀ w ∈ ws, w ∈ big) (h : ws.all goodWord = true) : GoodIn big ws := fun w hw => ⟨hm w hw, good_of_word (List.all_eq_true.mp h w hw)⟩
/-! ===== END ===== -/
def RX0 : String := "GreenDoor$BestMark"
def TX0 : u_T := fun k => match k with
  | 0 => ("GreenDoor$BestMark", "trial", "LGreenDoor$Ways;", true)
  | 1 => ("GreenDoor$BestMark", "words", "I", false)
  | 2 => ("GreenDoor$BestMark", "madeAt", "I", false)
  | 3 => ("GreenDoor$BestMark", "least", "I", false)
  | _ => ("GreenDoor$BestMark", "mark", "I", false)
def tyX0 : Nat → FieldType := fun k => match k with
  | 0 => .object "GreenDoor$Ways"
  | 1 => .int
  | 2 => .int
  | 3 => .int
  | _ => .int
abbrev wsX00 : List Cond := u_ws RX0 TX0 5
theorem nmX0 : ∀ a, a < 5 → ∀ b, b < 5 → a ≠ b → (TX0 a).2.1 ≠ (TX0 b).2.1 := by decide +kernel
theorem tyX0_ok : ∀ k, k < 5 → parseFieldDescriptor (TX0 k).2.2.1 = some (tyX0 k) := by decide +kernel
abbrev cX0_init : ByteArray := prog_2_method_1_code
def yX0_init : MethodName := ⟨RX0, "<init>", "()V"⟩
abbrev cX0_find : ByteArray := prog_2_method_2_code
def yX0_find : MethodName := ⟨RX0, "find", "(LGreenDoor$Scene;[II)V"⟩
abbrev cX0_tryMark : ByteArray := prog_2_method_3_code
def yX0_tryMark : MethodName := ⟨RX0, "tryMark", "(LGreenDoor$Scene;[III)V"⟩
def RX1 : String := "GreenDoor$Hearer"
def TX1 : u_T := fun k => match k with
  | 0 => ("GreenDoor$Hearer", "taken", "[I", true)
  | 1 => ("GreenDoor$Hearer", "deeper", "[I", true)
  | 2 => ("GreenDoor$Hearer", "costs", "[I", true)
  | _ => ("GreenDoor$Hearer", "sayings", "I", false)
def tyX1 : Nat → FieldType := fun k => match k with
  | 0 => .array .int
  | 1 => .array .int
  | 2 => .array .int
  | _ => .int
abbrev wsX10 : List Cond := u_ws RX1 TX1 4
theorem nmX1 : ∀ a, a < 4 → ∀ b, b < 4 → a ≠ b → (TX1 a).2.1 ≠ (TX1 b).2.1 := by decide +kernel
theorem tyX1_ok : ∀ k, k < 4 → parseFieldDescriptor (TX1 k).2.2.1 = some (tyX1 k) := by decide +kernel
abbrev cX1_init : ByteArray := prog_3_method_1_code
def yX1_init : MethodName := ⟨RX1, "<init>", "()V"⟩
abbrev cX1_start : ByteArray := prog_3_method_2_code
def yX1_start : MethodName := ⟨RX1, "start", "()V"⟩
abbrev cX1_add : ByteArray := prog_3_method_3_code
def yX1_add : MethodName := ⟨RX1, "add", "(II)V"⟩
abbrev cX1_saidOf : ByteArray := prog_3_method_4_code
def yX1_saidOf : MethodName := ⟨RX1, "saidOf", "(I)I"⟩
abbrev cX1_isBetter : ByteArray := prog_3_method_5_code
def yX1_isBetter : MethodName := ⟨RX1, "isBetter", "(II)Z"⟩
abbrev cX1_deepen : ByteArray := prog_3_method_6_code
def yX1_deepen : MethodName := ⟨RX1, "deepen", "(I)Z"⟩
def RX2 : String := "GreenDoor$Misheard"
def TX2 : u_T := fun k => match k with
  | 0 => ("GreenDoor$Misheard", "tally", "[I", true)
  | 1 => ("GreenDoor$Misheard", "sayings", "I", false)
  | _ => ("GreenDoor$Misheard", "likeliest", "I", false)
def tyX2 : Nat → FieldType := fun k => match k with
  | 0 => .array .int
  | 1 => .int
  | _ => .int
abbrev wsX20 : List Cond := u_ws RX2 TX2 3
theorem nmX2 : ∀ a, a < 3 → ∀ b, b < 3 → a ≠ b → (TX2 a).2.1 ≠ (TX2 b).2.1 := by decide +kernel
theorem tyX2_ok : ∀ k, k < 3 → parseFieldDescriptor (TX2 k).2.2.1 = some (tyX2 k) := by decide +kernel
abbrev cX2_init : ByteArray := prog_4_method_1_code
def yX2_init : MethodName := ⟨RX2, "<init>", "()V"⟩
abbrev cX2_hear : ByteArray := prog_4_method_2_code
def yX2_hear : MethodName := ⟨RX2, "hear", "(LGreenDoor$Scene;LGreenDoor$Saying;)V"⟩
abbrev cX2_hearAs : ByteArray := prog_4_method_3_code
def yX2_hearAs : MethodName := ⟨RX2, "hearAs", "(LGreenDoor$Scene;LGreenDoor$Saying;II)V"⟩
def RX3 : String := "GreenDoor$Quick"
def TX3 : u_T := fun k => match k with
  | _ => ("", "", "", false)
def tyX3 : Nat → FieldType := fun k => match k with
  | _ => .int
abbrev wsX30 : List Cond := u_ws RX3 TX3 0
theorem nmX3 : ∀ a, a < 0 → ∀ b, b < 0 → a ≠ b → (TX3 a).2.1 ≠ (TX3 b).2.1 := by decide +kernel
theorem tyX3_ok : ∀ k, k < 0 → parseFieldDescriptor (TX3 k).2.2.1 = some (tyX3 k) := by decide +kernel
abbrev cX3_cost : ByteArray := prog_5_method_2_code
def yX3_cost : MethodName := ⟨RX3, "cost", "(LGreenDoor$Scene;[II)I"⟩
abbrev cX3_property : ByteArray := prog_5_method_3_code
def yX3_property : MethodName := ⟨RX3, "property", "(LGreenDoor$Scene;II)I"⟩
def RX4 : String := "GreenDoor$Saying"
def TX4 : u_T := fun k => match k with
  | 0 => ("GreenDoor$Saying", "codes", "[I", true)
  | 1 => ("GreenDoor$Saying", "meant", "[I", true)
  | _ => ("GreenDoor$Saying", "length", "I", false)
def tyX4 : Nat → FieldType := fun k => match k with
  | 0 => .array .int
  | 1 => .array .int
  | _ => .int
abbrev wsX40 : List Cond := u_ws RX4 TX4 3
theorem nmX4 : ∀ a, a < 3 → ∀ b, b < 3 → a ≠ b → (TX4 a).2.1 ≠ (TX4 b).2.1 := by decide +kernel
theorem tyX4_ok : ∀ k, k < 3 → parseFieldDescriptor (TX4 k).2.2.1 = some (tyX4 k) := by decide +kernel
abbrev cX4_init : ByteArray := prog_6_method_1_code
def yX4_init : MethodName := ⟨RX4, "<init>", "()V"⟩
abbrev cX4_add : ByteArray := prog_6_method_2_code
def yX4_add : MethodName := ⟨RX4, "add", "(I)Z"⟩
abbrev cX4_addNumber : ByteArray := prog_6_method_3_code
def yX4_addNumber : MethodName := ⟨RX4, "addNumber", "(I)V"⟩
abbrev cX4_copy : ByteArray := prog_6_method_4_code
def yX4_copy : MethodName := ⟨RX4, "copy", "(LGreenDoor$Saying;)V"⟩
abbrev cX4_meaning : ByteArray := prog_6_method_5_code
def yX4_meaning : MethodName := ⟨RX4, "meaning", "(LGreenDoor$Scene;)I"⟩
abbrev cX4_cost : ByteArray := prog_6_method_6_code
def yX4_cost : MethodName := ⟨RX4, "cost", "([I)I"⟩
def RX5 : String := "GreenDoor$Scene"
def TX5 : u_T := fun k => match k with
  | 0 => ("GreenDoor$Scene", "looks", "[[I", true)
  | 1 => ("GreenDoor$Scene", "things", "I", false)
  | _ => ("GreenDoor$Scene", "ties", "I", false)
def tyX5 : Nat → FieldType := fun k => match k with
  | 0 => .array (.array .int)
  | 1 => .int
  | _ => .int
abbrev wsX50 : List Cond := u_ws RX5 TX5 3
theorem nmX5 : ∀ a, a < 3 → ∀ b, b < 3 → a ≠ b → (TX5 a).2.1 ≠ (TX5 b).2.1 := by decide +kernel
theorem tyX5_ok : ∀ k, k < 3 → parseFieldDescriptor (TX5 k).2.2.1 = some (tyX5 k) := by decide +kernel
abbrev cX5_init : ByteArray := prog_7_method_1_code
def yX5_init : MethodName := ⟨RX5, "<init>", "()V"⟩
abbrev cX5_isLook : ByteArray := prog_7_method_2_code
def yX5_isLook : MethodName := ⟨RX5, "isLook", "(II)Z"⟩
abbrev cX5_has : ByteArray := prog_7_method_3_code
def yX5_has : MethodName := ⟨RX5, "has", "(I)Z"⟩
abbrev cX5_all : ByteArray := prog_7_method_4_code
def yX5_all : MethodName := ⟨RX5, "all", "()I"⟩
abbrev cX5_isTaken : ByteArray := prog_7_method_5_code
def yX5_isTaken : MethodName := ⟨RX5, "isTaken", "(I)Z"⟩
abbrev cX5_add : ByteArray := prog_7_method_6_code
def yX5_add : MethodName := ⟨RX5, "add", "(IIII)I"⟩
abbrev cX5_isTied : ByteArray := prog_7_method_7_code
def yX5_isTied : MethodName := ⟨RX5, "isTied", "(II)Z"⟩
abbrev cX5_addTie : ByteArray := prog_7_method_8_code
def yX5_addTie : MethodName := ⟨RX5, "addTie", "(II)I"⟩
abbrev cX5_named : ByteArray := prog_7_method_9_code
def yX5_named : MethodName := ⟨RX5, "named", "(I)I"⟩
abbrev cX5_turned : ByteArray := prog_7_method_10_code
def yX5_turned : MethodName := ⟨RX5, "turned", "(II)I"⟩
abbrev cX5_thoseWith : ByteArray := prog_7_method_11_code
def yX5_thoseWith : MethodName := ⟨RX5, "thoseWith", "(II)I"⟩
abbrev cX5_thoseMarked : ByteArray := prog_7_method_12_code
def yX5_thoseMarked : MethodName := ⟨RX5, "thoseMarked", "(I)I"⟩
abbrev cX5_thoseLinked : ByteArray := prog_7_method_13_code
def yX5_thoseLinked : MethodName := ⟨RX5, "thoseLinked", "(II)I"⟩
abbrev cX5_ofSize : ByteArray := prog_7_method_14_code
def yX5_ofSize : MethodName := ⟨RX5, "ofSize", "(II)I"⟩
abbrev cX5_greatestSize : ByteArray := prog_7_method_15_code
def yX5_greatestSize : MethodName := ⟨RX5, "greatestSize", "(I)I"⟩
abbrev cX5_leastSize : ByteArray := prog_7_method_16_code
def yX5_leastSize : MethodName := ⟨RX5, "leastSize", "(I)I"⟩
abbrev cX5_leftmost : ByteArray := prog_7_method_17_code
def yX5_leftmost : MethodName := ⟨RX5, "leftmost", "(I)I"⟩
def RX6 : String := "GreenDoor$Talk"
def TX6 : u_T := fun k => match k with
  | 0 => ("GreenDoor$Talk", "named", "[I", true)
  | _ => ("GreenDoor$Talk", "length", "I", false)
def tyX6 : Nat → FieldType := fun k => match k with
  | 0 => .array .int
  | _ => .int
abbrev wsX60 : List Cond := u_ws RX6 TX6 2
theorem nmX6 : ∀ a, a < 2 → ∀ b, b < 2 → a ≠ b → (TX6 a).2.1 ≠ (TX6 b).2.1 := by decide +kernel
theorem tyX6_ok : ∀ k, k < 2 → parseFieldDescriptor (TX6 k).2.2.1 = some (tyX6 k) := by decide +kernel
abbrev cX6_init : ByteArray := prog_8_method_1_code
def yX6_init : MethodName := ⟨RX6, "<init>", "()V"⟩
abbrev cX6_add : ByteArray := prog_8_method_2_code
def yX6_add : MethodName := ⟨RX6, "add", "(I)I"⟩
abbrev cX6_cost : ByteArray := prog_8_method_3_code
def yX6_cost : MethodName := ⟨RX6, "cost", "(LGreenDoor$Ways;)I"⟩
abbrev cX6_pointingAt : ByteArray := prog_8_method_4_code
def yX6_pointingAt : MethodName := ⟨RX6, "pointingAt", "(I)I"⟩
def RX7 : String := "GreenDoor$Text"
def TX7 : u_T := fun k => match k with
  | 0 => ("GreenDoor$Text", "signs", "[C", true)
  | 1 => ("GreenDoor$Text", "saying", "LGreenDoor$Saying;", true)
  | 2 => ("GreenDoor$Text", "length", "I", false)
  | 3 => ("GreenDoor$Text", "sayingsDue", "I", false)
  | _ => ("GreenDoor$Text", "numbersDue", "I", false)
def tyX7 : Nat → FieldType := fun k => match k with
  | 0 => .array .char
  | 1 => .object "GreenDoor$Saying"
  | 2 => .int
  | 3 => .int
  | _ => .int
abbrev wsX70 : List Cond := u_ws RX7 TX7 5
theorem nmX7 : ∀ a, a < 5 → ∀ b, b < 5 → a ≠ b → (TX7 a).2.1 ≠ (TX7 b).2.1 := by decide +kernel
theorem tyX7_ok : ∀ k, k < 5 → parseFieldDescriptor (TX7 k).2.2.1 = some (tyX7 k) := by decide +kernel
abbrev cX7_init : ByteArray := prog_9_method_1_code
def yX7_init : MethodName := ⟨RX7, "<init>", "()V"⟩
abbrev cX7_hasRoomFor : ByteArray := prog_9_method_2_code
def yX7_hasRoomFor : MethodName := ⟨RX7, "hasRoomFor", "(I)Z"⟩
abbrev cX7_append : ByteArray := prog_9_method_3_code
def yX7_append : MethodName := ⟨RX7, "append", "(JI)I"⟩
abbrev cX7_clear : ByteArray := prog_9_method_4_code
def yX7_clear : MethodName := ⟨RX7, "clear", "()I"⟩
abbrev cX7_read : ByteArray := prog_9_method_5_code
def yX7_read : MethodName := ⟨RX7, "read", "()I"⟩
abbrev cX7_endOfToken : ByteArray := prog_9_method_6_code
def yX7_endOfToken : MethodName := ⟨RX7, "endOfToken", "(I)I"⟩
abbrev cX7_sortAt : ByteArray := prog_9_method_7_code
def yX7_sortAt : MethodName := ⟨RX7, "sortAt", "(I)I"⟩
abbrev cX7_readNumber : ByteArray := prog_9_method_8_code
def yX7_readNumber : MethodName := ⟨RX7, "readNumber", "(II)Z"⟩
abbrev cX7_readWord : ByteArray := prog_9_method_9_code
def yX7_readWord : MethodName := ⟨RX7, "readWord", "(II)Z"⟩
def RX8 : String := "GreenDoor$Twins"
def TX8 : u_T := fun k => match k with
  | 0 => ("GreenDoor$Twins", "alike", "[I", true)
  | 1 => ("GreenDoor$Twins", "since", "[I", true)
  | _ => ("GreenDoor$Twins", "before", "[I", true)
def tyX8 : Nat → FieldType := fun k => match k with
  | 0 => .array .int
  | 1 => .array .int
  | _ => .array .int
abbrev wsX80 : List Cond := u_ws RX8 TX8 3
theorem nmX8 : ∀ a, a < 3 → ∀ b, b < 3 → a ≠ b → (TX8 a).2.1 ≠ (TX8 b).2.1 := by decide +kernel
theorem tyX8_ok : ∀ k, k < 3 → parseFieldDescriptor (TX8 k).2.2.1 = some (tyX8 k) := by decide +kernel
abbrev cX8_init : ByteArray := prog_10_method_1_code
def yX8_init : MethodName := ⟨RX8, "<init>", "()V"⟩
abbrev cX8_find : ByteArray := prog_10_method_2_code
def yX8_find : MethodName := ⟨RX8, "find", "(LGreenDoor$Scene;)V"⟩
abbrev cX8_sorts : ByteArray := prog_10_method_3_code
def yX8_sorts : MethodName := ⟨RX8, "sorts", "(I)I"⟩
abbrev cX8_looksLike : ByteArray := prog_10_method_4_code
def yX8_looksLike : MethodName := ⟨RX8, "looksLike", "(LGreenDoor$Scene;I)I"⟩
abbrev cX8_part : ByteArray := prog_10_method_5_code
def yX8_part : MethodName := ⟨RX8, "part", "(LGreenDoor$Scene;I)Z"⟩
abbrev cX8_hasAsMany : ByteArray := prog_10_method_6_code
def yX8_hasAsMany : MethodName := ⟨RX8, "hasAsMany", "(LGreenDoor$Scene;II)Z"⟩
def RX9 : String := "GreenDoor$Ways"
def TX9 : u_T := fun k => match k with
  | 0 => ("GreenDoor$Ways", "costs", "[I", true)
  | 1 => ("GreenDoor$Ways", "lengths", "[I", true)
  | 2 => ("GreenDoor$Ways", "ways", "[I", true)
  | 3 => ("GreenDoor$Ways", "ranks", "[I", true)
  | 4 => ("GreenDoor$Ways", "byWords", "[I", true)
  | 5 => ("GreenDoor$Ways", "byCost", "[I", true)
  | 6 => ("GreenDoor$Ways", "reached", "I", false)
  | 7 => ("GreenDoor$Ways", "words", "I", false)
  | 8 => ("GreenDoor$Ways", "madeAt", "I", false)
  | 9 => ("GreenDoor$Ways", "thingsAlone", "Z", false)
  | 10 => ("GreenDoor$Ways", "dearest", "I", false)
  | _ => ("GreenDoor$Ways", "leastJoin", "I", false)
def tyX9 : Nat → FieldType := fun k => match k with
  | 0 => .array .int
  | 1 => .array .int
  | 2 => .array .int
  | 3 => .array .int
  | 4 => .array .int
  | 5 => .array .int
  | 6 => .int
  | 7 => .int
  | 8 => .int
  | 9 => .boolean
  | 10 => .int
  | _ => .int
abbrev wsX90 : List Cond := u_ws RX9 TX9 12
theorem nmX9 : ∀ a, a < 12 → ∀ b, b < 12 → a ≠ b → (TX9 a).2.1 ≠ (TX9 b).2.1 := by decide +kernel
theorem tyX9_ok : ∀ k, k < 12 → parseFieldDescriptor (TX9 k).2.2.1 = some (tyX9 k) := by decide +kernel
abbrev cX9_init : ByteArray := prog_11_method_1_code
def yX9_init : MethodName := ⟨RX9, "<init>", "()V"⟩
abbrev cX9_isReached : ByteArray := prog_11_method_2_code
def yX9_isReached : MethodName := ⟨RX9, "isReached", "(I)Z"⟩
abbrev cX9_codeAt : ByteArray := prog_11_method_3_code
def yX9_codeAt : MethodName := ⟨RX9, "codeAt", "(II)I"⟩
abbrev cX9_worthOf : ByteArray := prog_11_method_4_code
def yX9_worthOf : MethodName := ⟨RX9, "worthOf", "(I)I"⟩
abbrev cX9_fill : ByteArray := prog_11_method_5_code
def yX9_fill : MethodName := ⟨RX9, "fill", "(LGreenDoor$Scene;[IIZ)V"⟩
abbrev cX9_start : ByteArray := prog_11_method_6_code
def yX9_start : MethodName := ⟨RX9, "start", "(LGreenDoor$Scene;[I)V"⟩
abbrev cX9_offerNamed : ByteArray := prog_11_method_7_code
def yX9_offerNamed : MethodName := ⟨RX9, "offerNamed", "(LGreenDoor$Scene;II)V"⟩
abbrev cX9_nearest : ByteArray := prog_11_method_8_code
def yX9_nearest : MethodName := ⟨RX9, "nearest", "(I)I"⟩
abbrev cX9_reach : ByteArray := prog_11_method_9_code
def yX9_reach : MethodName := ⟨RX9, "reach", "(I)V"⟩
abbrev cX9_turn : ByteArray := prog_11_method_10_code
def yX9_turn : MethodName := ⟨RX9, "turn", "(LGreenDoor$Scene;[II)V"⟩
abbrev cX9_joinAll : ByteArray := prog_11_method_11_code
def yX9_joinAll : MethodName := ⟨RX9, "joinAll", "([II)V"⟩
abbrev cX9_joinTwo : ByteArray := prog_11_method_12_code
def yX9_joinTwo : MethodName := ⟨RX9, "joinTwo", "([III)V"⟩
abbrev cX9_offer : ByteArray := prog_11_method_13_code
def yX9_offer : MethodName := ⟨RX9, "offer", "(III)V"⟩
abbrev cX9_isAhead : ByteArray := prog_11_method_14_code
def yX9_isAhead : MethodName := ⟨RX9, "isAhead", "(II)Z"⟩
def RX10 : String := "GreenDoor$Words"
def TX10 : u_T := fun k => match k with
  | _ => ("", "", "", false)
def tyX10 : Nat → FieldType := fun k => match k with
  | _ => .int
abbrev wsX100 : List Cond := u_ws RX10 TX10 0
theorem nmX10 : ∀ a, a < 0 → ∀ b, b < 0 → a ≠ b → (TX10 a).2.1 ≠ (TX10 b).2.1 := by decide +kernel
theorem tyX10_ok : ∀ k, k < 0 → parseFieldDescriptor (TX10 k).2.2.1 = some (tyX10 k) := by decide +kernel
abbrev cX10_areWords : ByteArray := prog_12_method_2_code
def yX10_areWords : MethodName := ⟨RX10, "areWords", "(I)Z"⟩
abbrev cX10_isKnown : ByteArray := prog_12_method_3_code
def yX10_isKnown : MethodName := ⟨RX10, "isKnown", "(II)Z"⟩
abbrev cX10_numbers : ByteArray := prog_12_method_4_code
def yX10_numbers : MethodName := ⟨RX10, "numbers", "(I)I"⟩
abbrev cX10_parts : ByteArray := prog_12_method_5_code
def yX10_parts : MethodName := ⟨RX10, "parts", "(I)I"⟩
abbrev cX10_firstLike : ByteArray := prog_12_method_6_code
def yX10_firstLike : MethodName := ⟨RX10, "firstLike", "(I)I"⟩
abbrev cX10_lastLike : ByteArray := prog_12_method_7_code
def yX10_lastLike : MethodName := ⟨RX10, "lastLike", "(I)I"⟩
abbrev cX10_spelt : ByteArray := prog_12_method_8_code
def yX10_spelt : MethodName := ⟨RX10, "spelt", "([CII)I"⟩
abbrev cX10_isSpelt : ByteArray := prog_12_method_9_code
def yX10_isSpelt : MethodName := ⟨RX10, "isSpelt", "(I[CII)Z"⟩
abbrev cX10_join : ByteArray := prog_12_method_10_code
def yX10_join : MethodName := ⟨RX10, "join", "(III)I"⟩
def RX11 : String := "GreenDoor"
def TX11 : u_T := fun k => match k with
  | 0 => ("GreenDoor", "scene", "LGreenDoor$Scene;", true)
  | 1 => ("GreenDoor", "prices", "[I", true)
  | 2 => ("GreenDoor", "text", "LGreenDoor$Text;", true)
  | 3 => ("GreenDoor", "shelf", "[LGreenDoor$Saying;", true)
  | 4 => ("GreenDoor", "ways", "LGreenDoor$Ways;", true)
  | 5 => ("GreenDoor", "bestMark", "LGreenDoor$BestMark;", true)
  | 6 => ("GreenDoor", "twins", "LGreenDoor$Twins;", true)
  | 7 => ("GreenDoor", "hearer", "LGreenDoor$Hearer;", true)
  | 8 => ("GreenDoor", "misheard", "LGreenDoor$Misheard;", true)
  | 9 => ("GreenDoor", "talked", "LGreenDoor$Talk;", true)
  | 10 => ("GreenDoor", "shelved", "I", false)
  | _ => ("GreenDoor", "changes", "I", false)
def tyX11 : Nat → FieldType := fun k => match k with
  | 0 => .object "GreenDoor$Scene"
  | 1 => .array .int
  | 2 => .object "GreenDoor$Text"
  | 3 => .array (.object "GreenDoor$Saying")
  | 4 => .object "GreenDoor$Ways"
  | 5 => .object "GreenDoor$BestMark"
  | 6 => .object "GreenDoor$Twins"
  | 7 => .object "GreenDoor$Hearer"
  | 8 => .object "GreenDoor$Misheard"
  | 9 => .object "GreenDoor$Talk"
  | 10 => .int
  | _ => .int
abbrev wsX110 : List Cond := u_ws RX11 TX11 12
theorem nmX11 : ∀ a, a < 12 → ∀ b, b < 12 → a ≠ b → (TX11 a).2.1 ≠ (TX11 b).2.1 := by decide +kernel
theorem tyX11_ok : ∀ k, k < 12 → parseFieldDescriptor (TX11 k).2.2.1 = some (tyX11 k) := by decide +kernel
abbrev cX11_init : ByteArray := prog_1_method_1_code
def yX11_init : MethodName := ⟨RX11, "<init>", "()V"⟩
abbrev cX11_thing : ByteArray := prog_1_method_2_code
def yX11_thing : MethodName := ⟨RX11, "thing", "(IIII)I"⟩
abbrev cX11_paint : ByteArray := prog_1_method_3_code
def yX11_paint : MethodName := ⟨RX11, "paint", "(III)I"⟩
abbrev cX11_tie : ByteArray := prog_1_method_4_code
def yX11_tie : MethodName := ⟨RX11, "tie", "(II)I"⟩
abbrev cX11_of : ByteArray := prog_1_method_5_code
def yX11_of : MethodName := ⟨RX11, "of", "(II)I"⟩
abbrev cX11_price : ByteArray := prog_1_method_6_code
def yX11_price : MethodName := ⟨RX11, "price", "(II)I"⟩
abbrev cX11_write : ByteArray := prog_1_method_7_code
def yX11_write : MethodName := ⟨RX11, "write", "(JI)I"⟩
abbrev cX11_erase : ByteArray := prog_1_method_8_code
def yX11_erase : MethodName := ⟨RX11, "erase", "()I"⟩
abbrev cX11_fault : ByteArray := prog_1_method_9_code
def yX11_fault : MethodName := ⟨RX11, "fault", "()I"⟩
abbrev cX11_says : ByteArray := prog_1_method_10_code
def yX11_says : MethodName := ⟨RX11, "says", "(I)I"⟩
abbrev cX11_keep : ByteArray := prog_1_method_11_code
def yX11_keep : MethodName := ⟨RX11, "keep", "()I"⟩
abbrev cX11_kept : ByteArray := prog_1_method_12_code
def yX11_kept : MethodName := ⟨RX11, "kept", "(II)I"⟩
abbrev cX11_told : ByteArray := prog_1_method_13_code
def yX11_told : MethodName := ⟨RX11, "told", "(LGreenDoor$Saying;I)I"⟩
abbrev cX11_cheapest : ByteArray := prog_1_method_14_code
def yX11_cheapest : MethodName := ⟨RX11, "cheapest", "(III)I"⟩
abbrev cX11_sets : ByteArray := prog_1_method_15_code
def yX11_sets : MethodName := ⟨RX11, "sets", "(I)I"⟩
abbrev cX11_quick : ByteArray := prog_1_method_16_code
def yX11_quick : MethodName := ⟨RX11, "quick", "(I)I"⟩
abbrev cX11_twin : ByteArray := prog_1_method_17_code
def yX11_twin : MethodName := ⟨RX11, "twin", "(II)I"⟩
abbrev cX11_waysWith : ByteArray := prog_1_method_18_code
def yX11_waysWith : MethodName := ⟨RX11, "waysWith", "(I)LGreenDoor$Ways;"⟩
abbrev cX11_breaks : ByteArray := prog_1_method_19_code
def yX11_breaks : MethodName := ⟨RX11, "breaks", "()I"⟩
abbrev cX11_firstBreak : ByteArray := prog_1_method_20_code
def yX11_firstBreak : MethodName := ⟨RX11, "firstBreak", "(LGreenDoor$Saying;)I"⟩
abbrev cX11_hears : ByteArray := prog_1_method_21_code
def yX11_hears : MethodName := ⟨RX11, "hears", "(II)I"⟩
abbrev cX11_tells : ByteArray := prog_1_method_22_code
def yX11_tells : MethodName := ⟨RX11, "tells", "(II)I"⟩
abbrev cX11_ends : ByteArray := prog_1_method_23_code
def yX11_ends : MethodName := ⟨RX11, "ends", "()I"⟩
abbrev cX11_think : ByteArray := prog_1_method_24_code
def yX11_think : MethodName := ⟨RX11, "think", "(I)V"⟩
abbrev cX11_wrong : ByteArray := prog_1_method_25_code
def yX11_wrong : MethodName := ⟨RX11, "wrong", "(I)I"⟩
abbrev cX11_name : ByteArray := prog_1_method_26_code
def yX11_name : MethodName := ⟨RX11, "name", "(I)I"⟩
abbrev cX11_hush : ByteArray := prog_1_method_27_code
def yX11_hush : MethodName := ⟨RX11, "hush", "()I"⟩
abbrev cX11_talk : ByteArray := prog_1_method_28_code
def yX11_talk : MethodName := ⟨RX11, "talk", "(I)I"⟩
abbrev cX11_worth : ByteArray := prog_1_method_29_code
def yX11_worth : MethodName := ⟨RX11, "worth", "(II)I"⟩
abbrev cX11_count : ByteArray := prog_1_method_30_code
def yX11_count : MethodName := ⟨RX11, "count", "(I)I"⟩
abbrev cX11_isWithin : ByteArray := prog_1_method_31_code
def yX11_isWithin : MethodName := ⟨RX11, "isWithin", "(II)Z"⟩
def RX12 : String := "GreenDoorModel"
def TX12 : u_T := fun k => match k with
  | 0 => ("GreenDoorModel", "things", "I", false)
  | 1 => ("GreenDoorModel", "kind", "[I", true)
  | 2 => ("GreenDoorModel", "colour", "[I", true)
  | 3 => ("GreenDoorModel", "size", "[I", true)
  | 4 => ("GreenDoorModel", "marks", "[I", true)
  | 5 => ("GreenDoorModel", "place", "[I", true)
  | 6 => ("GreenDoorModel", "ties", "[I", true)
  | 7 => ("GreenDoorModel", "price", "[I", true)
  | 8 => ("GreenDoorModel", "bytes", "I", false)
  | 9 => ("GreenDoorModel", "text", "[I", true)
  | 10 => ("GreenDoorModel", "position", "I", false)
  | 11 => ("GreenDoorModel", "tokenAt", "I", false)
  | 12 => ("GreenDoorModel", "token", "J", false)
  | 13 => ("GreenDoorModel", "digits", "I", false)
  | 14 => ("GreenDoorModel", "number", "I", false)
  | 15 => ("GreenDoorModel", "faultAt", "I", false)
  | 16 => ("GreenDoorModel", "many", "I", false)
  | 17 => ("GreenDoorModel", "word", "[I", true)
  | 18 => ("GreenDoorModel", "own", "[I", true)
  | 19 => ("GreenDoorModel", "stack", "[I", true)
  | 20 => ("GreenDoorModel", "keeps", "I", false)
  | 21 => ("GreenDoorModel", "keptMany", "[I", true)
  | 22 => ("GreenDoorModel", "keptWord", "[I", true)
  | 23 => ("GreenDoorModel", "keptOwn", "[I", true)
  | 24 => ("GreenDoorModel", "cost", "[I", true)
  | 25 => ("GreenDoorModel", "first", "[I", true)
  | 26 => ("GreenDoorModel", "partA", "[I", true)
  | 27 => ("GreenDoorModel", "partB", "[I", true)
  | 28 => ("GreenDoorModel", "long0", "[I", true)
  | 29 => ("GreenDoorModel", "rank", "[I", true)
  | 30 => ("GreenDoorModel", "isDone", "[Z", true)
  | 31 => ("GreenDoorModel", "sort", "[I", true)
  | 32 => ("GreenDoorModel", "finer", "[I", true)
  | 33 => ("GreenDoorModel", "round", "[I", true)
  | 34 => ("GreenDoorModel", "taken", "[I", true)
  | 35 => ("GreenDoorModel", "deeper", "[I", true)
  | 36 => ("GreenDoorModel", "said", "[I", true)
  | 37 => ("GreenDoorModel", "meant", "[I", true)
  | 38 => ("GreenDoorModel", "wrongs", "I", false)
  | 39 => ("GreenDoorModel", "named", "I", false)
  | _ => ("GreenDoorModel", "name", "[I", true)
def tyX12 : Nat → FieldType := fun k => match k with
  | 0 => .int
  | 1 => .array .int
  | 2 => .array .int
  | 3 => .array .int
  | 4 => .array .int
  | 5 => .array .int
  | 6 => .array .int
  | 7 => .array .int
  | 8 => .int
  | 9 => .array .int
  | 10 => .int
  | 11 => .int
  | 12 => .long
  | 13 => .int
  | 14 => .int
  | 15 => .int
  | 16 => .int
  | 17 => .array .int
  | 18 => .array .int
  | 19 => .array .int
  | 20 => .int
  | 21 => .array .int
  | 22 => .array .int
  | 23 => .array .int
  | 24 => .array .int
  | 25 => .array .int
  | 26 => .array .int
  | 27 => .array .int
  | 28 => .array .int
  | 29 => .array .int
  | 30 => .array .boolean
  | 31 => .array .int
  | 32 => .array .int
  | 33 => .array .int
  | 34 => .array .int
  | 35 => .array .int
  | 36 => .array .int
  | 37 => .array .int
  | 38 => .int
  | 39 => .int
  | _ => .array .int
abbrev wsX120 : List Cond := u_ws RX12 TX12 41
theorem nmX12 : ∀ a, a < 41 → ∀ b, b < 41 → a ≠ b → (TX12 a).2.1 ≠ (TX12 b).2.1 := by decide +kernel
theorem tyX12_ok : ∀ k, k < 41 → parseFieldDescriptor (TX12 k).2.2.1 = some (tyX12 k) := by decide +kernel
abbrev cX12_init : ByteArray := prog_14_method_1_code
def yX12_init : MethodName := ⟨RX12, "<init>", "()V"⟩
abbrev cX12_in : ByteArray := prog_14_method_2_code
def yX12_in : MethodName := ⟨RX12, "in", "(III)Z"⟩
abbrev cX12_isThing : ByteArray := prog_14_method_3_code
def yX12_isThing : MethodName := ⟨RX12, "isThing", "(I)Z"⟩
abbrev cX12_bits : ByteArray := prog_14_method_4_code
def yX12_bits : MethodName := ⟨RX12, "bits", "(I)I"⟩
abbrev cX12_every : ByteArray := prog_14_method_5_code
def yX12_every : MethodName := ⟨RX12, "every", "()I"⟩
abbrev cX12_thing : ByteArray := prog_14_method_6_code
def yX12_thing : MethodName := ⟨RX12, "thing", "(IIII)I"⟩
abbrev cX12_paint : ByteArray := prog_14_method_7_code
def yX12_paint : MethodName := ⟨RX12, "paint", "(III)I"⟩
abbrev cX12_tieMany : ByteArray := prog_14_method_8_code
def yX12_tieMany : MethodName := ⟨RX12, "tieMany", "()I"⟩
abbrev cX12_tie : ByteArray := prog_14_method_9_code
def yX12_tie : MethodName := ⟨RX12, "tie", "(II)I"⟩
abbrev cX12_besides : ByteArray := prog_14_method_10_code
def yX12_besides : MethodName := ⟨RX12, "besides", "(I)I"⟩
abbrev cX12_of : ByteArray := prog_14_method_11_code
def yX12_of : MethodName := ⟨RX12, "of", "(II)I"⟩
abbrev cX12_price : ByteArray := prog_14_method_12_code
def yX12_price : MethodName := ⟨RX12, "price", "(II)I"⟩
abbrev cX12_write : ByteArray := prog_14_method_13_code
def yX12_write : MethodName := ⟨RX12, "write", "(JI)I"⟩
abbrev cX12_erase : ByteArray := prog_14_method_14_code
def yX12_erase : MethodName := ⟨RX12, "erase", "()I"⟩
abbrev cX12_nextToken : ByteArray := prog_14_method_15_code
def yX12_nextToken : MethodName := ⟨RX12, "nextToken", "()V"⟩
abbrev cX12_fails : ByteArray := prog_14_method_16_code
def yX12_fails : MethodName := ⟨RX12, "fails", "()Z"⟩
abbrev cX12_wordTold : ByteArray := prog_14_method_17_code
def yX12_wordTold : MethodName := ⟨RX12, "wordTold", "()I"⟩
abbrev cX12_needs : ByteArray := prog_14_method_18_code
def yX12_needs : MethodName := ⟨RX12, "needs", "(I)I"⟩
abbrev cX12_isRead : ByteArray := prog_14_method_19_code
def yX12_isRead : MethodName := ⟨RX12, "isRead", "()Z"⟩
abbrev cX12_fault : ByteArray := prog_14_method_20_code
def yX12_fault : MethodName := ⟨RX12, "fault", "()I"⟩
abbrev cX12_allOf : ByteArray := prog_14_method_21_code
def yX12_allOf : MethodName := ⟨RX12, "allOf", "(II)I"⟩
abbrev cX12_bySize : ByteArray := prog_14_method_22_code
def yX12_bySize : MethodName := ⟨RX12, "bySize", "(IZ)I"⟩
abbrev cX12_leftmost : ByteArray := prog_14_method_23_code
def yX12_leftmost : MethodName := ⟨RX12, "leftmost", "(I)I"⟩
abbrev cX12_made : ByteArray := prog_14_method_24_code
def yX12_made : MethodName := ⟨RX12, "made", "(III)I"⟩
abbrev cX12_meaning : ByteArray := prog_14_method_25_code
def yX12_meaning : MethodName := ⟨RX12, "meaning", "()I"⟩
abbrev cX12_costTold : ByteArray := prog_14_method_26_code
def yX12_costTold : MethodName := ⟨RX12, "costTold", "()I"⟩
abbrev cX12_says : ByteArray := prog_14_method_27_code
def yX12_says : MethodName := ⟨RX12, "says", "(I)I"⟩
abbrev cX12_keep : ByteArray := prog_14_method_28_code
def yX12_keep : MethodName := ⟨RX12, "keep", "()I"⟩
abbrev cX12_recall : ByteArray := prog_14_method_29_code
def yX12_recall : MethodName := ⟨RX12, "recall", "(I)V"⟩
abbrev cX12_kept : ByteArray := prog_14_method_30_code
def yX12_kept : MethodName := ⟨RX12, "kept", "(II)I"⟩
abbrev cX12_offer : ByteArray := prog_14_method_31_code
def yX12_offer : MethodName := ⟨RX12, "offer", "(IIIII)V"⟩
abbrev cX12_isAhead : ByteArray := prog_14_method_32_code
def yX12_isAhead : MethodName := ⟨RX12, "isAhead", "(II)Z"⟩
abbrev cX12_settle : ByteArray := prog_14_method_33_code
def yX12_settle : MethodName := ⟨RX12, "settle", "(I)V"⟩
abbrev cX12_search : ByteArray := prog_14_method_34_code
def yX12_search : MethodName := ⟨RX12, "search", "(I)V"⟩
abbrev cX12_cheapestLeft : ByteArray := prog_14_method_35_code
def yX12_cheapestLeft : MethodName := ⟨RX12, "cheapestLeft", "()I"⟩
abbrev cX12_areWords : ByteArray := prog_14_method_36_code
def yX12_areWords : MethodName := ⟨RX12, "areWords", "(I)Z"⟩
abbrev cX12_cheapest : ByteArray := prog_14_method_37_code
def yX12_cheapest : MethodName := ⟨RX12, "cheapest", "(III)I"⟩
abbrev cX12_sets : ByteArray := prog_14_method_38_code
def yX12_sets : MethodName := ⟨RX12, "sets", "(I)I"⟩
abbrev cX12_quick : ByteArray := prog_14_method_39_code
def yX12_quick : MethodName := ⟨RX12, "quick", "(I)I"⟩
abbrev cX12_howMany : ByteArray := prog_14_method_40_code
def yX12_howMany : MethodName := ⟨RX12, "howMany", "(II)I"⟩
abbrev cX12_tiesTo : ByteArray := prog_14_method_41_code
def yX12_tiesTo : MethodName := ⟨RX12, "tiesTo", "(I)I"⟩
abbrev cX12_areAlike : ByteArray := prog_14_method_42_code
def yX12_areAlike : MethodName := ⟨RX12, "areAlike", "(II)Z"⟩
abbrev cX12_findTwins : ByteArray := prog_14_method_43_code
def yX12_findTwins : MethodName := ⟨RX12, "findTwins", "()V"⟩
abbrev cX12_twin : ByteArray := prog_14_method_44_code
def yX12_twin : MethodName := ⟨RX12, "twin", "(II)I"⟩
abbrev cX12_breaks : ByteArray := prog_14_method_45_code
def yX12_breaks : MethodName := ⟨RX12, "breaks", "()I"⟩
abbrev cX12_think : ByteArray := prog_14_method_46_code
def yX12_think : MethodName := ⟨RX12, "think", "(I)V"⟩
abbrev cX12_findSaid : ByteArray := prog_14_method_47_code
def yX12_findSaid : MethodName := ⟨RX12, "findSaid", "()V"⟩
abbrev cX12_hears : ByteArray := prog_14_method_48_code
def yX12_hears : MethodName := ⟨RX12, "hears", "(II)I"⟩
abbrev cX12_tells : ByteArray := prog_14_method_49_code
def yX12_tells : MethodName := ⟨RX12, "tells", "(II)I"⟩
abbrev cX12_ends : ByteArray := prog_14_method_50_code
def yX12_ends : MethodName := ⟨RX12, "ends", "()I"⟩
abbrev cX12_tryWord : ByteArray := prog_14_method_51_code
def yX12_tryWord : MethodName := ⟨RX12, "tryWord", "(III)V"⟩
abbrev cX12_wrong : ByteArray := prog_14_method_52_code
def yX12_wrong : MethodName := ⟨RX12, "wrong", "(I)I"⟩
abbrev cX12_name : ByteArray := prog_14_method_53_code
def yX12_name : MethodName := ⟨RX12, "name", "(I)I"⟩
abbrev cX12_hush : ByteArray := prog_14_method_54_code
def yX12_hush : MethodName := ⟨RX12, "hush", "()I"⟩
abbrev cX12_talk : ByteArray := prog_14_method_55_code
def yX12_talk : MethodName := ⟨RX12, "talk", "(I)I"⟩
abbrev cX12_worthOf : ByteArray := prog_14_method_56_code
def yX12_worthOf : MethodName := ⟨RX12, "worthOf", "(I)I"⟩
abbrev cX12_worth : ByteArray := prog_14_method_57_code
def yX12_worth : MethodName := ⟨RX12, "worth", "(II)I"⟩
abbrev cX12_count : ByteArray := prog_14_method_58_code
def yX12_count : MethodName := ⟨RX12, "count", "(I)I"⟩
def RJx145de : String := "java/io/Serializable"
def TJx145de : u_T := fun k => match k with
  | _ => ("", "", "", false)
def tyJx145de : Nat → FieldType := fun k => match k with
  | _ => .int
abbrev wsJx145de0 : List Cond := u_ws RJx145de TJx145de 0
theorem nmJx145de : ∀ a, a < 0 → ∀ b, b < 0 → a ≠ b → (TJx145de a).2.1 ≠ (TJx145de b).2.1 := by decide +kernel
theorem tyJx145de_ok : ∀ k, k < 0 → parseFieldDescriptor (TJx145de k).2.2.1 = some (tyJx145de k) := by decide +kernel
def RJx9f9b0 : String := "java/lang/CharSequence"
def TJx9f9b0 : u_T := fun k => match k with
  | _ => ("", "", "", false)
def tyJx9f9b0 : Nat → FieldType := fun k => match k with
  | _ => .int
abbrev wsJx9f9b00 : List Cond := u_ws RJx9f9b0 TJx9f9b0 0
theorem nmJx9f9b0 : ∀ a, a < 0 → ∀ b, b < 0 → a ≠ b → (TJx9f9b0 a).2.1 ≠ (TJx9f9b0 b).2.1 := by decide +kernel
theorem tyJx9f9b0_ok : ∀ k, k < 0 → parseFieldDescriptor (TJx9f9b0 k).2.2.1 = some (tyJx9f9b0 k) := by decide +kernel
def RJxb160c : String := "java/lang/Comparable"
def TJxb160c : u_T := fun k => match k with
  | _ => ("", "", "", false)
def tyJxb160c : Nat → FieldType := fun k => match k with
  | _ => .int
abbrev wsJxb160c0 : List Cond := u_ws RJxb160c TJxb160c 0
theorem nmJxb160c : ∀ a, a < 0 → ∀ b, b < 0 → a ≠ b → (TJxb160c a).2.1 ≠ (TJxb160c b).2.1 := by decide +kernel
theorem tyJxb160c_ok : ∀ k, k < 0 → parseFieldDescriptor (TJxb160c k).2.2.1 = some (tyJxb160c k) := by decide +kernel
def RJ6 : String := "java/lang/Integer"
def TJ6 : u_T := fun k => match k with
  | _ => ("", "", "", false)
def tyJ6 : Nat → FieldType := fun k => match k with
  | _ => .int
abbrev wsJ60 : List Cond := u_ws RJ6 TJ6 0
theorem nmJ6 : ∀ a, a < 0 → ∀ b, b < 0 → a ≠ b → (TJ6 a).2.1 ≠ (TJ6 b).2.1 := by decide +kernel
theorem tyJ6_ok : ∀ k, k < 0 → parseFieldDescriptor (TJ6 k).2.2.1 = some (tyJ6 k) := by decide +kernel
abbrev cJ6_numberOfTrailingZeros_0f7a4 : ByteArray := prog_15_method_48_code
def yJ6_numberOfTrailingZeros_0f7a4 : MethodName := ⟨RJ6, "numberOfTrailingZeros", "(I)I"⟩
abbrev cJ6_bitCount_0f7a4 : ByteArray := prog_15_method_49_code
def yJ6_bitCount_0f7a4 : MethodName := ⟨RJ6, "bitCount", "(I)I"⟩
def RJ9 : String := "java/lang/Math"
def TJ9 : u_T := fun k => match k with
  | _ => ("", "", "", false)
def tyJ9 : Nat → FieldType := fun k => match k with
  | _ => .int
abbrev wsJ90 : List Cond := u_ws RJ9 TJ9 0
theorem nmJ9 : ∀ a, a < 0 → ∀ b, b < 0 → a ≠ b → (TJ9 a).2.1 ≠ (TJ9 b).2.1 := by decide +kernel
theorem tyJ9_ok : ∀ k, k < 0 → parseFieldDescriptor (TJ9 k).2.2.1 = some (tyJ9 k) := by decide +kernel
abbrev cJ9_max_7cf53 : ByteArray := prog_16_method_65_code
def yJ9_max_7cf53 : MethodName := ⟨RJ9, "max", "(II)I"⟩
abbrev cJ9_min_7cf53 : ByteArray := prog_16_method_69_code
def yJ9_min_7cf53 : MethodName := ⟨RJ9, "min", "(II)I"⟩
def RJ0 : String := "java/lang/String"
def TJ0 : u_T := fun k => match k with
  | _ => ("", "", "", false)
def tyJ0 : Nat → FieldType := fun k => match k with
  | _ => .int
abbrev wsJ00 : List Cond := u_ws RJ0 TJ0 0
theorem nmJ0 : ∀ a, a < 0 → ∀ b, b < 0 → a ≠ b → (TJ0 a).2.1 ≠ (TJ0 b).2.1 := by decide +kernel
theorem tyJ0_ok : ∀ k, k < 0 → parseFieldDescriptor (TJ0 k).2.2.1 = some (tyJ0 k) := by decide +kernel
abbrev cJ0_charAt_5068e : ByteArray := prog_17_method_56_code
def yJ0_charAt_5068e : MethodName := ⟨RJ0, "charAt", "(I)C"⟩
abbrev cJ0_isLatin1_aae02 : ByteArray := prog_17_method_154_code
def yJ0_isLatin1_aae02 : MethodName := ⟨RJ0, "isLatin1", "()Z"⟩
abbrev cJ0_checkIndex_df160 : ByteArray := prog_17_method_155_code
def yJ0_checkIndex_df160 : MethodName := ⟨RJ0, "checkIndex", "(II)V"⟩
def RJ1 : String := "java/lang/StringLatin1"
def TJ1 : u_T := fun k => match k with
  | _ => ("", "", "", false)
def tyJ1 : Nat → FieldType := fun k => match k with
  | _ => .int
abbrev wsJ10 : List Cond := u_ws RJ1 TJ1 0
theorem nmJ1 : ∀ a, a < 0 → ∀ b, b < 0 → a ≠ b → (TJ1 a).2.1 ≠ (TJ1 b).2.1 := by decide +kernel
theorem tyJ1_ok : ∀ k, k < 0 → parseFieldDescriptor (TJ1 k).2.2.1 = some (tyJ1 k) := by decide +kernel
abbrev cJ1_charAt_3b067 : ByteArray := prog_18_method_2_code
def yJ1_charAt_3b067 : MethodName := ⟨RJ1, "charAt", "([BI)C"⟩
def RJ2 : String := "java/lang/StringUTF16"
def TJ2 : u_T := fun k => match k with
  | _ => ("", "", "", false)
def tyJ2 : Nat → FieldType := fun k => match k with
  | _ => .int
abbrev wsJ20 : List Cond := u_ws RJ2 TJ2 0
theorem nmJ2 : ∀ a, a < 0 → ∀ b, b < 0 → a ≠ b → (TJ2 a).2.1 ≠ (TJ2 b).2.1 := by decide +kernel
theorem tyJ2_ok : ∀ k, k < 0 → parseFieldDescriptor (TJ2 k).2.2.1 = some (tyJ2 k) := by decide +kernel
abbrev cJ2_getChar_3b067 : ByteArray := prog_19_method_5_code
def yJ2_getChar_3b067 : MethodName := ⟨RJ2, "getChar", "([BI)C"⟩
abbrev cJ2_length_9d52b : ByteArray := prog_19_method_6_code
def yJ2_length_9d52b : MethodName := ⟨RJ2, "length", "([B)I"⟩
abbrev cJ2_charAt_3b067 : ByteArray := prog_19_method_83_code
def yJ2_charAt_3b067 : MethodName := ⟨RJ2, "charAt", "([BI)C"⟩
abbrev cJ2_checkIndex_2214a : ByteArray := prog_19_method_91_code
def yJ2_checkIndex_2214a : MethodName := ⟨RJ2, "checkIndex", "(I[B)V"⟩
def RJ10 : String := "java/lang/System"
def TJ10 : u_T := fun k => match k with
  | _ => ("", "", "", false)
def tyJ10 : Nat → FieldType := fun k => match k with
  | _ => .int
abbrev wsJ100 : List Cond := u_ws RJ10 TJ10 0
theorem nmJ10 : ∀ a, a < 0 → ∀ b, b < 0 → a ≠ b → (TJ10 a).2.1 ≠ (TJ10 b).2.1 := by decide +kernel
theorem tyJ10_ok : ∀ k, k < 0 → parseFieldDescriptor (TJ10 k).2.2.1 = some (tyJ10 k) := by decide +kernel
def RJxfd54e : String := "java/lang/constant/Constable"
def TJxfd54e : u_T := fun k => match k with
  | _ => ("", "", "", false)
def tyJxfd54e : Nat → FieldType := fun k => match k with
  | _ => .int
abbrev wsJxfd54e0 : List Cond := u_ws RJxfd54e TJxfd54e 0
theorem nmJxfd54e : ∀ a, a < 0 → ∀ b, b < 0 → a ≠ b → (TJxfd54e a).2.1 ≠ (TJxfd54e b).2.1 := by decide +kernel
theorem tyJxfd54e_ok : ∀ k, k < 0 → parseFieldDescriptor (TJxfd54e k).2.2.1 = some (tyJxfd54e k) := by decide +kernel
def RJx3cf43 : String := "java/lang/constant/ConstantDesc"
def TJx3cf43 : u_T := fun k => match k with
  | _ => ("", "", "", false)
def tyJx3cf43 : Nat → FieldType := fun k => match k with
  | _ => .int
abbrev wsJx3cf430 : List Cond := u_ws RJx3cf43 TJx3cf43 0
theorem nmJx3cf43 : ∀ a, a < 0 → ∀ b, b < 0 → a ≠ b → (TJx3cf43 a).2.1 ≠ (TJx3cf43 b).2.1 := by decide +kernel
theorem tyJx3cf43_ok : ∀ k, k < 0 → parseFieldDescriptor (TJx3cf43 k).2.2.1 = some (tyJx3cf43 k) := by decide +kernel
def RJ7 : String := "java/util/Arrays"
def TJ7 : u_T := fun k => match k with
  | _ => ("", "", "", false)
def tyJ7 : Nat → FieldType := fun k => match k with
  | _ => .int
abbrev wsJ70 : List Cond := u_ws RJ7 TJ7 0
theorem nmJ7 : ∀ a, a < 0 → ∀ b, b < 0 → a ≠ b → (TJ7 a).2.1 ≠ (TJ7 b).2.1 := by decide +kernel
theorem tyJ7_ok : ∀ k, k < 0 → parseFieldDescriptor (TJ7 k).2.2.1 = some (tyJ7 k) := by decide +kernel
abbrev cJ7_fill_53178 : ByteArray := prog_21_method_103_code
def yJ7_fill_53178 : MethodName := ⟨RJ7, "fill", "([II)V"⟩
def RJ3 : String := "jdk/internal/util/Preconditions"
def TJ3 : u_T := fun k => match k with
  | _ => ("", "", "", false)
def tyJ3 : Nat → FieldType := fun k => match k with
  | _ => .int
abbrev wsJ30 : List Cond := u_ws RJ3 TJ3 0
theorem nmJ3 : ∀ a, a < 0 → ∀ b, b < 0 → a ≠ b → (TJ3 a).2.1 ≠ (TJ3 b).2.1 := by decide +kernel
theorem tyJ3_ok : ∀ k, k < 0 → parseFieldDescriptor (TJ3 k).2.2.1 = some (tyJ3 k) := by decide +kernel
abbrev cJ3_checkIndex_8e157 : ByteArray := prog_22_method_11_code
def yJ3_checkIndex_8e157 : MethodName := ⟨RJ3, "checkIndex", "(IILjava/util/function/BiFunction;)I"⟩
def RL : String := "GreenDoorLaw"
abbrev cL_law : ByteArray := code
def yL_law : MethodName := ⟨RL, "law", "([I)Z"⟩
abbrev vwCl : List vw_C := [(RX0, TX0, 5), (RX1, TX1, 4), (RX2, TX2, 3), (RX4, TX4, 3), (RX5, TX5, 3), (RX6, TX6, 2), (RX7, TX7, 5), (RX8, TX8, 3), (RX9, TX9, 12), (RX11, TX11, 12), (RX12, TX12, 41)]
