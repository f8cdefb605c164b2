section
-- ===== PART A: goes FIRST, ahead of the names: the tables' words, and 'selects' of the private methods out of them =====
/-- a private method of a class that the tables say can be made, by its rows of tables_1 -/
def lw_okq (q : MethodName × Nat) : Prop := (q.1.cls ≠ "java/lang/invoke/MethodHandle" ∧ q.1.cls ≠ "java/lang/invoke/VarHandle") ∧ Cond.instantiable q.1.cls q.2 ∈ tables_1 ∧ Cond.privateMethod q.1 ∈ tables_1 ∧ Cond.instanceMethod q.1 ∈ tables_1
theorem lw_p0 : lw_okq (⟨"GreenDoor$Scene", "thoseWith", "(II)I"⟩, 3) := ⟨⟨by decide +kernel, by decide +kernel⟩, List.mem_of_getElem? (i := 31) (by decide +kernel), List.mem_of_getElem? (i := 313) (by decide +kernel), List.mem_of_getElem? (i := 314) (by decide +kernel)⟩
theorem lw_p1 : lw_okq (⟨"GreenDoor$Text", "endOfToken", "(I)I"⟩, 5) := ⟨⟨by decide +kernel, by decide +kernel⟩, List.mem_of_getElem? (i := 58) (by decide +kernel), List.mem_of_getElem? (i := 379) (by decide +kernel), List.mem_of_getElem? (i := 380) (by decide +kernel)⟩
theorem lw_p2 : lw_okq (⟨"GreenDoor$Text", "sortAt", "(I)I"⟩, 5) := ⟨⟨by decide +kernel, by decide +kernel⟩, List.mem_of_getElem? (i := 58) (by decide +kernel), List.mem_of_getElem? (i := 383) (by decide +kernel), List.mem_of_getElem? (i := 384) (by decide +kernel)⟩
theorem lw_p3 : lw_okq (⟨"GreenDoor$Text", "readNumber", "(II)Z"⟩, 5) := ⟨⟨by decide +kernel, by decide +kernel⟩, List.mem_of_getElem? (i := 58) (by decide +kernel), List.mem_of_getElem? (i := 388) (by decide +kernel), List.mem_of_getElem? (i := 389) (by decide +kernel)⟩
theorem lw_p4 : lw_okq (⟨"GreenDoor$Text", "readWord", "(II)Z"⟩, 5) := ⟨⟨by decide +kernel, by decide +kernel⟩, List.mem_of_getElem? (i := 58) (by decide +kernel), List.mem_of_getElem? (i := 396) (by decide +kernel), List.mem_of_getElem? (i := 397) (by decide +kernel)⟩
theorem lw_p5 : lw_okq (⟨"GreenDoor", "told", "(LGreenDoor$Saying;I)I"⟩, 12) := ⟨⟨by decide +kernel, by decide +kernel⟩, List.mem_of_getElem? (i := 23) (by decide +kernel), List.mem_of_getElem? (i := 467) (by decide +kernel), List.mem_of_getElem? (i := 468) (by decide +kernel)⟩
theorem lw_p6 : lw_okq (⟨"GreenDoor$Scene", "thoseMarked", "(I)I"⟩, 3) := ⟨⟨by decide +kernel, by decide +kernel⟩, List.mem_of_getElem? (i := 31) (by decide +kernel), List.mem_of_getElem? (i := 487) (by decide +kernel), List.mem_of_getElem? (i := 488) (by decide +kernel)⟩
theorem lw_p7 : lw_okq (⟨"GreenDoor$Scene", "thoseLinked", "(II)I"⟩, 3) := ⟨⟨by decide +kernel, by decide +kernel⟩, List.mem_of_getElem? (i := 31) (by decide +kernel), List.mem_of_getElem? (i := 495) (by decide +kernel), List.mem_of_getElem? (i := 496) (by decide +kernel)⟩
theorem lw_p8 : lw_okq (⟨"GreenDoor$Scene", "greatestSize", "(I)I"⟩, 3) := ⟨⟨by decide +kernel, by decide +kernel⟩, List.mem_of_getElem? (i := 31) (by decide +kernel), List.mem_of_getElem? (i := 499) (by decide +kernel), List.mem_of_getElem? (i := 500) (by decide +kernel)⟩
theorem lw_p9 : lw_okq (⟨"GreenDoor$Scene", "ofSize", "(II)I"⟩, 3) := ⟨⟨by decide +kernel, by decide +kernel⟩, List.mem_of_getElem? (i := 31) (by decide +kernel), List.mem_of_getElem? (i := 506) (by decide +kernel), List.mem_of_getElem? (i := 507) (by decide +kernel)⟩
theorem lw_p10 : lw_okq (⟨"GreenDoor$Scene", "leastSize", "(I)I"⟩, 3) := ⟨⟨by decide +kernel, by decide +kernel⟩, List.mem_of_getElem? (i := 31) (by decide +kernel), List.mem_of_getElem? (i := 510) (by decide +kernel), List.mem_of_getElem? (i := 511) (by decide +kernel)⟩
theorem lw_p11 : lw_okq (⟨"GreenDoor$Scene", "leftmost", "(I)I"⟩, 3) := ⟨⟨by decide +kernel, by decide +kernel⟩, List.mem_of_getElem? (i := 31) (by decide +kernel), List.mem_of_getElem? (i := 515) (by decide +kernel), List.mem_of_getElem? (i := 516) (by decide +kernel)⟩
theorem lw_p12 : lw_okq (⟨"GreenDoor", "waysWith", "(I)LGreenDoor$Ways;"⟩, 12) := ⟨⟨by decide +kernel, by decide +kernel⟩, List.mem_of_getElem? (i := 23) (by decide +kernel), List.mem_of_getElem? (i := 555) (by decide +kernel), List.mem_of_getElem? (i := 556) (by decide +kernel)⟩
theorem lw_p13 : lw_okq (⟨"GreenDoor$Ways", "start", "(LGreenDoor$Scene;[I)V"⟩, 12) := ⟨⟨by decide +kernel, by decide +kernel⟩, List.mem_of_getElem? (i := 105) (by decide +kernel), List.mem_of_getElem? (i := 563) (by decide +kernel), List.mem_of_getElem? (i := 564) (by decide +kernel)⟩
theorem lw_p14 : lw_okq (⟨"GreenDoor$Ways", "offerNamed", "(LGreenDoor$Scene;II)V"⟩, 12) := ⟨⟨by decide +kernel, by decide +kernel⟩, List.mem_of_getElem? (i := 105) (by decide +kernel), List.mem_of_getElem? (i := 572) (by decide +kernel), List.mem_of_getElem? (i := 573) (by decide +kernel)⟩
theorem lw_p15 : lw_okq (⟨"GreenDoor$Ways", "offer", "(III)V"⟩, 12) := ⟨⟨by decide +kernel, by decide +kernel⟩, List.mem_of_getElem? (i := 105) (by decide +kernel), List.mem_of_getElem? (i := 579) (by decide +kernel), List.mem_of_getElem? (i := 580) (by decide +kernel)⟩
def lw_privs_1 : List (MethodName × Nat) := [(⟨"GreenDoor$Scene", "thoseWith", "(II)I"⟩, 3), (⟨"GreenDoor$Text", "endOfToken", "(I)I"⟩, 5), (⟨"GreenDoor$Text", "sortAt", "(I)I"⟩, 5), (⟨"GreenDoor$Text", "readNumber", "(II)Z"⟩, 5), (⟨"GreenDoor$Text", "readWord", "(II)Z"⟩, 5), (⟨"GreenDoor", "told", "(LGreenDoor$Saying;I)I"⟩, 12), (⟨"GreenDoor$Scene", "thoseMarked", "(I)I"⟩, 3), (⟨"GreenDoor$Scene", "thoseLinked", "(II)I"⟩, 3), (⟨"GreenDoor$Scene", "greatestSize", "(I)I"⟩, 3), (⟨"GreenDoor$Scene", "ofSize", "(II)I"⟩, 3), (⟨"GreenDoor$Scene", "leastSize", "(I)I"⟩, 3), (⟨"GreenDoor$Scene", "leftmost", "(I)I"⟩, 3), (⟨"GreenDoor", "waysWith", "(I)LGreenDoor$Ways;"⟩, 12), (⟨"GreenDoor$Ways", "start", "(LGreenDoor$Scene;[I)V"⟩, 12), (⟨"GreenDoor$Ways", "offerNamed", "(LGreenDoor$Scene;II)V"⟩, 12), (⟨"GreenDoor$Ways", "offer", "(III)V"⟩, 12)]
theorem lw_r1 : ∀ q ∈ lw_privs_1, lw_okq q := List.forall_mem_cons.mpr ⟨lw_p0, List.forall_mem_cons.mpr ⟨lw_p1, List.forall_mem_cons.mpr ⟨lw_p2, List.forall_mem_cons.mpr ⟨lw_p3, List.forall_mem_cons.mpr ⟨lw_p4, List.forall_mem_cons.mpr ⟨lw_p5, List.forall_mem_cons.mpr ⟨lw_p6, List.forall_mem_cons.mpr ⟨lw_p7, List.forall_mem_cons.mpr ⟨lw_p8, List.forall_mem_cons.mpr ⟨lw_p9, List.forall_mem_cons.mpr ⟨lw_p10, List.forall_mem_cons.mpr ⟨lw_p11, List.forall_mem_cons.mpr ⟨lw_p12, List.forall_mem_cons.mpr ⟨lw_p13, List.forall_mem_cons.mpr ⟨lw_p14, List.forall_mem_cons.mpr ⟨lw_p15, fun _ h => absurd h List.not_mem_nil⟩⟩⟩⟩⟩⟩⟩⟩⟩⟩⟩⟩⟩⟩⟩⟩
theorem lw_p16 : lw_okq (⟨"GreenDoor$Ways", "isAhead", "(II)Z"⟩, 12) := ⟨⟨by decide +kernel, by decide +kernel⟩, List.mem_of_getElem? (i := 105) (by decide +kernel), List.mem_of_getElem? (i := 583) (by decide +kernel), List.mem_of_getElem? (i := 584) (by decide +kernel)⟩
theorem lw_p17 : lw_okq (⟨"GreenDoor$Ways", "nearest", "(I)I"⟩, 12) := ⟨⟨by decide +kernel, by decide +kernel⟩, List.mem_of_getElem? (i := 105) (by decide +kernel), List.mem_of_getElem? (i := 589) (by decide +kernel), List.mem_of_getElem? (i := 590) (by decide +kernel)⟩
theorem lw_p18 : lw_okq (⟨"GreenDoor$Ways", "reach", "(I)V"⟩, 12) := ⟨⟨by decide +kernel, by decide +kernel⟩, List.mem_of_getElem? (i := 105) (by decide +kernel), List.mem_of_getElem? (i := 594) (by decide +kernel), List.mem_of_getElem? (i := 595) (by decide +kernel)⟩
theorem lw_p19 : lw_okq (⟨"GreenDoor$Ways", "turn", "(LGreenDoor$Scene;[II)V"⟩, 12) := ⟨⟨by decide +kernel, by decide +kernel⟩, List.mem_of_getElem? (i := 105) (by decide +kernel), List.mem_of_getElem? (i := 599) (by decide +kernel), List.mem_of_getElem? (i := 600) (by decide +kernel)⟩
theorem lw_p20 : lw_okq (⟨"GreenDoor$Ways", "joinAll", "([II)V"⟩, 12) := ⟨⟨by decide +kernel, by decide +kernel⟩, List.mem_of_getElem? (i := 105) (by decide +kernel), List.mem_of_getElem? (i := 604) (by decide +kernel), List.mem_of_getElem? (i := 605) (by decide +kernel)⟩
theorem lw_p21 : lw_okq (⟨"GreenDoor$Ways", "joinTwo", "([III)V"⟩, 12) := ⟨⟨by decide +kernel, by decide +kernel⟩, List.mem_of_getElem? (i := 105) (by decide +kernel), List.mem_of_getElem? (i := 608) (by decide +kernel), List.mem_of_getElem? (i := 609) (by decide +kernel)⟩
theorem lw_p22 : lw_okq (⟨"GreenDoor$Ways", "offerJoin", "(IIII)V"⟩, 12) := ⟨⟨by decide +kernel, by decide +kernel⟩, List.mem_of_getElem? (i := 105) (by decide +kernel), List.mem_of_getElem? (i := 612) (by decide +kernel), List.mem_of_getElem? (i := 613) (by decide +kernel)⟩
theorem lw_p23 : lw_okq (⟨"GreenDoor$Twins", "part", "(LGreenDoor$Scene;I)Z"⟩, 3) := ⟨⟨by decide +kernel, by decide +kernel⟩, List.mem_of_getElem? (i := 182) (by decide +kernel), List.mem_of_getElem? (i := 652) (by decide +kernel), List.mem_of_getElem? (i := 653) (by decide +kernel)⟩
theorem lw_p24 : lw_okq (⟨"GreenDoor$Twins", "hasAsMany", "(LGreenDoor$Scene;II)Z"⟩, 3) := ⟨⟨by decide +kernel, by decide +kernel⟩, List.mem_of_getElem? (i := 182) (by decide +kernel), List.mem_of_getElem? (i := 659) (by decide +kernel), List.mem_of_getElem? (i := 660) (by decide +kernel)⟩
theorem lw_p25 : lw_okq (⟨"GreenDoor", "firstBreak", "(LGreenDoor$Saying;)I"⟩, 12) := ⟨⟨by decide +kernel, by decide +kernel⟩, List.mem_of_getElem? (i := 23) (by decide +kernel), List.mem_of_getElem? (i := 677) (by decide +kernel), List.mem_of_getElem? (i := 678) (by decide +kernel)⟩
theorem lw_p26 : lw_okq (⟨"GreenDoor", "think", "(I)V"⟩, 12) := ⟨⟨by decide +kernel, by decide +kernel⟩, List.mem_of_getElem? (i := 23) (by decide +kernel), List.mem_of_getElem? (i := 685) (by decide +kernel), List.mem_of_getElem? (i := 686) (by decide +kernel)⟩
theorem lw_p27 : lw_okq (⟨"GreenDoor$Hearer", "isBetter", "(II)Z"⟩, 4) := ⟨⟨by decide +kernel, by decide +kernel⟩, List.mem_of_getElem? (i := 200) (by decide +kernel), List.mem_of_getElem? (i := 706) (by decide +kernel), List.mem_of_getElem? (i := 707) (by decide +kernel)⟩
theorem lw_p28 : lw_okq (⟨"GreenDoor$Misheard", "hearAs", "(LGreenDoor$Scene;LGreenDoor$Saying;II)V"⟩, 3) := ⟨⟨by decide +kernel, by decide +kernel⟩, List.mem_of_getElem? (i := 220) (by decide +kernel), List.mem_of_getElem? (i := 740) (by decide +kernel), List.mem_of_getElem? (i := 741) (by decide +kernel)⟩
theorem lw_p29 : lw_okq (⟨"GreenDoor$Talk", "pointingAt", "(I)I"⟩, 2) := ⟨⟨by decide +kernel, by decide +kernel⟩, List.mem_of_getElem? (i := 239) (by decide +kernel), List.mem_of_getElem? (i := 768) (by decide +kernel), List.mem_of_getElem? (i := 769) (by decide +kernel)⟩
theorem lw_p30 : lw_okq (⟨"GreenDoor$BestMark", "tryMark", "(LGreenDoor$Scene;[III)V"⟩, 5) := ⟨⟨by decide +kernel, by decide +kernel⟩, List.mem_of_getElem? (i := 154) (by decide +kernel), List.mem_of_getElem? (i := 788) (by decide +kernel), List.mem_of_getElem? (i := 789) (by decide +kernel)⟩
theorem lw_p31 : lw_okq (⟨"GreenDoorModel", "isThing", "(I)Z"⟩, 41) := ⟨⟨by decide +kernel, by decide +kernel⟩, List.mem_of_getElem? (i := 799) (by decide +kernel), List.mem_of_getElem? (i := 941) (by decide +kernel), List.mem_of_getElem? (i := 942) (by decide +kernel)⟩
def lw_privs_2 : List (MethodName × Nat) := [(⟨"GreenDoor$Ways", "isAhead", "(II)Z"⟩, 12), (⟨"GreenDoor$Ways", "nearest", "(I)I"⟩, 12), (⟨"GreenDoor$Ways", "reach", "(I)V"⟩, 12), (⟨"GreenDoor$Ways", "turn", "(LGreenDoor$Scene;[II)V"⟩, 12), (⟨"GreenDoor$Ways", "joinAll", "([II)V"⟩, 12), (⟨"GreenDoor$Ways", "joinTwo", "([III)V"⟩, 12), (⟨"GreenDoor$Ways", "offerJoin", "(IIII)V"⟩, 12), (⟨"GreenDoor$Twins", "part", "(LGreenDoor$Scene;I)Z"⟩, 3), (⟨"GreenDoor$Twins", "hasAsMany", "(LGreenDoor$Scene;II)Z"⟩, 3), (⟨"GreenDoor", "firstBreak", "(LGreenDoor$Saying;)I"⟩, 12), (⟨"GreenDoor", "think", "(I)V"⟩, 12), (⟨"GreenDoor$Hearer", "isBetter", "(II)Z"⟩, 4), (⟨"GreenDoor$Misheard", "hearAs", "(LGreenDoor$Scene;LGreenDoor$Saying;II)V"⟩, 3), (⟨"GreenDoor$Talk", "pointingAt", "(I)I"⟩, 2), (⟨"GreenDoor$BestMark", "tryMark", "(LGreenDoor$Scene;[III)V"⟩, 5), (⟨"GreenDoorModel", "isThing", "(I)Z"⟩, 41)]
theorem lw_r2 : ∀ q ∈ lw_privs_2, lw_okq q := List.forall_mem_cons.mpr ⟨lw_p16, List.forall_mem_cons.mpr ⟨lw_p17, List.forall_mem_cons.mpr ⟨lw_p18, List.forall_mem_cons.mpr ⟨lw_p19, List.forall_mem_cons.mpr ⟨lw_p20, List.forall_mem_cons.mpr ⟨lw_p21, List.forall_mem_cons.mpr ⟨lw_p22, List.forall_mem_cons.mpr ⟨lw_p23, List.forall_mem_cons.mpr ⟨lw_p24, List.forall_mem_cons.mpr ⟨lw_p25, List.forall_mem_cons.mpr ⟨lw_p26, List.forall_mem_cons.mpr ⟨lw_p27, List.forall_mem_cons.mpr ⟨lw_p28, List.forall_mem_cons.mpr ⟨lw_p29, List.forall_mem_cons.mpr ⟨lw_p30, List.forall_mem_cons.mpr ⟨lw_p31, fun _ h => absurd h List.not_mem_nil⟩⟩⟩⟩⟩⟩⟩⟩⟩⟩⟩⟩⟩⟩⟩⟩
theorem lw_p32 : lw_okq (⟨"GreenDoorModel", "tieMany", "()I"⟩, 41) := ⟨⟨by decide +kernel, by decide +kernel⟩, List.mem_of_getElem? (i := 799) (by decide +kernel), List.mem_of_getElem? (i := 949) (by decide +kernel), List.mem_of_getElem? (i := 950) (by decide +kernel)⟩
theorem lw_p33 : lw_okq (⟨"GreenDoorModel", "besides", "(I)I"⟩, 41) := ⟨⟨by decide +kernel, by decide +kernel⟩, List.mem_of_getElem? (i := 799) (by decide +kernel), List.mem_of_getElem? (i := 960) (by decide +kernel), List.mem_of_getElem? (i := 961) (by decide +kernel)⟩
theorem lw_p34 : lw_okq (⟨"GreenDoorModel", "isRead", "()Z"⟩, 41) := ⟨⟨by decide +kernel, by decide +kernel⟩, List.mem_of_getElem? (i := 799) (by decide +kernel), List.mem_of_getElem? (i := 981) (by decide +kernel), List.mem_of_getElem? (i := 982) (by decide +kernel)⟩
theorem lw_p35 : lw_okq (⟨"GreenDoorModel", "nextToken", "()V"⟩, 41) := ⟨⟨by decide +kernel, by decide +kernel⟩, List.mem_of_getElem? (i := 799) (by decide +kernel), List.mem_of_getElem? (i := 985) (by decide +kernel), List.mem_of_getElem? (i := 986) (by decide +kernel)⟩
theorem lw_p36 : lw_okq (⟨"GreenDoorModel", "wordTold", "()I"⟩, 41) := ⟨⟨by decide +kernel, by decide +kernel⟩, List.mem_of_getElem? (i := 799) (by decide +kernel), List.mem_of_getElem? (i := 994) (by decide +kernel), List.mem_of_getElem? (i := 995) (by decide +kernel)⟩
theorem lw_p37 : lw_okq (⟨"GreenDoorModel", "fails", "()Z"⟩, 41) := ⟨⟨by decide +kernel, by decide +kernel⟩, List.mem_of_getElem? (i := 799) (by decide +kernel), List.mem_of_getElem? (i := 1013) (by decide +kernel), List.mem_of_getElem? (i := 1014) (by decide +kernel)⟩
theorem lw_p38 : lw_okq (⟨"GreenDoorModel", "meaning", "()I"⟩, 41) := ⟨⟨by decide +kernel, by decide +kernel⟩, List.mem_of_getElem? (i := 799) (by decide +kernel), List.mem_of_getElem? (i := 1024) (by decide +kernel), List.mem_of_getElem? (i := 1025) (by decide +kernel)⟩
theorem lw_p39 : lw_okq (⟨"GreenDoorModel", "allOf", "(II)I"⟩, 41) := ⟨⟨by decide +kernel, by decide +kernel⟩, List.mem_of_getElem? (i := 799) (by decide +kernel), List.mem_of_getElem? (i := 1028) (by decide +kernel), List.mem_of_getElem? (i := 1029) (by decide +kernel)⟩
theorem lw_p40 : lw_okq (⟨"GreenDoorModel", "made", "(III)I"⟩, 41) := ⟨⟨by decide +kernel, by decide +kernel⟩, List.mem_of_getElem? (i := 799) (by decide +kernel), List.mem_of_getElem? (i := 1032) (by decide +kernel), List.mem_of_getElem? (i := 1033) (by decide +kernel)⟩
theorem lw_p41 : lw_okq (⟨"GreenDoorModel", "every", "()I"⟩, 41) := ⟨⟨by decide +kernel, by decide +kernel⟩, List.mem_of_getElem? (i := 799) (by decide +kernel), List.mem_of_getElem? (i := 1036) (by decide +kernel), List.mem_of_getElem? (i := 1037) (by decide +kernel)⟩
theorem lw_p42 : lw_okq (⟨"GreenDoorModel", "bySize", "(IZ)I"⟩, 41) := ⟨⟨by decide +kernel, by decide +kernel⟩, List.mem_of_getElem? (i := 799) (by decide +kernel), List.mem_of_getElem? (i := 1040) (by decide +kernel), List.mem_of_getElem? (i := 1041) (by decide +kernel)⟩
theorem lw_p43 : lw_okq (⟨"GreenDoorModel", "leftmost", "(I)I"⟩, 41) := ⟨⟨by decide +kernel, by decide +kernel⟩, List.mem_of_getElem? (i := 799) (by decide +kernel), List.mem_of_getElem? (i := 1044) (by decide +kernel), List.mem_of_getElem? (i := 1045) (by decide +kernel)⟩
theorem lw_p44 : lw_okq (⟨"GreenDoorModel", "costTold", "()I"⟩, 41) := ⟨⟨by decide +kernel, by decide +kernel⟩, List.mem_of_getElem? (i := 799) (by decide +kernel), List.mem_of_getElem? (i := 1048) (by decide +kernel), List.mem_of_getElem? (i := 1049) (by decide +kernel)⟩
theorem lw_p45 : lw_okq (⟨"GreenDoorModel", "recall", "(I)V"⟩, 41) := ⟨⟨by decide +kernel, by decide +kernel⟩, List.mem_of_getElem? (i := 799) (by decide +kernel), List.mem_of_getElem? (i := 1060) (by decide +kernel), List.mem_of_getElem? (i := 1061) (by decide +kernel)⟩
theorem lw_p46 : lw_okq (⟨"GreenDoorModel", "search", "(I)V"⟩, 41) := ⟨⟨by decide +kernel, by decide +kernel⟩, List.mem_of_getElem? (i := 799) (by decide +kernel), List.mem_of_getElem? (i := 1071) (by decide +kernel), List.mem_of_getElem? (i := 1072) (by decide +kernel)⟩
theorem lw_p47 : lw_okq (⟨"GreenDoorModel", "offer", "(IIIII)V"⟩, 41) := ⟨⟨by decide +kernel, by decide +kernel⟩, List.mem_of_getElem? (i := 799) (by decide +kernel), List.mem_of_getElem? (i := 1075) (by decide +kernel), List.mem_of_getElem? (i := 1076) (by decide +kernel)⟩
def lw_privs_3 : List (MethodName × Nat) := [(⟨"GreenDoorModel", "tieMany", "()I"⟩, 41), (⟨"GreenDoorModel", "besides", "(I)I"⟩, 41), (⟨"GreenDoorModel", "isRead", "()Z"⟩, 41), (⟨"GreenDoorModel", "nextToken", "()V"⟩, 41), (⟨"GreenDoorModel", "wordTold", "()I"⟩, 41), (⟨"GreenDoorModel", "fails", "()Z"⟩, 41), (⟨"GreenDoorModel", "meaning", "()I"⟩, 41), (⟨"GreenDoorModel", "allOf", "(II)I"⟩, 41), (⟨"GreenDoorModel", "made", "(III)I"⟩, 41), (⟨"GreenDoorModel", "every", "()I"⟩, 41), (⟨"GreenDoorModel", "bySize", "(IZ)I"⟩, 41), (⟨"GreenDoorModel", "leftmost", "(I)I"⟩, 41), (⟨"GreenDoorModel", "costTold", "()I"⟩, 41), (⟨"GreenDoorModel", "recall", "(I)V"⟩, 41), (⟨"GreenDoorModel", "search", "(I)V"⟩, 41), (⟨"GreenDoorModel", "offer", "(IIIII)V"⟩, 41)]
theorem lw_r3 : ∀ q ∈ lw_privs_3, lw_okq q := List.forall_mem_cons.mpr ⟨lw_p32, List.forall_mem_cons.mpr ⟨lw_p33, List.forall_mem_cons.mpr ⟨lw_p34, List.forall_mem_cons.mpr ⟨lw_p35, List.forall_mem_cons.mpr ⟨lw_p36, List.forall_mem_cons.mpr ⟨lw_p37, List.forall_mem_cons.mpr ⟨lw_p38, List.forall_mem_cons.mpr ⟨lw_p39, List.forall_mem_cons.mpr ⟨lw_p40, List.forall_mem_cons.mpr ⟨lw_p41, List.forall_mem_cons.mpr ⟨lw_p42, List.forall_mem_cons.mpr ⟨lw_p43, List.forall_mem_cons.mpr ⟨lw_p44, List.forall_mem_cons.mpr ⟨lw_p45, List.forall_mem_cons.mpr ⟨lw_p46, List.forall_mem_cons.mpr ⟨lw_p47, fun _ h => absurd h List.not_mem_nil⟩⟩⟩⟩⟩⟩⟩⟩⟩⟩⟩⟩⟩⟩⟩⟩
theorem lw_p48 : lw_okq (⟨"GreenDoorModel", "cheapestLeft", "()I"⟩, 41) := ⟨⟨by decide +kernel, by decide +kernel⟩, List.mem_of_getElem? (i := 799) (by decide +kernel), List.mem_of_getElem? (i := 1079) (by decide +kernel), List.mem_of_getElem? (i := 1080) (by decide +kernel)⟩
theorem lw_p49 : lw_okq (⟨"GreenDoorModel", "settle", "(I)V"⟩, 41) := ⟨⟨by decide +kernel, by decide +kernel⟩, List.mem_of_getElem? (i := 799) (by decide +kernel), List.mem_of_getElem? (i := 1083) (by decide +kernel), List.mem_of_getElem? (i := 1084) (by decide +kernel)⟩
theorem lw_p50 : lw_okq (⟨"GreenDoorModel", "isAhead", "(II)Z"⟩, 41) := ⟨⟨by decide +kernel, by decide +kernel⟩, List.mem_of_getElem? (i := 799) (by decide +kernel), List.mem_of_getElem? (i := 1087) (by decide +kernel), List.mem_of_getElem? (i := 1088) (by decide +kernel)⟩
theorem lw_p51 : lw_okq (⟨"GreenDoorModel", "findTwins", "()V"⟩, 41) := ⟨⟨by decide +kernel, by decide +kernel⟩, List.mem_of_getElem? (i := 799) (by decide +kernel), List.mem_of_getElem? (i := 1103) (by decide +kernel), List.mem_of_getElem? (i := 1104) (by decide +kernel)⟩
theorem lw_p52 : lw_okq (⟨"GreenDoorModel", "areAlike", "(II)Z"⟩, 41) := ⟨⟨by decide +kernel, by decide +kernel⟩, List.mem_of_getElem? (i := 799) (by decide +kernel), List.mem_of_getElem? (i := 1107) (by decide +kernel), List.mem_of_getElem? (i := 1108) (by decide +kernel)⟩
theorem lw_p53 : lw_okq (⟨"GreenDoorModel", "howMany", "(II)I"⟩, 41) := ⟨⟨by decide +kernel, by decide +kernel⟩, List.mem_of_getElem? (i := 799) (by decide +kernel), List.mem_of_getElem? (i := 1111) (by decide +kernel), List.mem_of_getElem? (i := 1112) (by decide +kernel)⟩
theorem lw_p54 : lw_okq (⟨"GreenDoorModel", "tiesTo", "(I)I"⟩, 41) := ⟨⟨by decide +kernel, by decide +kernel⟩, List.mem_of_getElem? (i := 799) (by decide +kernel), List.mem_of_getElem? (i := 1115) (by decide +kernel), List.mem_of_getElem? (i := 1116) (by decide +kernel)⟩
theorem lw_p55 : lw_okq (⟨"GreenDoorModel", "think", "(I)V"⟩, 41) := ⟨⟨by decide +kernel, by decide +kernel⟩, List.mem_of_getElem? (i := 799) (by decide +kernel), List.mem_of_getElem? (i := 1127) (by decide +kernel), List.mem_of_getElem? (i := 1128) (by decide +kernel)⟩
theorem lw_p56 : lw_okq (⟨"GreenDoorModel", "findSaid", "()V"⟩, 41) := ⟨⟨by decide +kernel, by decide +kernel⟩, List.mem_of_getElem? (i := 799) (by decide +kernel), List.mem_of_getElem? (i := 1131) (by decide +kernel), List.mem_of_getElem? (i := 1132) (by decide +kernel)⟩
theorem lw_p57 : lw_okq (⟨"GreenDoorModel", "tryWord", "(III)V"⟩, 41) := ⟨⟨by decide +kernel, by decide +kernel⟩, List.mem_of_getElem? (i := 799) (by decide +kernel), List.mem_of_getElem? (i := 1147) (by decide +kernel), List.mem_of_getElem? (i := 1148) (by decide +kernel)⟩
theorem lw_p58 : lw_okq (⟨"GreenDoorModel", "worthOf", "(I)I"⟩, 41) := ⟨⟨by decide +kernel, by decide +kernel⟩, List.mem_of_getElem? (i := 799) (by decide +kernel), List.mem_of_getElem? (i := 1167) (by decide +kernel), List.mem_of_getElem? (i := 1168) (by decide +kernel)⟩
def lw_privs_4 : List (MethodName × Nat) := [(⟨"GreenDoorModel", "cheapestLeft", "()I"⟩, 41), (⟨"GreenDoorModel", "settle", "(I)V"⟩, 41), (⟨"GreenDoorModel", "isAhead", "(II)Z"⟩, 41), (⟨"GreenDoorModel", "findTwins", "()V"⟩, 41), (⟨"GreenDoorModel", "areAlike", "(II)Z"⟩, 41), (⟨"GreenDoorModel", "howMany", "(II)I"⟩, 41), (⟨"GreenDoorModel", "tiesTo", "(I)I"⟩, 41), (⟨"GreenDoorModel", "think", "(I)V"⟩, 41), (⟨"GreenDoorModel", "findSaid", "()V"⟩, 41), (⟨"GreenDoorModel", "tryWord", "(III)V"⟩, 41), (⟨"GreenDoorModel", "worthOf", "(I)I"⟩, 41)]
theorem lw_r4 : ∀ q ∈ lw_privs_4, lw_okq q := List.forall_mem_cons.mpr ⟨lw_p48, List.forall_mem_cons.mpr ⟨lw_p49, List.forall_mem_cons.mpr ⟨lw_p50, List.forall_mem_cons.mpr ⟨lw_p51, List.forall_mem_cons.mpr ⟨lw_p52, List.forall_mem_cons.mpr ⟨lw_p53, List.forall_mem_cons.mpr ⟨lw_p54, List.forall_mem_cons.mpr ⟨lw_p55, List.forall_mem_cons.mpr ⟨lw_p56, List.forall_mem_cons.mpr ⟨lw_p57, List.forall_mem_cons.mpr ⟨lw_p58, fun _ h => absurd h List.not_mem_nil⟩⟩⟩⟩⟩⟩⟩⟩⟩⟩⟩
def lw_privs : List (MethodName × Nat) := lw_privs_1 ++ (lw_privs_2 ++ (lw_privs_3 ++ (lw_privs_4)))
def lw_tbl : List Cond := k2_sels lw_privs ++ tables_1
theorem lw_privs_ok : ∀ q ∈ lw_privs, lw_okq q := by
  show ∀ q ∈ lw_privs_1 ++ (lw_privs_2 ++ (lw_privs_3 ++ (lw_privs_4))), lw_okq q
  exact List.forall_mem_append.mpr ⟨lw_r1, List.forall_mem_append.mpr ⟨lw_r2, List.forall_mem_append.mpr ⟨lw_r3, lw_r4⟩⟩⟩
/-! ===== BEGIN words of one list among another's, by their places ===== -/
theorem goodIn_r {big : List Cond} (ws : List Cond) (ps : List Nat) (hp : ws = ps.filterMap (fun i => big[i]?)) (h : ws.all goodWord = true) : GoodIn big ws := by
  intro w hw
  have h1 := List.all_eq_true.mp h w hw
  rw [hp] at hw
  obtain ⟨i, -, hi⟩ := List.mem_filterMap.mp hw
  have hm : w ∈ big := by first | exact List.mem_of_getElem? hi | exact List.getElem?_mem hi
  exact ⟨hm, good_of_word h1⟩
theorem goodIn_app {big a b : List Cond} (ha : GoodIn big a) (hb : GoodIn big b) : GoodIn big (a ++ b) := fun w h => (List.mem_append.mp h).elim (ha w) (hb w)
theorem goodIn_ca {big a b : List Cond} {c : Cond} (ha : GoodIn big (c :: a)) (hb : GoodIn big b) : GoodIn big (c :: (a ++ b)) := fun w h => (List.mem_cons.mp h).elim (fun e => ha w (List.mem_cons.mpr (Or.inl e))) (fun h => (List.mem_append.mp h).elim (fun h => ha w (List.mem_cons.mpr (Or.inr h))) (hb w))
theorem goodIn_sub {big ws : List Cond} (hm : ∀ w ∈ ws, w ∈ big) (h : ws.all goodWord = true) : GoodIn big ws := fun w hw => ⟨hm w hw, good_of_word (List.all_eq_true.mp h w hw)⟩
/-! ===== END ===== -/
def RX0 : String := "GreenDoor$BestMark"
def TX0 : u_T := fun k => match k with
  | 0 => ("GreenDoor$BestMark", "trial", "LGreenDoor$Ways;", true)
  | 1 => ("GreenDoor$BestMark", "words", "I", false)
  | 2 => ("GreenDoor$BestMark", "madeAt", "I", false)
  | 3 => ("GreenDoor$BestMark", "least", "I", false)
  | _ => ("GreenDoor$BestMark", "mark", "I", false)
def tyX0 : Nat → FieldType := fun k => match k with
  | 0 => .object "GreenDoor$Ways"
  | 1 => .int
  | 2 => .int
  | 3 => .int
  | _ => .int
abbrev wsX00 : List Cond := u_ws RX0 TX0 5
theorem nmX0 : ∀ a, a < 5 → ∀ b, b < 5 → a ≠ b → (TX0 a).2.1 ≠ (TX0 b).2.1 := by decide +kernel
theorem tyX0_ok : ∀ k, k < 5 → parseFieldDescriptor (TX0 k).2.2.1 = some (tyX0 k) := by decide +kernel
abbrev cX0_init : ByteArray := prog_2_method_1_code
def yX0_init : MethodName := ⟨RX0, "<init>", "()V"⟩
abbrev cX0_find : ByteArray := prog_2_method_2_code
def yX0_find : MethodName := ⟨RX0, "find", "(LGreenDoor$Scene;[II)V"⟩
abbrev cX0_tryMark : ByteArray := prog_2_method_3_code
def yX0_tryMark : MethodName := ⟨RX0, "tryMark", "(LGreenDoor$Scene;[III)V"⟩
def RX1 : String := "GreenDoor$Hearer"
def TX1 : u_T := fun k => match k with
  | 0 => ("GreenDoor$Hearer", "taken", "[I", true)
  | 1 => ("GreenDoor$Hearer", "deeper", "[I", true)
  | 2 => ("GreenDoor$Hearer", "costs", "[I", true)
  | _ => ("GreenDoor$Hearer", "sayings", "I", false)
def tyX1 : Nat → FieldType := fun k => match k with
  | 0 => .array .int
  | 1 => .array .int
  | 2 => .array .int
  | _ => .int
abbrev wsX10 : List Cond := u_ws RX1 TX1 4
theorem nmX1 : ∀ a, a < 4 → ∀ b, b < 4 → a ≠ b → (TX1 a).2.1 ≠ (TX1 b).2.1 := by decide +kernel
theorem tyX1_ok : ∀ k, k < 4 → parseFieldDescriptor (TX1 k).2.2.1 = some (tyX1 k) := by decide +kernel
abbrev cX1_init : ByteArray := prog_3_method_1_code
def yX1_init : MethodName := ⟨RX1, "<init>", "()V"⟩
abbrev cX1_start : ByteArray := prog_3_method_2_code
def yX1_start : MethodName := ⟨RX1, "start", "()V"⟩
abbrev cX1_add : ByteArray := prog_3_method_3_code
def yX1_add : MethodName := ⟨RX1, "add", "(II)V"⟩
abbrev cX1_saidOf : ByteArray := prog_3_method_4_code
def yX1_saidOf : MethodName := ⟨RX1, "saidOf", "(I)I"⟩
abbrev cX1_isBetter : ByteArray := prog_3_method_5_code
def yX1_isBetter : MethodName := ⟨RX1, "isBetter", "(II)Z"⟩
abbrev cX1_deepen : ByteArray := prog_3_method_6_code
def yX1_deepen : MethodName := ⟨RX1, "deepen", "(I)Z"⟩
def RX2 : String := "GreenDoor$Misheard"
def TX2 : u_T := fun k => match k with
  | 0 => ("GreenDoor$Misheard", "tally", "[I", true)
  | 1 => ("GreenDoor$Misheard", "sayings", "I", false)
  | _ => ("GreenDoor$Misheard", "likeliest", "I", false)
def tyX2 : Nat → FieldType := fun k => match k with
  | 0 => .array .int
  | 1 => .int
  | _ => .int
abbrev wsX20 : List Cond := u_ws RX2 TX2 3
theorem nmX2 : ∀ a, a < 3 → ∀ b, b < 3 → a ≠ b → (TX2 a).2.1 ≠ (TX2 b).2.1 := by decide +kernel
theorem tyX2_ok : ∀ k, k < 3 → parseFieldDescriptor (TX2 k).2.2.1 = some (tyX2 k) := by decide +kernel
abbrev cX2_init : ByteArray := prog_4_method_1_code
def yX2_init : MethodName := ⟨RX2, "<init>", "()V"⟩
abbrev cX2_hear : ByteArray := prog_4_method_2_code
def yX2_hear : MethodName := ⟨RX2, "hear", "(LGreenDoor$Scene;LGreenDoor$Saying;)V"⟩
abbrev cX2_hearAs : ByteArray := prog_4_method_3_code
def yX2_hearAs : MethodName := ⟨RX2, "hearAs", "(LGreenDoor$Scene;LGreenDoor$Saying;II)V"⟩
def RX3 : String := "GreenDoor$Quick"
def TX3 : u_T := fun k => match k with
  | _ => ("", "", "", false)
def tyX3 : Nat → FieldType := fun k => match k with
  | _ => .int
abbrev wsX30 : List Cond := u_ws RX3 TX3 0
theorem nmX3 : ∀ a, a < 0 → ∀ b, b < 0 → a ≠ b → (TX3 a).2.1 ≠ (TX3 b).2.1 := by decide +kernel
theorem tyX3_ok : ∀ k, k < 0 → parseFieldDescriptor (TX3 k).2.2.1 = some (tyX3 k) := by decide +kernel
abbrev cX3_cost : ByteArray := prog_5_method_2_code
def yX3_cost : MethodName := ⟨RX3, "cost", "(LGreenDoor$Scene;[II)I"⟩
abbrev cX3_property : ByteArray := prog_5_method_3_code
def yX3_property : MethodName := ⟨RX3, "property", "(LGreenDoor$Scene;II)I"⟩
def RX4 : String := "GreenDoor$Saying"
def TX4 : u_T := fun k => match k with
  | 0 => ("GreenDoor$Saying", "codes", "[I", true)
  | 1 => ("GreenDoor$Saying", "meant", "[I", true)
  | _ => ("GreenDoor$Saying", "length", "I", false)
def tyX4 : Nat → FieldType := fun k => match k with
  | 0 => .array .int
  | 1 => .array .int
  | _ => .int
abbrev wsX40 : List Cond := u_ws RX4 TX4 3
theorem nmX4 : ∀ a, a < 3 → ∀ b, b < 3 → a ≠ b → (TX4 a).2.1 ≠ (TX4 b).2.1 := by decide +kernel
theorem tyX4_ok : ∀ k, k < 3 → parseFieldDescriptor (TX4 k).2.2.1 = some (tyX4 k) := by decide +kernel
abbrev cX4_init : ByteArray := prog_6_method_1_code
def yX4_init : MethodName := ⟨RX4, "<init>", "()V"⟩
abbrev cX4_add : ByteArray := prog_6_method_2_code
def yX4_add : MethodName := ⟨RX4, "add", "(I)Z"⟩
abbrev cX4_addNumber : ByteArray := prog_6_method_3_code
def yX4_addNumber : MethodName := ⟨RX4, "addNumber", "(I)V"⟩
abbrev cX4_copy : ByteArray := prog_6_method_4_code
def yX4_copy : MethodName := ⟨RX4, "copy", "(LGreenDoor$Saying;)V"⟩
abbrev cX4_meaning : ByteArray := prog_6_method_5_code
def yX4_meaning : MethodName := ⟨RX4, "meaning", "(LGreenDoor$Scene;)I"⟩
abbrev cX4_cost : ByteArray := prog_6_method_6_code
def yX4_cost : MethodName := ⟨RX4, "cost", "([I)I"⟩
def RX5 : String := "GreenDoor$Scene"
def TX5 : u_T := fun k => match k with
  | 0 => ("GreenDoor$Scene", "looks", "[[I", true)
  | 1 => ("GreenDoor$Scene", "things", "I", false)
  | _ => ("GreenDoor$Scene", "ties", "I", false)
def tyX5 : Nat → FieldType := fun k => match k with
  | 0 => .array (.array .int)
  | 1 => .int
  | _ => .int
abbrev wsX50 : List Cond := u_ws RX5 TX5 3
theorem nmX5 : ∀ a, a < 3 → ∀ b, b < 3 → a ≠ b → (TX5 a).2.1 ≠ (TX5 b).2.1 := by decide +kernel
theorem tyX5_ok : ∀ k, k < 3 → parseFieldDescriptor (TX5 k).2.2.1 = some (tyX5 k) := by decide +kernel
abbrev cX5_init : ByteArray := prog_7_method_1_code
def yX5_init : MethodName := ⟨RX5, "<init>", "()V"⟩
abbrev cX5_isLook : ByteArray := prog_7_method_2_code
def yX5_isLook : MethodName := ⟨RX5, "isLook", "(II)Z"⟩
abbrev cX5_has : ByteArray := prog_7_method_3_code
def yX5_has : MethodName := ⟨RX5, "has", "(I)Z"⟩
abbrev cX5_all : ByteArray := prog_7_method_4_code
def yX5_all : MethodName := ⟨RX5, "all", "()I"⟩
abbrev cX5_isTaken : ByteArray := prog_7_method_5_code
def yX5_isTaken : MethodName := ⟨RX5, "isTaken", "(I)Z"⟩
abbrev cX5_add : ByteArray := prog_7_method_6_code
def yX5_add : MethodName := ⟨RX5, "add", "(IIII)I"⟩
abbrev cX5_isTied : ByteArray := prog_7_method_7_code
def yX5_isTied : MethodName := ⟨RX5, "isTied", "(II)Z"⟩
abbrev cX5_addTie : ByteArray := prog_7_method_8_code
def yX5_addTie : MethodName := ⟨RX5, "addTie", "(II)I"⟩
abbrev cX5_named : ByteArray := prog_7_method_9_code
def yX5_named : MethodName := ⟨RX5, "named", "(I)I"⟩
abbrev cX5_turned : ByteArray := prog_7_method_10_code
def yX5_turned : MethodName := ⟨RX5, "turned", "(II)I"⟩
abbrev cX5_thoseWith : ByteArray := prog_7_method_11_code
def yX5_thoseWith : MethodName := ⟨RX5, "thoseWith", "(II)I"⟩
abbrev cX5_thoseMarked : ByteArray := prog_7_method_12_code
def yX5_thoseMarked : MethodName := ⟨RX5, "thoseMarked", "(I)I"⟩
abbrev cX5_thoseLinked : ByteArray := prog_7_method_13_code
def yX5_thoseLinked : MethodName := ⟨RX5, "thoseLinked", "(II)I"⟩
abbrev cX5_ofSize : ByteArray := prog_7_method_14_code
def yX5_ofSize : MethodName := ⟨RX5, "ofSize", "(II)I"⟩
abbrev cX5_greatestSize : ByteArray := prog_7_method_15_code
def yX5_greatestSize : MethodName := ⟨RX5, "greatestSize", "(I)I"⟩
abbrev cX5_leastSize : ByteArray := prog_7_method_16_code
def yX5_leastSize : MethodName := ⟨RX5, "leastSize", "(I)I"⟩
abbrev cX5_leftmost : ByteArray := prog_7_method_17_code
def yX5_leftmost : MethodName := ⟨RX5, "leftmost", "(I)I"⟩
def RX6 : String := "GreenDoor$Talk"
def TX6 : u_T := fun k => match k with
  | 0 => ("GreenDoor$Talk", "named", "[I", true)
  | _ => ("GreenDoor$Talk", "length", "I", false)
def tyX6 : Nat → FieldType := fun k => match k with
  | 0 => .array .int
  | _ => .int
abbrev wsX60 : List Cond := u_ws RX6 TX6 2
theorem nmX6 : ∀ a, a < 2 → ∀ b, b < 2 → a ≠ b → (TX6 a).2.1 ≠ (TX6 b).2.1 := by decide +kernel
theorem tyX6_ok : ∀ k, k < 2 → parseFieldDescriptor (TX6 k).2.2.1 = some (tyX6 k) := by decide +kernel
abbrev cX6_init : ByteArray := prog_8_method_1_code
def yX6_init : MethodName := ⟨RX6, "<init>", "()V"⟩
abbrev cX6_add : ByteArray := prog_8_method_2_code
def yX6_add : MethodName := ⟨RX6, "add", "(I)I"⟩
abbrev cX6_cost : ByteArray := prog_8_method_3_code
def yX6_cost : MethodName := ⟨RX6, "cost", "(LGreenDoor$Ways;)I"⟩
abbrev cX6_pointingAt : ByteArray := prog_8_method_4_code
def yX6_pointingAt : MethodName := ⟨RX6, "pointingAt", "(I)I"⟩
def RX7 : String := "GreenDoor$Text"
def TX7 : u_T := fun k => match k with
  | 0 => ("GreenDoor$Text", "signs", "[C", true)
  | 1 => ("GreenDoor$Text", "saying", "LGreenDoor$Saying;", true)
  | 2 => ("GreenDoor$Text", "length", "I", false)
  | 3 => ("GreenDoor$Text", "sayingsDue", "I", false)
  | _ => ("GreenDoor$Text", "numbersDue", "I", false)
def tyX7 : Nat → FieldType := fun k => match k with
  | 0 => .array .char
  | 1 => .object "GreenDoor$Saying"
  | 2 => .int
  | 3 => .int
  | _ => .int
abbrev wsX70 : List Cond := u_ws RX7 TX7 5
theorem nmX7 : ∀ a, a < 5 → ∀ b, b < 5 → a ≠ b → (TX7 a).2.1 ≠ (TX7 b).2.1 := by decide +kernel
theorem tyX7_ok : ∀ k, k < 5 → parseFieldDescriptor (TX7 k).2.2.1 = some (tyX7 k) := by decide +kernel
abbrev cX7_init : ByteArray := prog_9_method_1_code
def yX7_init : MethodName := ⟨RX7, "<init>", "()V"⟩
abbrev cX7_hasRoomFor : ByteArray := prog_9_method_2_code
def yX7_hasRoomFor : MethodName := ⟨RX7, "hasRoomFor", "(I)Z"⟩
abbrev cX7_append : ByteArray := prog_9_method_3_code
def yX7_append : MethodName := ⟨RX7, "append", "(JI)I"⟩
abbrev cX7_clear : ByteArray := prog_9_method_4_code
def yX7_clear : MethodName := ⟨RX7, "clear", "()I"⟩
abbrev cX7_read : ByteArray := prog_9_method_5_code
def yX7_read : MethodName := ⟨RX7, "read", "()I"⟩
abbrev cX7_endOfToken : ByteArray := prog_9_method_6_code
def yX7_endOfToken : MethodName := ⟨RX7, "endOfToken", "(I)I"⟩
abbrev cX7_sortAt : ByteArray := prog_9_method_7_code
def yX7_sortAt : MethodName := ⟨RX7, "sortAt", "(I)I"⟩
abbrev cX7_readNumber : ByteArray := prog_9_method_8_code
def yX7_readNumber : MethodName := ⟨RX7, "readNumber", "(II)Z"⟩
abbrev cX7_readWord : ByteArray := prog_9_method_9_code
def yX7_readWord : MethodName := ⟨RX7, "readWord", "(II)Z"⟩
def RX8 : String := "GreenDoor$Twins"
def TX8 : u_T := fun k => match k with
  | 0 => ("GreenDoor$Twins", "alike", "[I", true)
  | 1 => ("GreenDoor$Twins", "since", "[I", true)
  | _ => ("GreenDoor$Twins", "before", "[I", true)
def tyX8 : Nat → FieldType := fun k => match k with
  | 0 => .array .int
  | 1 => .array .int
  | _ => .array .int
abbrev wsX80 : List Cond := u_ws RX8 TX8 3
theorem nmX8 : ∀ a, a < 3 → ∀ b, b < 3 → a ≠ b → (TX8 a).2.1 ≠ (TX8 b).2.1 := by decide +kernel
theorem tyX8_ok : ∀ k, k < 3 → parseFieldDescriptor (TX8 k).2.2.1 = some (tyX8 k) := by decide +kernel
abbrev cX8_init : ByteArray := prog_10_method_1_code
def yX8_init : MethodName := ⟨RX8, "<init>", "()V"⟩
abbrev cX8_find : ByteArray := prog_10_method_2_code
def yX8_find : MethodName := ⟨RX8, "find", "(LGreenDoor$Scene;)V"⟩
abbrev cX8_sorts : ByteArray := prog_10_method_3_code
def yX8_sorts : MethodName := ⟨RX8, "sorts", "(I)I"⟩
abbrev cX8_looksLike : ByteArray := prog_10_method_4_code
def yX8_looksLike : MethodName := ⟨RX8, "looksLike", "(LGreenDoor$Scene;I)I"⟩
abbrev cX8_part : ByteArray := prog_10_method_5_code
def yX8_part : MethodName := ⟨RX8, "part", "(LGreenDoor$Scene;I)Z"⟩
abbrev cX8_hasAsMany : ByteArray := prog_10_method_6_code
def yX8_hasAsMany : MethodName := ⟨RX8, "hasAsMany", "(LGreenDoor$Scene;II)Z"⟩
def RX9 : String := "GreenDoor$Ways"
def TX9 : u_T := fun k => match k with
  | 0 => ("GreenDoor$Ways", "costs", "[I", true)
  | 1 => ("GreenDoor$Ways", "lengths", "[I", true)
  | 2 => ("GreenDoor$Ways", "ways", "[I", true)
  | 3 => ("GreenDoor$Ways", "ranks", "[I", true)
  | 4 => ("GreenDoor$Ways", "byWords", "[I", true)
  | 5 => ("GreenDoor$Ways", "byCost", "[I", true)
  | 6 => ("GreenDoor$Ways", "reached", "I", false)
  | 7 => ("GreenDoor$Ways", "words", "I", false)
  | 8 => ("GreenDoor$Ways", "madeAt", "I", false)
  | 9 => ("GreenDoor$Ways", "thingsAlone", "Z", false)
  | 10 => ("GreenDoor$Ways", "dearest", "I", false)
  | _ => ("GreenDoor$Ways", "leastJoin", "I", false)
def tyX9 : Nat → FieldType := fun k => match k with
  | 0 => .array .int
  | 1 => .array .int
  | 2 => .array .int
  | 3 => .array .int
  | 4 => .array .int
  | 5 => .array .int
  | 6 => .int
  | 7 => .int
  | 8 => .int
  | 9 => .boolean
  | 10 => .int
  | _ => .int
abbrev wsX90 : List Cond := u_ws RX9 TX9 12
theorem nmX9 : ∀ a, a < 12 → ∀ b, b < 12 → a ≠ b → (TX9 a).2.1 ≠ (TX9 b).2.1 := by decide +kernel
theorem tyX9_ok : ∀ k, k < 12 → parseFieldDescriptor (TX9 k).2.2.1 = some (tyX9 k) := by decide +kernel
abbrev cX9_init : ByteArray := prog_11_method_1_code
def yX9_init : MethodName := ⟨RX9, "<init>", "()V"⟩
abbrev cX9_isReached : ByteArray := prog_11_method_2_code
def yX9_isReached : MethodName := ⟨RX9, "isReached", "(I)Z"⟩
abbrev cX9_codeAt : ByteArray := prog_11_method_3_code
def yX9_codeAt : MethodName := ⟨RX9, "codeAt", "(II)I"⟩
abbrev cX9_worthOf : ByteArray := prog_11_method_4_code
def yX9_worthOf : MethodName := ⟨RX9, "worthOf", "(I)I"⟩
abbrev cX9_fill : ByteArray := prog_11_method_5_code
def yX9_fill : MethodName := ⟨RX9, "fill", "(LGreenDoor$Scene;[IIZ)V"⟩
abbrev cX9_start : ByteArray := prog_11_method_6_code
def yX9_start : MethodName := ⟨RX9, "start", "(LGreenDoor$Scene;[I)V"⟩
abbrev cX9_offerNamed : ByteArray := prog_11_method_7_code
def yX9_offerNamed : MethodName := ⟨RX9, "offerNamed", "(LGreenDoor$Scene;II)V"⟩
abbrev cX9_nearest : ByteArray := prog_11_method_8_code
def yX9_nearest : MethodName := ⟨RX9, "nearest", "(I)I"⟩
abbrev cX9_reach : ByteArray := prog_11_method_9_code
def yX9_reach : MethodName := ⟨RX9, "reach", "(I)V"⟩
abbrev cX9_turn : ByteArray := prog_11_method_10_code
def yX9_turn : MethodName := ⟨RX9, "turn", "(LGreenDoor$Scene;[II)V"⟩
abbrev cX9_joinAll : ByteArray := prog_11_method_11_code
def yX9_joinAll : MethodName := ⟨RX9, "joinAll", "([II)V"⟩
abbrev cX9_joinTwo : ByteArray := prog_11_method_12_code
def yX9_joinTwo : MethodName := ⟨RX9, "joinTwo", "([III)V"⟩
abbrev cX9_offerJoin : ByteArray := prog_11_method_13_code
def yX9_offerJoin : MethodName := ⟨RX9, "offerJoin", "(IIII)V"⟩
abbrev cX9_offer : ByteArray := prog_11_method_14_code
def yX9_offer : MethodName := ⟨RX9, "offer", "(III)V"⟩
abbrev cX9_isAhead : ByteArray := prog_11_method_15_code
def yX9_isAhead : MethodName := ⟨RX9, "isAhead", "(II)Z"⟩
def RX10 : String := "GreenDoor$Words"
def TX10 : u_T := fun k => match k with
  | _ => ("", "", "", false)
def tyX10 : Nat → FieldType := fun k => match k with
  | _ => .int
abbrev wsX100 : List Cond := u_ws RX10 TX10 0
theorem nmX10 : ∀ a, a < 0 → ∀ b, b < 0 → a ≠ b → (TX10 a).2.1 ≠ (TX10 b).2.1 := by decide +kernel
theorem tyX10_ok : ∀ k, k < 0 → parseFieldDescriptor (TX10 k).2.2.1 = some (tyX10 k) := by decide +kernel
abbrev cX10_areWords : ByteArray := prog_12_method_2_code
def yX10_areWords : MethodName := ⟨RX10, "areWords", "(I)Z"⟩
abbrev cX10_isKnown : ByteArray := prog_12_method_3_code
def yX10_isKnown : MethodName := ⟨RX10, "isKnown", "(II)Z"⟩
abbrev cX10_numbers : ByteArray := prog_12_method_4_code
def yX10_numbers : MethodName := ⟨RX10, "numbers", "(I)I"⟩
abbrev cX10_parts : ByteArray := prog_12_method_5_code
def yX10_parts : MethodName := ⟨RX10, "parts", "(I)I"⟩
abbrev cX10_firstLike : ByteArray := prog_12_method_6_code
def yX10_firstLike : MethodName := ⟨RX10, "firstLike", "(I)I"⟩
abbrev cX10_lastLike : ByteArray := prog_12_method_7_code
def yX10_lastLike : MethodName := ⟨RX10, "lastLike", "(I)I"⟩
abbrev cX10_spelt : ByteArray := prog_12_method_8_code
def yX10_spelt : MethodName := ⟨RX10, "spelt", "([CII)I"⟩
abbrev cX10_isSpelt : ByteArray := prog_12_method_9_code
def yX10_isSpelt : MethodName := ⟨RX10, "isSpelt", "(I[CII)Z"⟩
abbrev cX10_join : ByteArray := prog_12_method_10_code
def yX10_join : MethodName := ⟨RX10, "join", "(III)I"⟩
def RX11 : String := "GreenDoor"
def TX11 : u_T := fun k => match k with
  | 0 => ("GreenDoor", "scene", "LGreenDoor$Scene;", true)
  | 1 => ("GreenDoor", "prices", "[I", true)
  | 2 => ("GreenDoor", "text", "LGreenDoor$Text;", true)
  | 3 => ("GreenDoor", "shelf", "[LGreenDoor$Saying;", true)
  | 4 => ("GreenDoor", "ways", "LGreenDoor$Ways;", true)
  | 5 => ("GreenDoor", "bestMark", "LGreenDoor$BestMark;", true)
  | 6 => ("GreenDoor", "twins", "LGreenDoor$Twins;", true)
  | 7 => ("GreenDoor", "hearer", "LGreenDoor$Hearer;", true)
  | 8 => ("GreenDoor", "misheard", "LGreenDoor$Misheard;", true)
  | 9 => ("GreenDoor", "talked", "LGreenDoor$Talk;", true)
  | 10 => ("GreenDoor", "shelved", "I", false)
  | _ => ("GreenDoor", "changes", "I", false)
def tyX11 : Nat → FieldType := fun k => match k with
  | 0 => .object "GreenDoor$Scene"
  | 1 => .array .int
  | 2 => .object "GreenDoor$Text"
  | 3 => .array (.object "GreenDoor$Saying")
  | 4 => .object "GreenDoor$Ways"
  | 5 => .object "GreenDoor$BestMark"
  | 6 => .object "GreenDoor$Twins"
  | 7 => .object "GreenDoor$Hearer"
  | 8 => .object "GreenDoor$Misheard"
  | 9 => .object "GreenDoor$Talk"
  | 10 => .int
  | _ => .int
abbrev wsX110 : List Cond := u_ws RX11 TX11 12
theorem nmX11 : ∀ a, a < 12 → ∀ b, b < 12 → a ≠ b → (TX11 a).2.1 ≠ (TX11 b).2.1 := by decide +kernel
theorem tyX11_ok : ∀ k, k < 12 → parseFieldDescriptor (TX11 k).2.2.1 = some (tyX11 k) := by decide +kernel
abbrev cX11_init : ByteArray := prog_1_method_1_code
def yX11_init : MethodName := ⟨RX11, "<init>", "()V"⟩
abbrev cX11_thing : ByteArray := prog_1_method_2_code
def yX11_thing : MethodName := ⟨RX11, "thing", "(IIII)I"⟩
abbrev cX11_paint : ByteArray := prog_1_method_3_code
def yX11_paint : MethodName := ⟨RX11, "paint", "(III)I"⟩
abbrev cX11_tie : ByteArray := prog_1_method_4_code
def yX11_tie : MethodName := ⟨RX11, "tie", "(II)I"⟩
abbrev cX11_of : ByteArray := prog_1_method_5_code
def yX11_of : MethodName := ⟨RX11, "of", "(II)I"⟩
abbrev cX11_price : ByteArray := prog_1_method_6_code
def yX11_price : MethodName := ⟨RX11, "price", "(II)I"⟩
abbrev cX11_write : ByteArray := prog_1_method_7_code
def yX11_write : MethodName := ⟨RX11, "write", "(JI)I"⟩
abbrev cX11_erase : ByteArray := prog_1_method_8_code
def yX11_erase : MethodName := ⟨RX11, "erase", "()I"⟩
abbrev cX11_fault : ByteArray := prog_1_method_9_code
def yX11_fault : MethodName := ⟨RX11, "fault", "()I"⟩
abbrev cX11_says : ByteArray := prog_1_method_10_code
def yX11_says : MethodName := ⟨RX11, "says", "(I)I"⟩
abbrev cX11_keep : ByteArray := prog_1_method_11_code
def yX11_keep : MethodName := ⟨RX11, "keep", "()I"⟩
abbrev cX11_kept : ByteArray := prog_1_method_12_code
def yX11_kept : MethodName := ⟨RX11, "kept", "(II)I"⟩
abbrev cX11_told : ByteArray := prog_1_method_13_code
def yX11_told : MethodName := ⟨RX11, "told", "(LGreenDoor$Saying;I)I"⟩
abbrev cX11_cheapest : ByteArray := prog_1_method_14_code
def yX11_cheapest : MethodName := ⟨RX11, "cheapest", "(III)I"⟩
abbrev cX11_sets : ByteArray := prog_1_method_15_code
def yX11_sets : MethodName := ⟨RX11, "sets", "(I)I"⟩
abbrev cX11_quick : ByteArray := prog_1_method_16_code
def yX11_quick : MethodName := ⟨RX11, "quick", "(I)I"⟩
abbrev cX11_twin : ByteArray := prog_1_method_17_code
def yX11_twin : MethodName := ⟨RX11, "twin", "(II)I"⟩
abbrev cX11_waysWith : ByteArray := prog_1_method_18_code
def yX11_waysWith : MethodName := ⟨RX11, "waysWith", "(I)LGreenDoor$Ways;"⟩
abbrev cX11_breaks : ByteArray := prog_1_method_19_code
def yX11_breaks : MethodName := ⟨RX11, "breaks", "()I"⟩
abbrev cX11_firstBreak : ByteArray := prog_1_method_20_code
def yX11_firstBreak : MethodName := ⟨RX11, "firstBreak", "(LGreenDoor$Saying;)I"⟩
abbrev cX11_hears : ByteArray := prog_1_method_21_code
def yX11_hears : MethodName := ⟨RX11, "hears", "(II)I"⟩
abbrev cX11_tells : ByteArray := prog_1_method_22_code
def yX11_tells : MethodName := ⟨RX11, "tells", "(II)I"⟩
abbrev cX11_ends : ByteArray := prog_1_method_23_code
def yX11_ends : MethodName := ⟨RX11, "ends", "()I"⟩
abbrev cX11_think : ByteArray := prog_1_method_24_code
def yX11_think : MethodName := ⟨RX11, "think", "(I)V"⟩
abbrev cX11_wrong : ByteArray := prog_1_method_25_code
def yX11_wrong : MethodName := ⟨RX11, "wrong", "(I)I"⟩
abbrev cX11_name : ByteArray := prog_1_method_26_code
def yX11_name : MethodName := ⟨RX11, "name", "(I)I"⟩
abbrev cX11_hush : ByteArray := prog_1_method_27_code
def yX11_hush : MethodName := ⟨RX11, "hush", "()I"⟩
abbrev cX11_talk : ByteArray := prog_1_method_28_code
def yX11_talk : MethodName := ⟨RX11, "talk", "(I)I"⟩
abbrev cX11_worth : ByteArray := prog_1_method_29_code
def yX11_worth : MethodName := ⟨RX11, "worth", "(II)I"⟩
abbrev cX11_count : ByteArray := prog_1_method_30_code
def yX11_count : MethodName := ⟨RX11, "count", "(I)I"⟩
abbrev cX11_isWithin : ByteArray := prog_1_method_31_code
def yX11_isWithin : MethodName := ⟨RX11, "isWithin", "(II)Z"⟩
def RX12 : String := "GreenDoorModel"
def TX12 : u_T := fun k => match k with
  | 0 => ("GreenDoorModel", "things", "I", false)
  | 1 => ("GreenDoorModel", "kind", "[I", true)
  | 2 => ("GreenDoorModel", "colour", "[I", true)
  | 3 => ("GreenDoorModel", "size", "[I", true)
  | 4 => ("GreenDoorModel", "marks", "[I", true)
  | 5 => ("GreenDoorModel", "place", "[I", true)
  | 6 => ("GreenDoorModel", "ties", "[I", true)
  | 7 => ("GreenDoorModel", "price", "[I", true)
  | 8 => ("GreenDoorModel", "bytes", "I", false)
  | 9 => ("GreenDoorModel", "text", "[I", true)
  | 10 => ("GreenDoorModel", "position", "I", false)
  | 11 => ("GreenDoorModel", "tokenAt", "I", false)
  | 12 => ("GreenDoorModel", "token", "J", false)
  | 13 => ("GreenDoorModel", "digits", "I", false)
  | 14 => ("GreenDoorModel", "number", "I", false)
  | 15 => ("GreenDoorModel", "faultAt", "I", false)
  | 16 => ("GreenDoorModel", "many", "I", false)
  | 17 => ("GreenDoorModel", "word", "[I", true)
  | 18 => ("GreenDoorModel", "own", "[I", true)
  | 19 => ("GreenDoorModel", "stack", "[I", true)
  | 20 => ("GreenDoorModel", "keeps", "I", false)
  | 21 => ("GreenDoorModel", "keptMany", "[I", true)
  | 22 => ("GreenDoorModel", "keptWord", "[I", true)
  | 23 => ("GreenDoorModel", "keptOwn", "[I", true)
  | 24 => ("GreenDoorModel", "cost", "[I", true)
  | 25 => ("GreenDoorModel", "first", "[I", true)
  | 26 => ("GreenDoorModel", "partA", "[I", true)
  | 27 => ("GreenDoorModel", "partB", "[I", true)
  | 28 => ("GreenDoorModel", "long0", "[I", true)
  | 29 => ("GreenDoorModel", "rank", "[I", true)
  | 30 => ("GreenDoorModel", "isDone", "[Z", true)
  | 31 => ("GreenDoorModel", "sort", "[I", true)
  | 32 => ("GreenDoorModel", "finer", "[I", true)
  | 33 => ("GreenDoorModel", "round", "[I", true)
  | 34 => ("GreenDoorModel", "taken", "[I", true)
  | 35 => ("GreenDoorModel", "deeper", "[I", true)
  | 36 => ("GreenDoorModel", "said", "[I", true)
  | 37 => ("GreenDoorModel", "meant", "[I", true)
  | 38 => ("GreenDoorModel", "wrongs", "I", false)
  | 39 => ("GreenDoorModel", "named", "I", false)
  | _ => ("GreenDoorModel", "name", "[I", true)
def tyX12 : Nat → FieldType := fun k => match k with
  | 0 => .int
  | 1 => .array .int
  | 2 => .array .int
  | 3 => .array .int
  | 4 => .array .int
  | 5 => .array .int
  | 6 => .array .int
  | 7 => .array .int
  | 8 => .int
  | 9 => .array .int
  | 10 => .int
  | 11 => .int
  | 12 => .long
  | 13 => .int
  | 14 => .int
  | 15 => .int
  | 16 => .int
  | 17 => .array .int
  | 18 => .array .int
  | 19 => .array .int
  | 20 => .int
  | 21 => .array .int
  | 22 => .array .int
  | 23 => .array .int
  | 24 => .array .int
  | 25 => .array .int
  | 26 => .array .int
  | 27 => .array .int
  | 28 => .array .int
  | 29 => .array .int
  | 30 => .array .boolean
  | 31 => .array .int
  | 32 => .array .int
  | 33 => .array .int
  | 34 => .array .int
  | 35 => .array .int
  | 36 => .array .int
  | 37 => .array .int
  | 38 => .int
  | 39 => .int
  | _ => .array .int
abbrev wsX120 : List Cond := u_ws RX12 TX12 41
theorem nmX12 : ∀ a, a < 41 → ∀ b, b < 41 → a ≠ b → (TX12 a).2.1 ≠ (TX12 b).2.1 := by decide +kernel
theorem tyX12_ok : ∀ k, k < 41 → parseFieldDescriptor (TX12 k).2.2.1 = some (tyX12 k) := by decide +kernel
abbrev cX12_init : ByteArray := prog_14_method_1_code
def yX12_init : MethodName := ⟨RX12, "<init>", "()V"⟩
abbrev cX12_in : ByteArray := prog_14_method_2_code
def yX12_in : MethodName := ⟨RX12, "in", "(III)Z"⟩
abbrev cX12_isThing : ByteArray := prog_14_method_3_code
def yX12_isThing : MethodName := ⟨RX12, "isThing", "(I)Z"⟩
abbrev cX12_bits : ByteArray := prog_14_method_4_code
def yX12_bits : MethodName := ⟨RX12, "bits", "(I)I"⟩
abbrev cX12_every : ByteArray := prog_14_method_5_code
def yX12_every : MethodName := ⟨RX12, "every", "()I"⟩
abbrev cX12_thing : ByteArray := prog_14_method_6_code
def yX12_thing : MethodName := ⟨RX12, "thing", "(IIII)I"⟩
abbrev cX12_paint : ByteArray := prog_14_method_7_code
def yX12_paint : MethodName := ⟨RX12, "paint", "(III)I"⟩
abbrev cX12_tieMany : ByteArray := prog_14_method_8_code
def yX12_tieMany : MethodName := ⟨RX12, "tieMany", "()I"⟩
abbrev cX12_tie : ByteArray := prog_14_method_9_code
def yX12_tie : MethodName := ⟨RX12, "tie", "(II)I"⟩
abbrev cX12_besides : ByteArray := prog_14_method_10_code
def yX12_besides : MethodName := ⟨RX12, "besides", "(I)I"⟩
abbrev cX12_of : ByteArray := prog_14_method_11_code
def yX12_of : MethodName := ⟨RX12, "of", "(II)I"⟩
abbrev cX12_price : ByteArray := prog_14_method_12_code
def yX12_price : MethodName := ⟨RX12, "price", "(II)I"⟩
abbrev cX12_write : ByteArray := prog_14_method_13_code
def yX12_write : MethodName := ⟨RX12, "write", "(JI)I"⟩
abbrev cX12_erase : ByteArray := prog_14_method_14_code
def yX12_erase : MethodName := ⟨RX12, "erase", "()I"⟩
abbrev cX12_nextToken : ByteArray := prog_14_method_15_code
def yX12_nextToken : MethodName := ⟨RX12, "nextToken", "()V"⟩
abbrev cX12_fails : ByteArray := prog_14_method_16_code
def yX12_fails : MethodName := ⟨RX12, "fails", "()Z"⟩
abbrev cX12_wordTold : ByteArray := prog_14_method_17_code
def yX12_wordTold : MethodName := ⟨RX12, "wordTold", "()I"⟩
abbrev cX12_needs : ByteArray := prog_14_method_18_code
def yX12_needs : MethodName := ⟨RX12, "needs", "(I)I"⟩
abbrev cX12_isRead : ByteArray := prog_14_method_19_code
def yX12_isRead : MethodName := ⟨RX12, "isRead", "()Z"⟩
abbrev cX12_fault : ByteArray := prog_14_method_20_code
def yX12_fault : MethodName := ⟨RX12, "fault", "()I"⟩
abbrev cX12_allOf : ByteArray := prog_14_method_21_code
def yX12_allOf : MethodName := ⟨RX12, "allOf", "(II)I"⟩
abbrev cX12_bySize : ByteArray := prog_14_method_22_code
def yX12_bySize : MethodName := ⟨RX12, "bySize", "(IZ)I"⟩
abbrev cX12_leftmost : ByteArray := prog_14_method_23_code
def yX12_leftmost : MethodName := ⟨RX12, "leftmost", "(I)I"⟩
abbrev cX12_made : ByteArray := prog_14_method_24_code
def yX12_made : MethodName := ⟨RX12, "made", "(III)I"⟩
abbrev cX12_meaning : ByteArray := prog_14_method_25_code
def yX12_meaning : MethodName := ⟨RX12, "meaning", "()I"⟩
abbrev cX12_costTold : ByteArray := prog_14_method_26_code
def yX12_costTold : MethodName := ⟨RX12, "costTold", "()I"⟩
abbrev cX12_says : ByteArray := prog_14_method_27_code
def yX12_says : MethodName := ⟨RX12, "says", "(I)I"⟩
abbrev cX12_keep : ByteArray := prog_14_method_28_code
def yX12_keep : MethodName := ⟨RX12, "keep", "()I"⟩
abbrev cX12_recall : ByteArray := prog_14_method_29_code
def yX12_recall : MethodName := ⟨RX12, "recall", "(I)V"⟩
abbrev cX12_kept : ByteArray := prog_14_method_30_code
def yX12_kept : MethodName := ⟨RX12, "kept", "(II)I"⟩
abbrev cX12_offer : ByteArray := prog_14_method_31_code
def yX12_offer : MethodName := ⟨RX12, "offer", "(IIIII)V"⟩
abbrev cX12_isAhead : ByteArray := prog_14_method_32_code
def yX12_isAhead : MethodName := ⟨RX12, "isAhead", "(II)Z"⟩
abbrev cX12_settle : ByteArray := prog_14_method_33_code
def yX12_settle : MethodName := ⟨RX12, "settle", "(I)V"⟩
abbrev cX12_search : ByteArray := prog_14_method_34_code
def yX12_search : MethodName := ⟨RX12, "search", "(I)V"⟩
abbrev cX12_cheapestLeft : ByteArray := prog_14_method_35_code
def yX12_cheapestLeft : MethodName := ⟨RX12, "cheapestLeft", "()I"⟩
abbrev cX12_areWords : ByteArray := prog_14_method_36_code
def yX12_areWords : MethodName := ⟨RX12, "areWords", "(I)Z"⟩
abbrev cX12_cheapest : ByteArray := prog_14_method_37_code
def yX12_cheapest : MethodName := ⟨RX12, "cheapest", "(III)I"⟩
abbrev cX12_sets : ByteArray := prog_14_method_38_code
def yX12_sets : MethodName := ⟨RX12, "sets", "(I)I"⟩
abbrev cX12_quick : ByteArray := prog_14_method_39_code
def yX12_quick : MethodName := ⟨RX12, "quick", "(I)I"⟩
abbrev cX12_howMany : ByteArray := prog_14_method_40_code
def yX12_howMany : MethodName := ⟨RX12, "howMany", "(II)I"⟩
abbrev cX12_tiesTo : ByteArray := prog_14_method_41_code
def yX12_tiesTo : MethodName := ⟨RX12, "tiesTo", "(I)I"⟩
abbrev cX12_areAlike : ByteArray := prog_14_method_42_code
def yX12_areAlike : MethodName := ⟨RX12, "areAlike", "(II)Z"⟩
abbrev cX12_findTwins : ByteArray := prog_14_method_43_code
def yX12_findTwins : MethodName := ⟨RX12, "findTwins", "()V"⟩
abbrev cX12_twin : ByteArray := prog_14_method_44_code
def yX12_twin : MethodName := ⟨RX12, "twin", "(II)I"⟩
abbrev cX12_breaks : ByteArray := prog_14_method_45_code
def yX12_breaks : MethodName := ⟨RX12, "breaks", "()I"⟩
abbrev cX12_think : ByteArray := prog_14_method_46_code
def yX12_think : MethodName := ⟨RX12, "think", "(I)V"⟩
abbrev cX12_findSaid : ByteArray := prog_14_method_47_code
def yX12_findSaid : MethodName := ⟨RX12, "findSaid", "()V"⟩
abbrev cX12_hears : ByteArray := prog_14_method_48_code
def yX12_hears : MethodName := ⟨RX12, "hears", "(II)I"⟩
abbrev cX12_tells : ByteArray := prog_14_method_49_code
def yX12_tells : MethodName := ⟨RX12, "tells", "(II)I"⟩
abbrev cX12_ends : ByteArray := prog_14_method_50_code
def yX12_ends : MethodName := ⟨RX12, "ends", "()I"⟩
abbrev cX12_tryWord : ByteArray := prog_14_method_51_code
def yX12_tryWord : MethodName := ⟨RX12, "tryWord", "(III)V"⟩
abbrev cX12_wrong : ByteArray := prog_14_method_52_code
def yX12_wrong : MethodName := ⟨RX12, "wrong", "(I)I"⟩
abbrev cX12_name : ByteArray := prog_14_method_53_code
def yX12_name : MethodName := ⟨RX12, "name", "(I)I"⟩
abbrev cX12_hush : ByteArray := prog_14_method_54_code
def yX12_hush : MethodName := ⟨RX12, "hush", "()I"⟩
abbrev cX12_talk : ByteArray := prog_14_method_55_code
def yX12_talk : MethodName := ⟨RX12, "talk", "(I)I"⟩
abbrev cX12_worthOf : ByteArray := prog_14_method_56_code
def yX12_worthOf : MethodName := ⟨RX12, "worthOf", "(I)I"⟩
abbrev cX12_worth : ByteArray := prog_14_method_57_code
def yX12_worth : MethodName := ⟨RX12, "worth", "(II)I"⟩
abbrev cX12_count : ByteArray := prog_14_method_58_code
def yX12_count : MethodName := ⟨RX12, "count", "(I)I"⟩
def RJx145de : String := "java/io/Serializable"
def TJx145de : u_T := fun k => match k with
  | _ => ("", "", "", false)
def tyJx145de : Nat → FieldType := fun k => match k with
  | _ => .int
abbrev wsJx145de0 : List Cond := u_ws RJx145de TJx145de 0
theorem nmJx145de : ∀ a, a < 0 → ∀ b, b < 0 → a ≠ b → (TJx145de a).2.1 ≠ (TJx145de b).2.1 := by decide +kernel
theorem tyJx145de_ok : ∀ k, k < 0 → parseFieldDescriptor (TJx145de k).2.2.1 = some (tyJx145de k) := by decide +kernel
def RJx9f9b0 : String := "java/lang/CharSequence"
def TJx9f9b0 : u_T := fun k => match k with
  | _ => ("", "", "", false)
def tyJx9f9b0 : Nat → FieldType := fun k => match k with
  | _ => .int
abbrev wsJx9f9b00 : List Cond := u_ws RJx9f9b0 TJx9f9b0 0
theorem nmJx9f9b0 : ∀ a, a < 0 → ∀ b, b < 0 → a ≠ b → (TJx9f9b0 a).2.1 ≠ (TJx9f9b0 b).2.1 := by decide +kernel
theorem tyJx9f9b0_ok : ∀ k, k < 0 → parseFieldDescriptor (TJx9f9b0 k).2.2.1 = some (tyJx9f9b0 k) := by decide +kernel
def RJxb160c : String := "java/lang/Comparable"
def TJxb160c : u_T := fun k => match k with
  | _ => ("", "", "", false)
def tyJxb160c : Nat → FieldType := fun k => match k with
  | _ => .int
abbrev wsJxb160c0 : List Cond := u_ws RJxb160c TJxb160c 0
theorem nmJxb160c : ∀ a, a < 0 → ∀ b, b < 0 → a ≠ b → (TJxb160c a).2.1 ≠ (TJxb160c b).2.1 := by decide +kernel
theorem tyJxb160c_ok : ∀ k, k < 0 → parseFieldDescriptor (TJxb160c k).2.2.1 = some (tyJxb160c k) := by decide +kernel
def RJ6 : String := "java/lang/Integer"
def TJ6 : u_T := fun k => match k with
  | _ => ("", "", "", false)
def tyJ6 : Nat → FieldType := fun k => match k with
  | _ => .int
abbrev wsJ60 : List Cond := u_ws RJ6 TJ6 0
theorem nmJ6 : ∀ a, a < 0 → ∀ b, b < 0 → a ≠ b → (TJ6 a).2.1 ≠ (TJ6 b).2.1 := by decide +kernel
theorem tyJ6_ok : ∀ k, k < 0 → parseFieldDescriptor (TJ6 k).2.2.1 = some (tyJ6 k) := by decide +kernel
abbrev cJ6_numberOfTrailingZeros_0f7a4 : ByteArray := prog_15_method_48_code
def yJ6_numberOfTrailingZeros_0f7a4 : MethodName := ⟨RJ6, "numberOfTrailingZeros", "(I)I"⟩
abbrev cJ6_bitCount_0f7a4 : ByteArray := prog_15_method_49_code
def yJ6_bitCount_0f7a4 : MethodName := ⟨RJ6, "bitCount", "(I)I"⟩
def RJ9 : String := "java/lang/Math"
def TJ9 : u_T := fun k => match k with
  | _ => ("", "", "", false)
def tyJ9 : Nat → FieldType := fun k => match k with
  | _ => .int
abbrev wsJ90 : List Cond := u_ws RJ9 TJ9 0
theorem nmJ9 : ∀ a, a < 0 → ∀ b, b < 0 → a ≠ b → (TJ9 a).2.1 ≠ (TJ9 b).2.1 := by decide +kernel
theorem tyJ9_ok : ∀ k, k < 0 → parseFieldDescriptor (TJ9 k).2.2.1 = some (tyJ9 k) := by decide +kernel
abbrev cJ9_max_7cf53 : ByteArray := prog_16_method_65_code
def yJ9_max_7cf53 : MethodName := ⟨RJ9, "max", "(II)I"⟩
abbrev cJ9_min_7cf53 : ByteArray := prog_16_method_69_code
def yJ9_min_7cf53 : MethodName := ⟨RJ9, "min", "(II)I"⟩
def RJ0 : String := "java/lang/String"
def TJ0 : u_T := fun k => match k with
  | _ => ("", "", "", false)
def tyJ0 : Nat → FieldType := fun k => match k with
  | _ => .int
abbrev wsJ00 : List Cond := u_ws RJ0 TJ0 0
theorem nmJ0 : ∀ a, a < 0 → ∀ b, b < 0 → a ≠ b → (TJ0 a).2.1 ≠ (TJ0 b).2.1 := by decide +kernel
theorem tyJ0_ok : ∀ k, k < 0 → parseFieldDescriptor (TJ0 k).2.2.1 = some (tyJ0 k) := by decide +kernel
abbrev cJ0_charAt_5068e : ByteArray := prog_17_method_56_code
def yJ0_charAt_5068e : MethodName := ⟨RJ0, "charAt", "(I)C"⟩
abbrev cJ0_isLatin1_aae02 : ByteArray := prog_17_method_154_code
def yJ0_isLatin1_aae02 : MethodName := ⟨RJ0, "isLatin1", "()Z"⟩
abbrev cJ0_checkIndex_df160 : ByteArray := prog_17_method_155_code
def yJ0_checkIndex_df160 : MethodName := ⟨RJ0, "checkIndex", "(II)V"⟩
def RJ1 : String := "java/lang/StringLatin1"
def TJ1 : u_T := fun k => match k with
  | _ => ("", "", "", false)
def tyJ1 : Nat → FieldType := fun k => match k with
  | _ => .int
abbrev wsJ10 : List Cond := u_ws RJ1 TJ1 0
theorem nmJ1 : ∀ a, a < 0 → ∀ b, b < 0 → a ≠ b → (TJ1 a).2.1 ≠ (TJ1 b).2.1 := by decide +kernel
theorem tyJ1_ok : ∀ k, k < 0 → parseFieldDescriptor (TJ1 k).2.2.1 = some (tyJ1 k) := by decide +kernel
abbrev cJ1_charAt_3b067 : ByteArray := prog_18_method_2_code
def yJ1_charAt_3b067 : MethodName := ⟨RJ1, "charAt", "([BI)C"⟩
def RJ2 : String := "java/lang/StringUTF16"
def TJ2 : u_T := fun k => match k with
  | _ => ("", "", "", false)
def tyJ2 : Nat → FieldType := fun k => match k with
  | _ => .int
abbrev wsJ20 : List Cond := u_ws RJ2 TJ2 0
theorem nmJ2 : ∀ a, a < 0 → ∀ b, b < 0 → a ≠ b → (TJ2 a).2.1 ≠ (TJ2 b).2.1 := by decide +kernel
theorem tyJ2_ok : ∀ k, k < 0 → parseFieldDescriptor (TJ2 k).2.2.1 = some (tyJ2 k) := by decide +kernel
abbrev cJ2_getChar_3b067 : ByteArray := prog_19_method_5_code
def yJ2_getChar_3b067 : MethodName := ⟨RJ2, "getChar", "([BI)C"⟩
abbrev cJ2_length_9d52b : ByteArray := prog_19_method_6_code
def yJ2_length_9d52b : MethodName := ⟨RJ2, "length", "([B)I"⟩
abbrev cJ2_charAt_3b067 : ByteArray := prog_19_method_83_code
def yJ2_charAt_3b067 : MethodName := ⟨RJ2, "charAt", "([BI)C"⟩
abbrev cJ2_checkIndex_2214a : ByteArray := prog_19_method_91_code
def yJ2_checkIndex_2214a : MethodName := ⟨RJ2, "checkIndex", "(I[B)V"⟩
def RJ10 : String := "java/lang/System"
def TJ10 : u_T := fun k => match k with
  | _ => ("", "", "", false)
def tyJ10 : Nat → FieldType := fun k => match k with
  | _ => .int
abbrev wsJ100 : List Cond := u_ws RJ10 TJ10 0
theorem nmJ10 : ∀ a, a < 0 → ∀ b, b < 0 → a ≠ b → (TJ10 a).2.1 ≠ (TJ10 b).2.1 := by decide +kernel
theorem tyJ10_ok : ∀ k, k < 0 → parseFieldDescriptor (TJ10 k).2.2.1 = some (tyJ10 k) := by decide +kernel
def RJxfd54e : String := "java/lang/constant/Constable"
def TJxfd54e : u_T := fun k => match k with
  | _ => ("", "", "", false)
def tyJxfd54e : Nat → FieldType := fun k => match k with
  | _ => .int
abbrev wsJxfd54e0 : List Cond := u_ws RJxfd54e TJxfd54e 0
theorem nmJxfd54e : ∀ a, a < 0 → ∀ b, b < 0 → a ≠ b → (TJxfd54e a).2.1 ≠ (TJxfd54e b).2.1 := by decide +kernel
theorem tyJxfd54e_ok : ∀ k, k < 0 → parseFieldDescriptor (TJxfd54e k).2.2.1 = some (tyJxfd54e k) := by decide +kernel
def RJx3cf43 : String := "java/lang/constant/ConstantDesc"
def TJx3cf43 : u_T := fun k => match k with
  | _ => ("", "", "", false)
def tyJx3cf43 : Nat → FieldType := fun k => match k with
  | _ => .int
abbrev wsJx3cf430 : List Cond := u_ws RJx3cf43 TJx3cf43 0
theorem nmJx3cf43 : ∀ a, a < 0 → ∀ b, b < 0 → a ≠ b → (TJx3cf43 a).2.1 ≠ (TJx3cf43 b).2.1 := by decide +kernel
theorem tyJx3cf43_ok : ∀ k, k < 0 → parseFieldDescriptor (TJx3cf43 k).2.2.1 = some (tyJx3cf43 k) := by decide +kernel
def RJ7 : String := "java/util/Arrays"
def TJ7 : u_T := fun k => match k with
  | _ => ("", "", "", false)
def tyJ7 : Nat → FieldType := fun k => match k with
  | _ => .int
abbrev wsJ70 : List Cond := u_ws RJ7 TJ7 0
theorem nmJ7 : ∀ a, a < 0 → ∀ b, b < 0 → a ≠ b → (TJ7 a).2.1 ≠ (TJ7 b).2.1 := by decide +kernel
theorem tyJ7_ok : ∀ k, k < 0 → parseFieldDescriptor (TJ7 k).2.2.1 = some (tyJ7 k) := by decide +kernel
abbrev cJ7_fill_53178 : ByteArray := prog_21_method_103_code
def yJ7_fill_53178 : MethodName := ⟨RJ7, "fill", "([II)V"⟩
def RJ3 : String := "jdk/internal/util/Preconditions"
def TJ3 : u_T := fun k => match k with
  | _ => ("", "", "", false)
def tyJ3 : Nat → FieldType := fun k => match k with
  | _ => .int
abbrev wsJ30 : List Cond := u_ws RJ3 TJ3 0
theorem nmJ3 : ∀ a, a < 0 → ∀ b, b < 0 → a ≠ b → (TJ3 a).2.1 ≠ (TJ3 b).2.1 := by decide +kernel
theorem tyJ3_ok : ∀ k, k < 0 → parseFieldDescriptor (TJ3 k).2.2.1 = some (tyJ3 k) := by decide +kernel
abbrev cJ3_checkIndex_8e157 : ByteArray := prog_22_method_11_code
def yJ3_checkIndex_8e157 : MethodName := ⟨RJ3, "checkIndex", "(IILjava/util/function/BiFunction;)I"⟩
def RL : String := "GreenDoorLaw"
abbrev cL_law : ByteArray := code
def yL_law : MethodName := ⟨RL, "law", "([I)Z"⟩
abbrev vwCl : List vw_C := [(RX0, TX0, 5), (RX1, TX1, 4), (RX2, TX2, 3), (RX4, TX4, 3), (RX5, TX5, 3), (RX6, TX6, 2), (RX7, TX7, 5), (RX8, TX8, 3), (RX9, TX9, 12), (RX11, TX11, 12), (RX12, TX12, 41)]
end
section
theorem dX0_init_0 : decode cX0_init 0 = .ok (.aload_n 0, 1) := by decide +kernel
theorem dX0_init_1 : decode cX0_init 1 = .ok (.invokespecial 3, 3) := by decide +kernel
theorem dX0_init_4 : decode cX0_init 4 = .ok (.aload_n 0, 1) := by decide +kernel
theorem dX0_init_5 : decode cX0_init 5 = .ok (.new 9, 3) := by decide +kernel
theorem dX0_init_8 : decode cX0_init 8 = .ok (.dup, 1) := by decide +kernel
theorem dX0_init_9 : decode cX0_init 9 = .ok (.invokespecial 11, 3) := by decide +kernel
theorem dX0_init_12 : decode cX0_init 12 = .ok (.putfield 12, 3) := by decide +kernel
theorem dX0_init_15 : decode cX0_init 15 = .ok (.aload_n 0, 1) := by decide +kernel
theorem dX0_init_16 : decode cX0_init 16 = .ok (.iconst (-1), 1) := by decide +kernel
theorem dX0_init_17 : decode cX0_init 17 = .ok (.putfield 18, 3) := by decide +kernel
theorem dX0_init_20 : decode cX0_init 20 = .ok (.return_, 1) := by decide +kernel
theorem dX0_find_0 : decode cX0_find 0 = .ok (.aload_n 0, 1) := by decide +kernel
theorem dX0_find_1 : decode cX0_find 1 = .ok (.iload_n 3, 1) := by decide +kernel
theorem dX0_find_2 : decode cX0_find 2 = .ok (.putfield 22, 3) := by decide +kernel
theorem dX0_find_5 : decode cX0_find 5 = .ok (.aload_n 0, 1) := by decide +kernel
theorem dX0_find_6 : decode cX0_find 6 = .ok (.iconst (-1), 1) := by decide +kernel
theorem dX0_find_7 : decode cX0_find 7 = .ok (.putfield 25, 3) := by decide +kernel
theorem dX0_find_10 : decode cX0_find 10 = .ok (.aload_n 0, 1) := by decide +kernel
theorem dX0_find_11 : decode cX0_find 11 = .ok (.iconst (-1), 1) := by decide +kernel
theorem dX0_find_12 : decode cX0_find 12 = .ok (.putfield 28, 3) := by decide +kernel
theorem dX0_find_15 : decode cX0_find 15 = .ok (.iconst 0, 1) := by decide +kernel
theorem dX0_find_16 : decode cX0_find 16 = .ok (.istore 4, 2) := by decide +kernel
theorem dX0_find_18 : decode cX0_find 18 = .ok (.iload 4, 2) := by decide +kernel
theorem dX0_find_20 : decode cX0_find 20 = .ok (.aload_n 1, 1) := by decide +kernel
theorem dX0_find_21 : decode cX0_find 21 = .ok (.getfield 31, 3) := by decide +kernel
theorem dX0_find_24 : decode cX0_find 24 = .ok (.if_icmp .ge 57, 3) := by decide +kernel
theorem dX0_find_27 : decode cX0_find 27 = .ok (.iload 4, 2) := by decide +kernel
theorem dX0_find_29 : decode cX0_find 29 = .ok (.bipush 8, 2) := by decide +kernel
theorem dX0_find_31 : decode cX0_find 31 = .ok (.if_icmp .ge 50, 3) := by decide +kernel
theorem dX0_find_34 : decode cX0_find 34 = .ok (.iconst 0, 1) := by decide +kernel
theorem dX0_find_35 : decode cX0_find 35 = .ok (.istore 5, 2) := by decide +kernel
theorem dX0_find_37 : decode cX0_find 37 = .ok (.iload 5, 2) := by decide +kernel
theorem dX0_find_39 : decode cX0_find 39 = .ok (.iconst 3, 1) := by decide +kernel
theorem dX0_find_40 : decode cX0_find 40 = .ok (.if_icmp .ge 35, 3) := by decide +kernel
theorem dX0_find_43 : decode cX0_find 43 = .ok (.aload_n 0, 1) := by decide +kernel
theorem dX0_find_44 : decode cX0_find 44 = .ok (.getfield 28, 3) := by decide +kernel
theorem dX0_find_47 : decode cX0_find 47 = .ok (.iconst (-1), 1) := by decide +kernel
theorem dX0_find_48 : decode cX0_find 48 = .ok (.if_icmp .eq 11, 3) := by decide +kernel
theorem dX0_find_51 : decode cX0_find 51 = .ok (.iload_n 3, 1) := by decide +kernel
theorem dX0_find_52 : decode cX0_find 52 = .ok (.iconst 3, 1) := by decide +kernel
theorem dX0_find_53 : decode cX0_find 53 = .ok (.invokestatic 38, 3) := by decide +kernel
theorem dX0_find_56 : decode cX0_find 56 = .ok (.ifCond .eq 13, 3) := by decide +kernel
theorem dX0_find_59 : decode cX0_find 59 = .ok (.aload_n 0, 1) := by decide +kernel
theorem dX0_find_60 : decode cX0_find 60 = .ok (.aload_n 1, 1) := by decide +kernel
theorem dX0_find_61 : decode cX0_find 61 = .ok (.aload_n 2, 1) := by decide +kernel
theorem dX0_find_62 : decode cX0_find 62 = .ok (.iload 4, 2) := by decide +kernel
theorem dX0_find_64 : decode cX0_find 64 = .ok (.iload 5, 2) := by decide +kernel
theorem dX0_find_66 : decode cX0_find 66 = .ok (.invokevirtual 42, 3) := by decide +kernel
theorem dX0_find_69 : decode cX0_find 69 = .ok (.iinc 5 1, 3) := by decide +kernel
theorem dX0_find_72 : decode cX0_find 72 = .ok (.goto (-35), 3) := by decide +kernel
theorem dX0_find_75 : decode cX0_find 75 = .ok (.iinc 4 1, 3) := by decide +kernel
theorem dX0_find_78 : decode cX0_find 78 = .ok (.goto (-60), 3) := by decide +kernel
theorem dX0_find_81 : decode cX0_find 81 = .ok (.return_, 1) := by decide +kernel
theorem dX0_tryMark_0 : decode cX0_tryMark 0 = .ok (.aload_n 1, 1) := by decide +kernel
theorem dX0_tryMark_1 : decode cX0_tryMark 1 = .ok (.getfield 46, 3) := by decide +kernel
theorem dX0_tryMark_4 : decode cX0_tryMark 4 = .ok (.iconst 3, 1) := by decide +kernel
theorem dX0_tryMark_5 : decode cX0_tryMark 5 = .ok (.aaload, 1) := by decide +kernel
theorem dX0_tryMark_6 : decode cX0_tryMark 6 = .ok (.astore 5, 2) := by decide +kernel
theorem dX0_tryMark_8 : decode cX0_tryMark 8 = .ok (.aload_n 1, 1) := by decide +kernel
theorem dX0_tryMark_9 : decode cX0_tryMark 9 = .ok (.iload_n 3, 1) := by decide +kernel
theorem dX0_tryMark_10 : decode cX0_tryMark 10 = .ok (.invokevirtual 50, 3) := by decide +kernel
theorem dX0_tryMark_13 : decode cX0_tryMark 13 = .ok (.ifCond .eq 16, 3) := by decide +kernel
theorem dX0_tryMark_16 : decode cX0_tryMark 16 = .ok (.aload 5, 2) := by decide +kernel
theorem dX0_tryMark_18 : decode cX0_tryMark 18 = .ok (.iload_n 3, 1) := by decide +kernel
theorem dX0_tryMark_19 : decode cX0_tryMark 19 = .ok (.iaload, 1) := by decide +kernel
theorem dX0_tryMark_20 : decode cX0_tryMark 20 = .ok (.iload 4, 2) := by decide +kernel
theorem dX0_tryMark_22 : decode cX0_tryMark 22 = .ok (.ishr, 1) := by decide +kernel
theorem dX0_tryMark_23 : decode cX0_tryMark 23 = .ok (.iconst 1, 1) := by decide +kernel
theorem dX0_tryMark_24 : decode cX0_tryMark 24 = .ok (.iand, 1) := by decide +kernel
theorem dX0_tryMark_25 : decode cX0_tryMark 25 = .ok (.iconst 1, 1) := by decide +kernel
theorem dX0_tryMark_26 : decode cX0_tryMark 26 = .ok (.if_icmp .ne 4, 3) := by decide +kernel
theorem dX0_tryMark_29 : decode cX0_tryMark 29 = .ok (.return_, 1) := by decide +kernel
theorem dX0_tryMark_30 : decode cX0_tryMark 30 = .ok (.aload 5, 2) := by decide +kernel
theorem dX0_tryMark_32 : decode cX0_tryMark 32 = .ok (.iload_n 3, 1) := by decide +kernel
theorem dX0_tryMark_33 : decode cX0_tryMark 33 = .ok (.dup2, 1) := by decide +kernel
theorem dX0_tryMark_34 : decode cX0_tryMark 34 = .ok (.iaload, 1) := by decide +kernel
theorem dX0_tryMark_35 : decode cX0_tryMark 35 = .ok (.iconst 1, 1) := by decide +kernel
theorem dX0_tryMark_36 : decode cX0_tryMark 36 = .ok (.iload 4, 2) := by decide +kernel
theorem dX0_tryMark_38 : decode cX0_tryMark 38 = .ok (.ishl, 1) := by decide +kernel
theorem dX0_tryMark_39 : decode cX0_tryMark 39 = .ok (.ior, 1) := by decide +kernel
theorem dX0_tryMark_40 : decode cX0_tryMark 40 = .ok (.iastore, 1) := by decide +kernel
theorem dX0_tryMark_41 : decode cX0_tryMark 41 = .ok (.aload_n 0, 1) := by decide +kernel
theorem dX0_tryMark_42 : decode cX0_tryMark 42 = .ok (.getfield 12, 3) := by decide +kernel
theorem dX0_tryMark_45 : decode cX0_tryMark 45 = .ok (.aload_n 1, 1) := by decide +kernel
theorem dX0_tryMark_46 : decode cX0_tryMark 46 = .ok (.aload_n 2, 1) := by decide +kernel
theorem dX0_tryMark_47 : decode cX0_tryMark 47 = .ok (.aload_n 0, 1) := by decide +kernel
theorem dX0_tryMark_48 : decode cX0_tryMark 48 = .ok (.getfield 22, 3) := by decide +kernel
theorem dX0_tryMark_51 : decode cX0_tryMark 51 = .ok (.iconst 1, 1) := by decide +kernel
theorem dX0_tryMark_52 : decode cX0_tryMark 52 = .ok (.invokevirtual 54, 3) := by decide +kernel
theorem dX0_tryMark_55 : decode cX0_tryMark 55 = .ok (.aload 5, 2) := by decide +kernel
theorem dX0_tryMark_57 : decode cX0_tryMark 57 = .ok (.iload_n 3, 1) := by decide +kernel
theorem dX0_tryMark_58 : decode cX0_tryMark 58 = .ok (.dup2, 1) := by decide +kernel
theorem dX0_tryMark_59 : decode cX0_tryMark 59 = .ok (.iaload, 1) := by decide +kernel
theorem dX0_tryMark_60 : decode cX0_tryMark 60 = .ok (.iconst 1, 1) := by decide +kernel
theorem dX0_tryMark_61 : decode cX0_tryMark 61 = .ok (.iload 4, 2) := by decide +kernel
theorem dX0_tryMark_63 : decode cX0_tryMark 63 = .ok (.ishl, 1) := by decide +kernel
theorem dX0_tryMark_64 : decode cX0_tryMark 64 = .ok (.iconst (-1), 1) := by decide +kernel
theorem dX0_tryMark_65 : decode cX0_tryMark 65 = .ok (.ixor, 1) := by decide +kernel
theorem dX0_tryMark_66 : decode cX0_tryMark 66 = .ok (.iand, 1) := by decide +kernel
theorem dX0_tryMark_67 : decode cX0_tryMark 67 = .ok (.iastore, 1) := by decide +kernel
theorem dX0_tryMark_68 : decode cX0_tryMark 68 = .ok (.aload_n 0, 1) := by decide +kernel
theorem dX0_tryMark_69 : decode cX0_tryMark 69 = .ok (.getfield 12, 3) := by decide +kernel
theorem dX0_tryMark_72 : decode cX0_tryMark 72 = .ok (.aload_n 1, 1) := by decide +kernel
theorem dX0_tryMark_73 : decode cX0_tryMark 73 = .ok (.getfield 31, 3) := by decide +kernel
theorem dX0_tryMark_76 : decode cX0_tryMark 76 = .ok (.invokevirtual 58, 3) := by decide +kernel
theorem dX0_tryMark_79 : decode cX0_tryMark 79 = .ok (.istore 6, 2) := by decide +kernel
theorem dX0_tryMark_81 : decode cX0_tryMark 81 = .ok (.aload_n 0, 1) := by decide +kernel
theorem dX0_tryMark_82 : decode cX0_tryMark 82 = .ok (.getfield 28, 3) := by decide +kernel
theorem dX0_tryMark_85 : decode cX0_tryMark 85 = .ok (.iconst (-1), 1) := by decide +kernel
theorem dX0_tryMark_86 : decode cX0_tryMark 86 = .ok (.if_icmp .eq 12, 3) := by decide +kernel
theorem dX0_tryMark_89 : decode cX0_tryMark 89 = .ok (.iload 6, 2) := by decide +kernel
theorem dX0_tryMark_91 : decode cX0_tryMark 91 = .ok (.aload_n 0, 1) := by decide +kernel
theorem dX0_tryMark_92 : decode cX0_tryMark 92 = .ok (.getfield 25, 3) := by decide +kernel
theorem dX0_tryMark_95 : decode cX0_tryMark 95 = .ok (.if_icmp .ge 19, 3) := by decide +kernel
theorem dX0_tryMark_98 : decode cX0_tryMark 98 = .ok (.aload_n 0, 1) := by decide +kernel
theorem dX0_tryMark_99 : decode cX0_tryMark 99 = .ok (.iload 6, 2) := by decide +kernel
theorem dX0_tryMark_101 : decode cX0_tryMark 101 = .ok (.putfield 25, 3) := by decide +kernel
theorem dX0_tryMark_104 : decode cX0_tryMark 104 = .ok (.aload_n 0, 1) := by decide +kernel
theorem dX0_tryMark_105 : decode cX0_tryMark 105 = .ok (.iconst 4, 1) := by decide +kernel
theorem dX0_tryMark_106 : decode cX0_tryMark 106 = .ok (.iload_n 3, 1) := by decide +kernel
theorem dX0_tryMark_107 : decode cX0_tryMark 107 = .ok (.imul, 1) := by decide +kernel
theorem dX0_tryMark_108 : decode cX0_tryMark 108 = .ok (.iload 4, 2) := by decide +kernel
theorem dX0_tryMark_110 : decode cX0_tryMark 110 = .ok (.iadd, 1) := by decide +kernel
theorem dX0_tryMark_111 : decode cX0_tryMark 111 = .ok (.putfield 28, 3) := by decide +kernel
theorem dX0_tryMark_114 : decode cX0_tryMark 114 = .ok (.return_, 1) := by decide +kernel
theorem dX1_init_0 : decode cX1_init 0 = .ok (.aload_n 0, 1) := by decide +kernel
theorem dX1_init_1 : decode cX1_init 1 = .ok (.invokespecial 3, 3) := by decide +kernel
theorem dX1_init_4 : decode cX1_init 4 = .ok (.aload_n 0, 1) := by decide +kernel
theorem dX1_init_5 : decode cX1_init 5 = .ok (.bipush 8, 2) := by decide +kernel
theorem dX1_init_7 : decode cX1_init 7 = .ok (.newarray .int, 2) := by decide +kernel
theorem dX1_init_9 : decode cX1_init 9 = .ok (.putfield 9, 3) := by decide +kernel
theorem dX1_init_12 : decode cX1_init 12 = .ok (.aload_n 0, 1) := by decide +kernel
theorem dX1_init_13 : decode cX1_init 13 = .ok (.bipush 8, 2) := by decide +kernel
theorem dX1_init_15 : decode cX1_init 15 = .ok (.newarray .int, 2) := by decide +kernel
theorem dX1_init_17 : decode cX1_init 17 = .ok (.putfield 15, 3) := by decide +kernel
theorem dX1_init_20 : decode cX1_init 20 = .ok (.aload_n 0, 1) := by decide +kernel
theorem dX1_init_21 : decode cX1_init 21 = .ok (.bipush 8, 2) := by decide +kernel
theorem dX1_init_23 : decode cX1_init 23 = .ok (.newarray .int, 2) := by decide +kernel
theorem dX1_init_25 : decode cX1_init 25 = .ok (.putfield 18, 3) := by decide +kernel
theorem dX1_init_28 : decode cX1_init 28 = .ok (.return_, 1) := by decide +kernel
theorem dX1_start_0 : decode cX1_start 0 = .ok (.aload_n 0, 1) := by decide +kernel
theorem dX1_start_1 : decode cX1_start 1 = .ok (.iconst 0, 1) := by decide +kernel
theorem dX1_start_2 : decode cX1_start 2 = .ok (.putfield 21, 3) := by decide +kernel
theorem dX1_start_5 : decode cX1_start 5 = .ok (.return_, 1) := by decide +kernel
theorem dX1_add_0 : decode cX1_add 0 = .ok (.aload_n 0, 1) := by decide +kernel
theorem dX1_add_1 : decode cX1_add 1 = .ok (.getfield 21, 3) := by decide +kernel
theorem dX1_add_4 : decode cX1_add 4 = .ok (.bipush 8, 2) := by decide +kernel
theorem dX1_add_6 : decode cX1_add 6 = .ok (.if_icmp .ge 33, 3) := by decide +kernel
theorem dX1_add_9 : decode cX1_add 9 = .ok (.aload_n 0, 1) := by decide +kernel
theorem dX1_add_10 : decode cX1_add 10 = .ok (.getfield 9, 3) := by decide +kernel
theorem dX1_add_13 : decode cX1_add 13 = .ok (.aload_n 0, 1) := by decide +kernel
theorem dX1_add_14 : decode cX1_add 14 = .ok (.getfield 21, 3) := by decide +kernel
theorem dX1_add_17 : decode cX1_add 17 = .ok (.iload_n 1, 1) := by decide +kernel
theorem dX1_add_18 : decode cX1_add 18 = .ok (.iastore, 1) := by decide +kernel
theorem dX1_add_19 : decode cX1_add 19 = .ok (.aload_n 0, 1) := by decide +kernel
theorem dX1_add_20 : decode cX1_add 20 = .ok (.getfield 18, 3) := by decide +kernel
theorem dX1_add_23 : decode cX1_add 23 = .ok (.aload_n 0, 1) := by decide +kernel
theorem dX1_add_24 : decode cX1_add 24 = .ok (.getfield 21, 3) := by decide +kernel
theorem dX1_add_27 : decode cX1_add 27 = .ok (.iload_n 2, 1) := by decide +kernel
theorem dX1_add_28 : decode cX1_add 28 = .ok (.iastore, 1) := by decide +kernel
theorem dX1_add_29 : decode cX1_add 29 = .ok (.aload_n 0, 1) := by decide +kernel
theorem dX1_add_30 : decode cX1_add 30 = .ok (.dup, 1) := by decide +kernel
theorem dX1_add_31 : decode cX1_add 31 = .ok (.getfield 21, 3) := by decide +kernel
theorem dX1_add_34 : decode cX1_add 34 = .ok (.iconst 1, 1) := by decide +kernel
theorem dX1_add_35 : decode cX1_add 35 = .ok (.iadd, 1) := by decide +kernel
theorem dX1_add_36 : decode cX1_add 36 = .ok (.putfield 21, 3) := by decide +kernel
theorem dX1_add_39 : decode cX1_add 39 = .ok (.return_, 1) := by decide +kernel
theorem dX1_saidOf_0 : decode cX1_saidOf 0 = .ok (.iconst (-1), 1) := by decide +kernel
theorem dX1_saidOf_1 : decode cX1_saidOf 1 = .ok (.istore_n 2, 1) := by decide +kernel
theorem dX1_saidOf_2 : decode cX1_saidOf 2 = .ok (.iconst 0, 1) := by decide +kernel
theorem dX1_saidOf_3 : decode cX1_saidOf 3 = .ok (.istore_n 3, 1) := by decide +kernel
theorem dX1_saidOf_4 : decode cX1_saidOf 4 = .ok (.iload_n 3, 1) := by decide +kernel
theorem dX1_saidOf_5 : decode cX1_saidOf 5 = .ok (.aload_n 0, 1) := by decide +kernel
theorem dX1_saidOf_6 : decode cX1_saidOf 6 = .ok (.getfield 21, 3) := by decide +kernel
theorem dX1_saidOf_9 : decode cX1_saidOf 9 = .ok (.if_icmp .ge 45, 3) := by decide +kernel
theorem dX1_saidOf_12 : decode cX1_saidOf 12 = .ok (.iload_n 3, 1) := by decide +kernel
theorem dX1_saidOf_13 : decode cX1_saidOf 13 = .ok (.bipush 8, 2) := by decide +kernel
theorem dX1_saidOf_15 : decode cX1_saidOf 15 = .ok (.if_icmp .ge 39, 3) := by decide +kernel
theorem dX1_saidOf_18 : decode cX1_saidOf 18 = .ok (.aload_n 0, 1) := by decide +kernel
theorem dX1_saidOf_19 : decode cX1_saidOf 19 = .ok (.getfield 9, 3) := by decide +kernel
theorem dX1_saidOf_22 : decode cX1_saidOf 22 = .ok (.iload_n 3, 1) := by decide +kernel
theorem dX1_saidOf_23 : decode cX1_saidOf 23 = .ok (.iaload, 1) := by decide +kernel
theorem dX1_saidOf_24 : decode cX1_saidOf 24 = .ok (.iload_n 1, 1) := by decide +kernel
theorem dX1_saidOf_25 : decode cX1_saidOf 25 = .ok (.ishr, 1) := by decide +kernel
theorem dX1_saidOf_26 : decode cX1_saidOf 26 = .ok (.iconst 1, 1) := by decide +kernel
theorem dX1_saidOf_27 : decode cX1_saidOf 27 = .ok (.iand, 1) := by decide +kernel
theorem dX1_saidOf_28 : decode cX1_saidOf 28 = .ok (.iconst 1, 1) := by decide +kernel
theorem dX1_saidOf_29 : decode cX1_saidOf 29 = .ok (.if_icmp .ne 19, 3) := by decide +kernel
theorem dX1_saidOf_32 : decode cX1_saidOf 32 = .ok (.iload_n 2, 1) := by decide +kernel
theorem dX1_saidOf_33 : decode cX1_saidOf 33 = .ok (.iconst (-1), 1) := by decide +kernel
theorem dX1_saidOf_34 : decode cX1_saidOf 34 = .ok (.if_icmp .eq 12, 3) := by decide +kernel
theorem dX1_saidOf_37 : decode cX1_saidOf 37 = .ok (.aload_n 0, 1) := by decide +kernel
theorem dX1_saidOf_38 : decode cX1_saidOf 38 = .ok (.iload_n 3, 1) := by decide +kernel
theorem dX1_saidOf_39 : decode cX1_saidOf 39 = .ok (.iload_n 2, 1) := by decide +kernel
theorem dX1_saidOf_40 : decode cX1_saidOf 40 = .ok (.invokevirtual 25, 3) := by decide +kernel
theorem dX1_saidOf_43 : decode cX1_saidOf 43 = .ok (.ifCond .eq 5, 3) := by decide +kernel
theorem dX1_saidOf_46 : decode cX1_saidOf 46 = .ok (.iload_n 3, 1) := by decide +kernel
theorem dX1_saidOf_47 : decode cX1_saidOf 47 = .ok (.istore_n 2, 1) := by decide +kernel
theorem dX1_saidOf_48 : decode cX1_saidOf 48 = .ok (.iinc 3 1, 3) := by decide +kernel
theorem dX1_saidOf_51 : decode cX1_saidOf 51 = .ok (.goto (-47), 3) := by decide +kernel
theorem dX1_saidOf_54 : decode cX1_saidOf 54 = .ok (.iload_n 2, 1) := by decide +kernel
theorem dX1_saidOf_55 : decode cX1_saidOf 55 = .ok (.ireturn, 1) := by decide +kernel
theorem dX1_isBetter_0 : decode cX1_isBetter 0 = .ok (.aload_n 0, 1) := by decide +kernel
theorem dX1_isBetter_1 : decode cX1_isBetter 1 = .ok (.getfield 9, 3) := by decide +kernel
theorem dX1_isBetter_4 : decode cX1_isBetter 4 = .ok (.iload_n 1, 1) := by decide +kernel
theorem dX1_isBetter_5 : decode cX1_isBetter 5 = .ok (.iaload, 1) := by decide +kernel
theorem dX1_isBetter_6 : decode cX1_isBetter 6 = .ok (.invokestatic 29, 3) := by decide +kernel
theorem dX1_isBetter_9 : decode cX1_isBetter 9 = .ok (.aload_n 0, 1) := by decide +kernel
theorem dX1_isBetter_10 : decode cX1_isBetter 10 = .ok (.getfield 9, 3) := by decide +kernel
theorem dX1_isBetter_13 : decode cX1_isBetter 13 = .ok (.iload_n 2, 1) := by decide +kernel
theorem dX1_isBetter_14 : decode cX1_isBetter 14 = .ok (.iaload, 1) := by decide +kernel
theorem dX1_isBetter_15 : decode cX1_isBetter 15 = .ok (.invokestatic 29, 3) := by decide +kernel
theorem dX1_isBetter_18 : decode cX1_isBetter 18 = .ok (.isub, 1) := by decide +kernel
theorem dX1_isBetter_19 : decode cX1_isBetter 19 = .ok (.istore_n 3, 1) := by decide +kernel
theorem dX1_isBetter_20 : decode cX1_isBetter 20 = .ok (.iload_n 3, 1) := by decide +kernel
theorem dX1_isBetter_21 : decode cX1_isBetter 21 = .ok (.ifCond .lt 22, 3) := by decide +kernel
theorem dX1_isBetter_24 : decode cX1_isBetter 24 = .ok (.iload_n 3, 1) := by decide +kernel
theorem dX1_isBetter_25 : decode cX1_isBetter 25 = .ok (.ifCond .ne 22, 3) := by decide +kernel
theorem dX1_isBetter_28 : decode cX1_isBetter 28 = .ok (.aload_n 0, 1) := by decide +kernel
theorem dX1_isBetter_29 : decode cX1_isBetter 29 = .ok (.getfield 18, 3) := by decide +kernel
theorem dX1_isBetter_32 : decode cX1_isBetter 32 = .ok (.iload_n 1, 1) := by decide +kernel
theorem dX1_isBetter_33 : decode cX1_isBetter 33 = .ok (.iaload, 1) := by decide +kernel
theorem dX1_isBetter_34 : decode cX1_isBetter 34 = .ok (.aload_n 0, 1) := by decide +kernel
theorem dX1_isBetter_35 : decode cX1_isBetter 35 = .ok (.getfield 18, 3) := by decide +kernel
theorem dX1_isBetter_38 : decode cX1_isBetter 38 = .ok (.iload_n 2, 1) := by decide +kernel
theorem dX1_isBetter_39 : decode cX1_isBetter 39 = .ok (.iaload, 1) := by decide +kernel
theorem dX1_isBetter_40 : decode cX1_isBetter 40 = .ok (.if_icmp .ge 7, 3) := by decide +kernel
theorem dX1_isBetter_43 : decode cX1_isBetter 43 = .ok (.iconst 1, 1) := by decide +kernel
theorem dX1_isBetter_44 : decode cX1_isBetter 44 = .ok (.goto 4, 3) := by decide +kernel
theorem dX1_isBetter_47 : decode cX1_isBetter 47 = .ok (.iconst 0, 1) := by decide +kernel
theorem dX1_isBetter_48 : decode cX1_isBetter 48 = .ok (.ireturn, 1) := by decide +kernel
theorem dX1_deepen_0 : decode cX1_deepen 0 = .ok (.aload_n 0, 1) := by decide +kernel
theorem dX1_deepen_1 : decode cX1_deepen 1 = .ok (.getfield 15, 3) := by decide +kernel
theorem dX1_deepen_4 : decode cX1_deepen 4 = .ok (.iconst 0, 1) := by decide +kernel
theorem dX1_deepen_5 : decode cX1_deepen 5 = .ok (.invokestatic 35, 3) := by decide +kernel
theorem dX1_deepen_8 : decode cX1_deepen 8 = .ok (.iconst 0, 1) := by decide +kernel
theorem dX1_deepen_9 : decode cX1_deepen 9 = .ok (.istore_n 2, 1) := by decide +kernel
theorem dX1_deepen_10 : decode cX1_deepen 10 = .ok (.iload_n 2, 1) := by decide +kernel
theorem dX1_deepen_11 : decode cX1_deepen 11 = .ok (.iload_n 1, 1) := by decide +kernel
theorem dX1_deepen_12 : decode cX1_deepen 12 = .ok (.if_icmp .ge 42, 3) := by decide +kernel
theorem dX1_deepen_15 : decode cX1_deepen 15 = .ok (.iload_n 2, 1) := by decide +kernel
theorem dX1_deepen_16 : decode cX1_deepen 16 = .ok (.bipush 8, 2) := by decide +kernel
theorem dX1_deepen_18 : decode cX1_deepen 18 = .ok (.if_icmp .ge 36, 3) := by decide +kernel
theorem dX1_deepen_21 : decode cX1_deepen 21 = .ok (.aload_n 0, 1) := by decide +kernel
theorem dX1_deepen_22 : decode cX1_deepen 22 = .ok (.iload_n 2, 1) := by decide +kernel
theorem dX1_deepen_23 : decode cX1_deepen 23 = .ok (.invokevirtual 41, 3) := by decide +kernel
theorem dX1_deepen_26 : decode cX1_deepen 26 = .ok (.istore_n 3, 1) := by decide +kernel
theorem dX1_deepen_27 : decode cX1_deepen 27 = .ok (.iload_n 3, 1) := by decide +kernel
theorem dX1_deepen_28 : decode cX1_deepen 28 = .ok (.bipush 8, 2) := by decide +kernel
theorem dX1_deepen_30 : decode cX1_deepen 30 = .ok (.invokestatic 44, 3) := by decide +kernel
theorem dX1_deepen_33 : decode cX1_deepen 33 = .ok (.ifCond .eq 15, 3) := by decide +kernel
theorem dX1_deepen_36 : decode cX1_deepen 36 = .ok (.aload_n 0, 1) := by decide +kernel
theorem dX1_deepen_37 : decode cX1_deepen 37 = .ok (.getfield 15, 3) := by decide +kernel
theorem dX1_deepen_40 : decode cX1_deepen 40 = .ok (.iload_n 3, 1) := by decide +kernel
theorem dX1_deepen_41 : decode cX1_deepen 41 = .ok (.dup2, 1) := by decide +kernel
theorem dX1_deepen_42 : decode cX1_deepen 42 = .ok (.iaload, 1) := by decide +kernel
theorem dX1_deepen_43 : decode cX1_deepen 43 = .ok (.iconst 1, 1) := by decide +kernel
theorem dX1_deepen_44 : decode cX1_deepen 44 = .ok (.iload_n 2, 1) := by decide +kernel
theorem dX1_deepen_45 : decode cX1_deepen 45 = .ok (.ishl, 1) := by decide +kernel
theorem dX1_deepen_46 : decode cX1_deepen 46 = .ok (.ior, 1) := by decide +kernel
theorem dX1_deepen_47 : decode cX1_deepen 47 = .ok (.iastore, 1) := by decide +kernel
theorem dX1_deepen_48 : decode cX1_deepen 48 = .ok (.iinc 2 1, 3) := by decide +kernel
theorem dX1_deepen_51 : decode cX1_deepen 51 = .ok (.goto (-41), 3) := by decide +kernel
theorem dX1_deepen_54 : decode cX1_deepen 54 = .ok (.iconst 0, 1) := by decide +kernel
theorem dX1_deepen_55 : decode cX1_deepen 55 = .ok (.istore_n 2, 1) := by decide +kernel
theorem dX1_deepen_56 : decode cX1_deepen 56 = .ok (.iconst 0, 1) := by decide +kernel
theorem dX1_deepen_57 : decode cX1_deepen 57 = .ok (.istore_n 3, 1) := by decide +kernel
theorem dX1_deepen_58 : decode cX1_deepen 58 = .ok (.iload_n 3, 1) := by decide +kernel
theorem dX1_deepen_59 : decode cX1_deepen 59 = .ok (.aload_n 0, 1) := by decide +kernel
theorem dX1_deepen_60 : decode cX1_deepen 60 = .ok (.getfield 21, 3) := by decide +kernel
theorem dX1_deepen_63 : decode cX1_deepen 63 = .ok (.if_icmp .ge 53, 3) := by decide +kernel
theorem dX1_deepen_66 : decode cX1_deepen 66 = .ok (.iload_n 3, 1) := by decide +kernel
theorem dX1_deepen_67 : decode cX1_deepen 67 = .ok (.bipush 8, 2) := by decide +kernel
theorem dX1_deepen_69 : decode cX1_deepen 69 = .ok (.if_icmp .ge 47, 3) := by decide +kernel
theorem dX1_deepen_72 : decode cX1_deepen 72 = .ok (.aload_n 0, 1) := by decide +kernel
theorem dX1_deepen_73 : decode cX1_deepen 73 = .ok (.getfield 15, 3) := by decide +kernel
theorem dX1_deepen_76 : decode cX1_deepen 76 = .ok (.iload_n 3, 1) := by decide +kernel
theorem dX1_deepen_77 : decode cX1_deepen 77 = .ok (.iaload, 1) := by decide +kernel
theorem dX1_deepen_78 : decode cX1_deepen 78 = .ok (.ifCond .eq 32, 3) := by decide +kernel
theorem dX1_deepen_81 : decode cX1_deepen 81 = .ok (.aload_n 0, 1) := by decide +kernel
theorem dX1_deepen_82 : decode cX1_deepen 82 = .ok (.getfield 15, 3) := by decide +kernel
theorem dX1_deepen_85 : decode cX1_deepen 85 = .ok (.iload_n 3, 1) := by decide +kernel
theorem dX1_deepen_86 : decode cX1_deepen 86 = .ok (.iaload, 1) := by decide +kernel
theorem dX1_deepen_87 : decode cX1_deepen 87 = .ok (.aload_n 0, 1) := by decide +kernel
theorem dX1_deepen_88 : decode cX1_deepen 88 = .ok (.getfield 9, 3) := by decide +kernel
theorem dX1_deepen_91 : decode cX1_deepen 91 = .ok (.iload_n 3, 1) := by decide +kernel
theorem dX1_deepen_92 : decode cX1_deepen 92 = .ok (.iaload, 1) := by decide +kernel
theorem dX1_deepen_93 : decode cX1_deepen 93 = .ok (.if_icmp .eq 17, 3) := by decide +kernel
theorem dX1_deepen_96 : decode cX1_deepen 96 = .ok (.aload_n 0, 1) := by decide +kernel
theorem dX1_deepen_97 : decode cX1_deepen 97 = .ok (.getfield 9, 3) := by decide +kernel
theorem dX1_deepen_100 : decode cX1_deepen 100 = .ok (.iload_n 3, 1) := by decide +kernel
theorem dX1_deepen_101 : decode cX1_deepen 101 = .ok (.aload_n 0, 1) := by decide +kernel
theorem dX1_deepen_102 : decode cX1_deepen 102 = .ok (.getfield 15, 3) := by decide +kernel
theorem dX1_deepen_105 : decode cX1_deepen 105 = .ok (.iload_n 3, 1) := by decide +kernel
theorem dX1_deepen_106 : decode cX1_deepen 106 = .ok (.iaload, 1) := by decide +kernel
theorem dX1_deepen_107 : decode cX1_deepen 107 = .ok (.iastore, 1) := by decide +kernel
theorem dX1_deepen_108 : decode cX1_deepen 108 = .ok (.iconst 1, 1) := by decide +kernel
theorem dX1_deepen_109 : decode cX1_deepen 109 = .ok (.istore_n 2, 1) := by decide +kernel
theorem dX1_deepen_110 : decode cX1_deepen 110 = .ok (.iinc 3 1, 3) := by decide +kernel
theorem dX1_deepen_113 : decode cX1_deepen 113 = .ok (.goto (-55), 3) := by decide +kernel
theorem dX1_deepen_116 : decode cX1_deepen 116 = .ok (.iload_n 2, 1) := by decide +kernel
theorem dX1_deepen_117 : decode cX1_deepen 117 = .ok (.ireturn, 1) := by decide +kernel
theorem dX2_init_0 : decode cX2_init 0 = .ok (.aload_n 0, 1) := by decide +kernel
theorem dX2_init_1 : decode cX2_init 1 = .ok (.invokespecial 3, 3) := by decide +kernel
theorem dX2_init_4 : decode cX2_init 4 = .ok (.aload_n 0, 1) := by decide +kernel
theorem dX2_init_5 : decode cX2_init 5 = .ok (.sipush 256, 3) := by decide +kernel
theorem dX2_init_8 : decode cX2_init 8 = .ok (.newarray .int, 2) := by decide +kernel
theorem dX2_init_10 : decode cX2_init 10 = .ok (.putfield 9, 3) := by decide +kernel
theorem dX2_init_13 : decode cX2_init 13 = .ok (.return_, 1) := by decide +kernel
theorem dX2_hear_0 : decode cX2_hear 0 = .ok (.aload_n 0, 1) := by decide +kernel
theorem dX2_hear_1 : decode cX2_hear 1 = .ok (.getfield 9, 3) := by decide +kernel
theorem dX2_hear_4 : decode cX2_hear 4 = .ok (.iconst 0, 1) := by decide +kernel
theorem dX2_hear_5 : decode cX2_hear 5 = .ok (.invokestatic 15, 3) := by decide +kernel
theorem dX2_hear_8 : decode cX2_hear 8 = .ok (.aload_n 0, 1) := by decide +kernel
theorem dX2_hear_9 : decode cX2_hear 9 = .ok (.iconst 0, 1) := by decide +kernel
theorem dX2_hear_10 : decode cX2_hear 10 = .ok (.putfield 21, 3) := by decide +kernel
theorem dX2_hear_13 : decode cX2_hear 13 = .ok (.iconst 0, 1) := by decide +kernel
theorem dX2_hear_14 : decode cX2_hear 14 = .ok (.istore_n 3, 1) := by decide +kernel
theorem dX2_hear_15 : decode cX2_hear 15 = .ok (.iload_n 3, 1) := by decide +kernel
theorem dX2_hear_16 : decode cX2_hear 16 = .ok (.aload_n 2, 1) := by decide +kernel
theorem dX2_hear_17 : decode cX2_hear 17 = .ok (.getfield 25, 3) := by decide +kernel
theorem dX2_hear_20 : decode cX2_hear 20 = .ok (.if_icmp .ge 69, 3) := by decide +kernel
theorem dX2_hear_23 : decode cX2_hear 23 = .ok (.iload_n 3, 1) := by decide +kernel
theorem dX2_hear_24 : decode cX2_hear 24 = .ok (.bipush 24, 2) := by decide +kernel
theorem dX2_hear_26 : decode cX2_hear 26 = .ok (.if_icmp .ge 63, 3) := by decide +kernel
theorem dX2_hear_29 : decode cX2_hear 29 = .ok (.aload_n 2, 1) := by decide +kernel
theorem dX2_hear_30 : decode cX2_hear 30 = .ok (.getfield 30, 3) := by decide +kernel
theorem dX2_hear_33 : decode cX2_hear 33 = .ok (.iload_n 3, 1) := by decide +kernel
theorem dX2_hear_34 : decode cX2_hear 34 = .ok (.iaload, 1) := by decide +kernel
theorem dX2_hear_35 : decode cX2_hear 35 = .ok (.istore 4, 2) := by decide +kernel
theorem dX2_hear_37 : decode cX2_hear 37 = .ok (.iload 4, 2) := by decide +kernel
theorem dX2_hear_39 : decode cX2_hear 39 = .ok (.iconst 3, 1) := by decide +kernel
theorem dX2_hear_40 : decode cX2_hear 40 = .ok (.ishr, 1) := by decide +kernel
theorem dX2_hear_41 : decode cX2_hear 41 = .ok (.istore 5, 2) := by decide +kernel
theorem dX2_hear_43 : decode cX2_hear 43 = .ok (.iload 5, 2) := by decide +kernel
theorem dX2_hear_45 : decode cX2_hear 45 = .ok (.invokestatic 33, 3) := by decide +kernel
theorem dX2_hear_48 : decode cX2_hear 48 = .ok (.istore 6, 2) := by decide +kernel
theorem dX2_hear_50 : decode cX2_hear 50 = .ok (.iload 6, 2) := by decide +kernel
theorem dX2_hear_52 : decode cX2_hear 52 = .ok (.iload 5, 2) := by decide +kernel
theorem dX2_hear_54 : decode cX2_hear 54 = .ok (.invokestatic 39, 3) := by decide +kernel
theorem dX2_hear_57 : decode cX2_hear 57 = .ok (.if_icmp .gt 18, 3) := by decide +kernel
theorem dX2_hear_60 : decode cX2_hear 60 = .ok (.aload_n 0, 1) := by decide +kernel
theorem dX2_hear_61 : decode cX2_hear 61 = .ok (.aload_n 1, 1) := by decide +kernel
theorem dX2_hear_62 : decode cX2_hear 62 = .ok (.aload_n 2, 1) := by decide +kernel
theorem dX2_hear_63 : decode cX2_hear 63 = .ok (.iload_n 3, 1) := by decide +kernel
theorem dX2_hear_64 : decode cX2_hear 64 = .ok (.iload 6, 2) := by decide +kernel
theorem dX2_hear_66 : decode cX2_hear 66 = .ok (.invokevirtual 42, 3) := by decide +kernel
theorem dX2_hear_69 : decode cX2_hear 69 = .ok (.iinc 6 1, 3) := by decide +kernel
theorem dX2_hear_72 : decode cX2_hear 72 = .ok (.goto (-22), 3) := by decide +kernel
theorem dX2_hear_75 : decode cX2_hear 75 = .ok (.aload_n 2, 1) := by decide +kernel
theorem dX2_hear_76 : decode cX2_hear 76 = .ok (.getfield 30, 3) := by decide +kernel
theorem dX2_hear_79 : decode cX2_hear 79 = .ok (.iload_n 3, 1) := by decide +kernel
theorem dX2_hear_80 : decode cX2_hear 80 = .ok (.iload 4, 2) := by decide +kernel
theorem dX2_hear_82 : decode cX2_hear 82 = .ok (.iastore, 1) := by decide +kernel
theorem dX2_hear_83 : decode cX2_hear 83 = .ok (.iinc 3 1, 3) := by decide +kernel
theorem dX2_hear_86 : decode cX2_hear 86 = .ok (.goto (-71), 3) := by decide +kernel
theorem dX2_hear_89 : decode cX2_hear 89 = .ok (.aload_n 0, 1) := by decide +kernel
theorem dX2_hear_90 : decode cX2_hear 90 = .ok (.iconst 0, 1) := by decide +kernel
theorem dX2_hear_91 : decode cX2_hear 91 = .ok (.putfield 46, 3) := by decide +kernel
theorem dX2_hear_94 : decode cX2_hear 94 = .ok (.iconst 1, 1) := by decide +kernel
theorem dX2_hear_95 : decode cX2_hear 95 = .ok (.istore_n 3, 1) := by decide +kernel
theorem dX2_hear_96 : decode cX2_hear 96 = .ok (.iload_n 3, 1) := by decide +kernel
theorem dX2_hear_97 : decode cX2_hear 97 = .ok (.sipush 256, 3) := by decide +kernel
theorem dX2_hear_100 : decode cX2_hear 100 = .ok (.if_icmp .ge 36, 3) := by decide +kernel
theorem dX2_hear_103 : decode cX2_hear 103 = .ok (.aload_n 0, 1) := by decide +kernel
theorem dX2_hear_104 : decode cX2_hear 104 = .ok (.getfield 9, 3) := by decide +kernel
theorem dX2_hear_107 : decode cX2_hear 107 = .ok (.iload_n 3, 1) := by decide +kernel
theorem dX2_hear_108 : decode cX2_hear 108 = .ok (.iaload, 1) := by decide +kernel
theorem dX2_hear_109 : decode cX2_hear 109 = .ok (.aload_n 0, 1) := by decide +kernel
theorem dX2_hear_110 : decode cX2_hear 110 = .ok (.getfield 9, 3) := by decide +kernel
theorem dX2_hear_113 : decode cX2_hear 113 = .ok (.aload_n 0, 1) := by decide +kernel
theorem dX2_hear_114 : decode cX2_hear 114 = .ok (.getfield 46, 3) := by decide +kernel
theorem dX2_hear_117 : decode cX2_hear 117 = .ok (.sipush 255, 3) := by decide +kernel
theorem dX2_hear_120 : decode cX2_hear 120 = .ok (.iand, 1) := by decide +kernel
theorem dX2_hear_121 : decode cX2_hear 121 = .ok (.iaload, 1) := by decide +kernel
theorem dX2_hear_122 : decode cX2_hear 122 = .ok (.if_icmp .le 8, 3) := by decide +kernel
theorem dX2_hear_125 : decode cX2_hear 125 = .ok (.aload_n 0, 1) := by decide +kernel
theorem dX2_hear_126 : decode cX2_hear 126 = .ok (.iload_n 3, 1) := by decide +kernel
theorem dX2_hear_127 : decode cX2_hear 127 = .ok (.putfield 46, 3) := by decide +kernel
theorem dX2_hear_130 : decode cX2_hear 130 = .ok (.iinc 3 1, 3) := by decide +kernel
theorem dX2_hear_133 : decode cX2_hear 133 = .ok (.goto (-37), 3) := by decide +kernel
theorem dX2_hear_136 : decode cX2_hear 136 = .ok (.return_, 1) := by decide +kernel
theorem dX2_hearAs_0 : decode cX2_hearAs 0 = .ok (.iload_n 3, 1) := by decide +kernel
theorem dX2_hearAs_1 : decode cX2_hearAs 1 = .ok (.bipush 24, 2) := by decide +kernel
theorem dX2_hearAs_3 : decode cX2_hearAs 3 = .ok (.invokestatic 49, 3) := by decide +kernel
theorem dX2_hearAs_6 : decode cX2_hearAs 6 = .ok (.ifCond .ne 4, 3) := by decide +kernel
theorem dX2_hearAs_9 : decode cX2_hearAs 9 = .ok (.return_, 1) := by decide +kernel
theorem dX2_hearAs_10 : decode cX2_hearAs 10 = .ok (.aload_n 2, 1) := by decide +kernel
theorem dX2_hearAs_11 : decode cX2_hearAs 11 = .ok (.getfield 30, 3) := by decide +kernel
theorem dX2_hearAs_14 : decode cX2_hearAs 14 = .ok (.iload_n 3, 1) := by decide +kernel
theorem dX2_hearAs_15 : decode cX2_hearAs 15 = .ok (.iaload, 1) := by decide +kernel
theorem dX2_hearAs_16 : decode cX2_hearAs 16 = .ok (.istore 5, 2) := by decide +kernel
theorem dX2_hearAs_18 : decode cX2_hearAs 18 = .ok (.iconst 1, 1) := by decide +kernel
theorem dX2_hearAs_19 : decode cX2_hearAs 19 = .ok (.iload 4, 2) := by decide +kernel
theorem dX2_hearAs_21 : decode cX2_hearAs 21 = .ok (.invokestatic 53, 3) := by decide +kernel
theorem dX2_hearAs_24 : decode cX2_hearAs 24 = .ok (.invokestatic 56, 3) := by decide +kernel
theorem dX2_hearAs_27 : decode cX2_hearAs 27 = .ok (.istore 6, 2) := by decide +kernel
theorem dX2_hearAs_29 : decode cX2_hearAs 29 = .ok (.iconst 0, 1) := by decide +kernel
theorem dX2_hearAs_30 : decode cX2_hearAs 30 = .ok (.istore 7, 2) := by decide +kernel
theorem dX2_hearAs_32 : decode cX2_hearAs 32 = .ok (.iload 7, 2) := by decide +kernel
theorem dX2_hearAs_34 : decode cX2_hearAs 34 = .ok (.iload 6, 2) := by decide +kernel
theorem dX2_hearAs_36 : decode cX2_hearAs 36 = .ok (.if_icmp .ge 64, 3) := by decide +kernel
theorem dX2_hearAs_39 : decode cX2_hearAs 39 = .ok (.bipush 8, 2) := by decide +kernel
theorem dX2_hearAs_41 : decode cX2_hearAs 41 = .ok (.iload 4, 2) := by decide +kernel
theorem dX2_hearAs_43 : decode cX2_hearAs 43 = .ok (.imul, 1) := by decide +kernel
theorem dX2_hearAs_44 : decode cX2_hearAs 44 = .ok (.iload 7, 2) := by decide +kernel
theorem dX2_hearAs_46 : decode cX2_hearAs 46 = .ok (.iadd, 1) := by decide +kernel
theorem dX2_hearAs_47 : decode cX2_hearAs 47 = .ok (.iload 5, 2) := by decide +kernel
theorem dX2_hearAs_49 : decode cX2_hearAs 49 = .ok (.if_icmp .eq 45, 3) := by decide +kernel
theorem dX2_hearAs_52 : decode cX2_hearAs 52 = .ok (.aload_n 2, 1) := by decide +kernel
theorem dX2_hearAs_53 : decode cX2_hearAs 53 = .ok (.getfield 30, 3) := by decide +kernel
theorem dX2_hearAs_56 : decode cX2_hearAs 56 = .ok (.iload_n 3, 1) := by decide +kernel
theorem dX2_hearAs_57 : decode cX2_hearAs 57 = .ok (.bipush 8, 2) := by decide +kernel
theorem dX2_hearAs_59 : decode cX2_hearAs 59 = .ok (.iload 4, 2) := by decide +kernel
theorem dX2_hearAs_61 : decode cX2_hearAs 61 = .ok (.imul, 1) := by decide +kernel
theorem dX2_hearAs_62 : decode cX2_hearAs 62 = .ok (.iload 7, 2) := by decide +kernel
theorem dX2_hearAs_64 : decode cX2_hearAs 64 = .ok (.iadd, 1) := by decide +kernel
theorem dX2_hearAs_65 : decode cX2_hearAs 65 = .ok (.iastore, 1) := by decide +kernel
theorem dX2_hearAs_66 : decode cX2_hearAs 66 = .ok (.aload_n 0, 1) := by decide +kernel
theorem dX2_hearAs_67 : decode cX2_hearAs 67 = .ok (.getfield 9, 3) := by decide +kernel
theorem dX2_hearAs_70 : decode cX2_hearAs 70 = .ok (.aload_n 2, 1) := by decide +kernel
theorem dX2_hearAs_71 : decode cX2_hearAs 71 = .ok (.aload_n 1, 1) := by decide +kernel
theorem dX2_hearAs_72 : decode cX2_hearAs 72 = .ok (.invokevirtual 62, 3) := by decide +kernel
theorem dX2_hearAs_75 : decode cX2_hearAs 75 = .ok (.sipush 255, 3) := by decide +kernel
theorem dX2_hearAs_78 : decode cX2_hearAs 78 = .ok (.iand, 1) := by decide +kernel
theorem dX2_hearAs_79 : decode cX2_hearAs 79 = .ok (.dup2, 1) := by decide +kernel
theorem dX2_hearAs_80 : decode cX2_hearAs 80 = .ok (.iaload, 1) := by decide +kernel
theorem dX2_hearAs_81 : decode cX2_hearAs 81 = .ok (.iconst 1, 1) := by decide +kernel
theorem dX2_hearAs_82 : decode cX2_hearAs 82 = .ok (.iadd, 1) := by decide +kernel
theorem dX2_hearAs_83 : decode cX2_hearAs 83 = .ok (.iastore, 1) := by decide +kernel
theorem dX2_hearAs_84 : decode cX2_hearAs 84 = .ok (.aload_n 0, 1) := by decide +kernel
theorem dX2_hearAs_85 : decode cX2_hearAs 85 = .ok (.dup, 1) := by decide +kernel
theorem dX2_hearAs_86 : decode cX2_hearAs 86 = .ok (.getfield 21, 3) := by decide +kernel
theorem dX2_hearAs_89 : decode cX2_hearAs 89 = .ok (.iconst 1, 1) := by decide +kernel
theorem dX2_hearAs_90 : decode cX2_hearAs 90 = .ok (.iadd, 1) := by decide +kernel
theorem dX2_hearAs_91 : decode cX2_hearAs 91 = .ok (.putfield 21, 3) := by decide +kernel
theorem dX2_hearAs_94 : decode cX2_hearAs 94 = .ok (.iinc 7 1, 3) := by decide +kernel
theorem dX2_hearAs_97 : decode cX2_hearAs 97 = .ok (.goto (-65), 3) := by decide +kernel
theorem dX2_hearAs_100 : decode cX2_hearAs 100 = .ok (.aload_n 2, 1) := by decide +kernel
theorem dX2_hearAs_101 : decode cX2_hearAs 101 = .ok (.getfield 30, 3) := by decide +kernel
theorem dX2_hearAs_104 : decode cX2_hearAs 104 = .ok (.iload_n 3, 1) := by decide +kernel
theorem dX2_hearAs_105 : decode cX2_hearAs 105 = .ok (.iload 5, 2) := by decide +kernel
theorem dX2_hearAs_107 : decode cX2_hearAs 107 = .ok (.iastore, 1) := by decide +kernel
theorem dX2_hearAs_108 : decode cX2_hearAs 108 = .ok (.return_, 1) := by decide +kernel
theorem dX3_cost_0 : decode cX3_cost 0 = .ok (.aload_n 0, 1) := by decide +kernel
theorem dX3_cost_1 : decode cX3_cost 1 = .ok (.invokevirtual 9, 3) := by decide +kernel
theorem dX3_cost_4 : decode cX3_cost 4 = .ok (.istore_n 3, 1) := by decide +kernel
theorem dX3_cost_5 : decode cX3_cost 5 = .ok (.iconst 1, 1) := by decide +kernel
theorem dX3_cost_6 : decode cX3_cost 6 = .ok (.iload_n 2, 1) := by decide +kernel
theorem dX3_cost_7 : decode cX3_cost 7 = .ok (.ishl, 1) := by decide +kernel
theorem dX3_cost_8 : decode cX3_cost 8 = .ok (.istore 4, 2) := by decide +kernel
theorem dX3_cost_10 : decode cX3_cost 10 = .ok (.iconst 0, 1) := by decide +kernel
theorem dX3_cost_11 : decode cX3_cost 11 = .ok (.istore 5, 2) := by decide +kernel
theorem dX3_cost_13 : decode cX3_cost 13 = .ok (.iconst 0, 1) := by decide +kernel
theorem dX3_cost_14 : decode cX3_cost 14 = .ok (.istore 6, 2) := by decide +kernel
theorem dX3_cost_16 : decode cX3_cost 16 = .ok (.iconst 0, 1) := by decide +kernel
theorem dX3_cost_17 : decode cX3_cost 17 = .ok (.istore 7, 2) := by decide +kernel
theorem dX3_cost_19 : decode cX3_cost 19 = .ok (.iload 7, 2) := by decide +kernel
theorem dX3_cost_21 : decode cX3_cost 21 = .ok (.bipush 8, 2) := by decide +kernel
theorem dX3_cost_23 : decode cX3_cost 23 = .ok (.if_icmp .ge 96, 3) := by decide +kernel
theorem dX3_cost_26 : decode cX3_cost 26 = .ok (.iload_n 3, 1) := by decide +kernel
theorem dX3_cost_27 : decode cX3_cost 27 = .ok (.iload 4, 2) := by decide +kernel
theorem dX3_cost_29 : decode cX3_cost 29 = .ok (.if_icmp .eq 90, 3) := by decide +kernel
theorem dX3_cost_32 : decode cX3_cost 32 = .ok (.aload_n 0, 1) := by decide +kernel
theorem dX3_cost_33 : decode cX3_cost 33 = .ok (.iload 7, 2) := by decide +kernel
theorem dX3_cost_35 : decode cX3_cost 35 = .ok (.iload_n 2, 1) := by decide +kernel
theorem dX3_cost_36 : decode cX3_cost 36 = .ok (.invokestatic 15, 3) := by decide +kernel
theorem dX3_cost_39 : decode cX3_cost 39 = .ok (.istore 8, 2) := by decide +kernel
theorem dX3_cost_41 : decode cX3_cost 41 = .ok (.iload_n 3, 1) := by decide +kernel
theorem dX3_cost_42 : decode cX3_cost 42 = .ok (.iload 7, 2) := by decide +kernel
theorem dX3_cost_44 : decode cX3_cost 44 = .ok (.iconst 5, 1) := by decide +kernel
theorem dX3_cost_45 : decode cX3_cost 45 = .ok (.if_icmp .ge 12, 3) := by decide +kernel
theorem dX3_cost_48 : decode cX3_cost 48 = .ok (.aload_n 0, 1) := by decide +kernel
theorem dX3_cost_49 : decode cX3_cost 49 = .ok (.iload 8, 2) := by decide +kernel
theorem dX3_cost_51 : decode cX3_cost 51 = .ok (.invokevirtual 21, 3) := by decide +kernel
theorem dX3_cost_54 : decode cX3_cost 54 = .ok (.goto 11, 3) := by decide +kernel
theorem dX3_cost_57 : decode cX3_cost 57 = .ok (.aload_n 0, 1) := by decide +kernel
theorem dX3_cost_58 : decode cX3_cost 58 = .ok (.iload 8, 2) := by decide +kernel
theorem dX3_cost_60 : decode cX3_cost 60 = .ok (.invokevirtual 21, 3) := by decide +kernel
theorem dX3_cost_63 : decode cX3_cost 63 = .ok (.iconst (-1), 1) := by decide +kernel
theorem dX3_cost_64 : decode cX3_cost 64 = .ok (.ixor, 1) := by decide +kernel
theorem dX3_cost_65 : decode cX3_cost 65 = .ok (.iand, 1) := by decide +kernel
theorem dX3_cost_66 : decode cX3_cost 66 = .ok (.istore 9, 2) := by decide +kernel
theorem dX3_cost_68 : decode cX3_cost 68 = .ok (.iload 9, 2) := by decide +kernel
theorem dX3_cost_70 : decode cX3_cost 70 = .ok (.iload_n 3, 1) := by decide +kernel
theorem dX3_cost_71 : decode cX3_cost 71 = .ok (.if_icmp .eq 42, 3) := by decide +kernel
theorem dX3_cost_74 : decode cX3_cost 74 = .ok (.iload 9, 2) := by decide +kernel
theorem dX3_cost_76 : decode cX3_cost 76 = .ok (.iload 4, 2) := by decide +kernel
theorem dX3_cost_78 : decode cX3_cost 78 = .ok (.iand, 1) := by decide +kernel
theorem dX3_cost_79 : decode cX3_cost 79 = .ok (.ifCond .eq 34, 3) := by decide +kernel
theorem dX3_cost_82 : decode cX3_cost 82 = .ok (.iload 9, 2) := by decide +kernel
theorem dX3_cost_84 : decode cX3_cost 84 = .ok (.istore_n 3, 1) := by decide +kernel
theorem dX3_cost_85 : decode cX3_cost 85 = .ok (.iinc 6 1, 3) := by decide +kernel
theorem dX3_cost_88 : decode cX3_cost 88 = .ok (.iload 5, 2) := by decide +kernel
theorem dX3_cost_90 : decode cX3_cost 90 = .ok (.aload_n 1, 1) := by decide +kernel
theorem dX3_cost_91 : decode cX3_cost 91 = .ok (.iload 8, 2) := by decide +kernel
theorem dX3_cost_93 : decode cX3_cost 93 = .ok (.iconst 3, 1) := by decide +kernel
theorem dX3_cost_94 : decode cX3_cost 94 = .ok (.ishr, 1) := by decide +kernel
theorem dX3_cost_95 : decode cX3_cost 95 = .ok (.iaload, 1) := by decide +kernel
theorem dX3_cost_96 : decode cX3_cost 96 = .ok (.iload 7, 2) := by decide +kernel
theorem dX3_cost_98 : decode cX3_cost 98 = .ok (.iconst 5, 1) := by decide +kernel
theorem dX3_cost_99 : decode cX3_cost 99 = .ok (.if_icmp .ge 7, 3) := by decide +kernel
theorem dX3_cost_102 : decode cX3_cost 102 = .ok (.iconst 0, 1) := by decide +kernel
theorem dX3_cost_103 : decode cX3_cost 103 = .ok (.goto 6, 3) := by decide +kernel
theorem dX3_cost_106 : decode cX3_cost 106 = .ok (.aload_n 1, 1) := by decide +kernel
theorem dX3_cost_107 : decode cX3_cost 107 = .ok (.iconst 4, 1) := by decide +kernel
theorem dX3_cost_108 : decode cX3_cost 108 = .ok (.iaload, 1) := by decide +kernel
theorem dX3_cost_109 : decode cX3_cost 109 = .ok (.iadd, 1) := by decide +kernel
theorem dX3_cost_110 : decode cX3_cost 110 = .ok (.iadd, 1) := by decide +kernel
theorem dX3_cost_111 : decode cX3_cost 111 = .ok (.istore 5, 2) := by decide +kernel
theorem dX3_cost_113 : decode cX3_cost 113 = .ok (.iinc 7 1, 3) := by decide +kernel
theorem dX3_cost_116 : decode cX3_cost 116 = .ok (.goto (-97), 3) := by decide +kernel
theorem dX3_cost_119 : decode cX3_cost 119 = .ok (.iload_n 3, 1) := by decide +kernel
theorem dX3_cost_120 : decode cX3_cost 120 = .ok (.iload 4, 2) := by decide +kernel
theorem dX3_cost_122 : decode cX3_cost 122 = .ok (.if_icmp .eq 5, 3) := by decide +kernel
theorem dX3_cost_125 : decode cX3_cost 125 = .ok (.iconst (-1), 1) := by decide +kernel
theorem dX3_cost_126 : decode cX3_cost 126 = .ok (.ireturn, 1) := by decide +kernel
theorem dX3_cost_127 : decode cX3_cost 127 = .ok (.iload 6, 2) := by decide +kernel
theorem dX3_cost_129 : decode cX3_cost 129 = .ok (.ifCond .ne 9, 3) := by decide +kernel
theorem dX3_cost_132 : decode cX3_cost 132 = .ok (.aload_n 1, 1) := by decide +kernel
theorem dX3_cost_133 : decode cX3_cost 133 = .ok (.iconst 0, 1) := by decide +kernel
theorem dX3_cost_134 : decode cX3_cost 134 = .ok (.iaload, 1) := by decide +kernel
theorem dX3_cost_135 : decode cX3_cost 135 = .ok (.goto 14, 3) := by decide +kernel
theorem dX3_cost_138 : decode cX3_cost 138 = .ok (.iload 5, 2) := by decide +kernel
theorem dX3_cost_140 : decode cX3_cost 140 = .ok (.iload 6, 2) := by decide +kernel
theorem dX3_cost_142 : decode cX3_cost 142 = .ok (.iconst 1, 1) := by decide +kernel
theorem dX3_cost_143 : decode cX3_cost 143 = .ok (.isub, 1) := by decide +kernel
theorem dX3_cost_144 : decode cX3_cost 144 = .ok (.aload_n 1, 1) := by decide +kernel
theorem dX3_cost_145 : decode cX3_cost 145 = .ok (.iconst 5, 1) := by decide +kernel
theorem dX3_cost_146 : decode cX3_cost 146 = .ok (.iaload, 1) := by decide +kernel
theorem dX3_cost_147 : decode cX3_cost 147 = .ok (.imul, 1) := by decide +kernel
theorem dX3_cost_148 : decode cX3_cost 148 = .ok (.iadd, 1) := by decide +kernel
theorem dX3_cost_149 : decode cX3_cost 149 = .ok (.ireturn, 1) := by decide +kernel
theorem dX3_property_0 : decode cX3_property 0 = .ok (.iload_n 1, 1) := by decide +kernel
theorem dX3_property_1 : decode cX3_property 1 = .ok (.ifCond .ne 15, 3) := by decide +kernel
theorem dX3_property_4 : decode cX3_property 4 = .ok (.bipush 8, 2) := by decide +kernel
theorem dX3_property_6 : decode cX3_property 6 = .ok (.aload_n 0, 1) := by decide +kernel
theorem dX3_property_7 : decode cX3_property 7 = .ok (.getfield 27, 3) := by decide +kernel
theorem dX3_property_10 : decode cX3_property 10 = .ok (.iconst 0, 1) := by decide +kernel
theorem dX3_property_11 : decode cX3_property 11 = .ok (.aaload, 1) := by decide +kernel
theorem dX3_property_12 : decode cX3_property 12 = .ok (.iload_n 2, 1) := by decide +kernel
theorem dX3_property_13 : decode cX3_property 13 = .ok (.iaload, 1) := by decide +kernel
theorem dX3_property_14 : decode cX3_property 14 = .ok (.iadd, 1) := by decide +kernel
theorem dX3_property_15 : decode cX3_property 15 = .ok (.ireturn, 1) := by decide +kernel
theorem dX3_property_16 : decode cX3_property 16 = .ok (.iload_n 1, 1) := by decide +kernel
theorem dX3_property_17 : decode cX3_property 17 = .ok (.iconst 1, 1) := by decide +kernel
theorem dX3_property_18 : decode cX3_property 18 = .ok (.if_icmp .ne 15, 3) := by decide +kernel
theorem dX3_property_21 : decode cX3_property 21 = .ok (.bipush 16, 2) := by decide +kernel
theorem dX3_property_23 : decode cX3_property 23 = .ok (.aload_n 0, 1) := by decide +kernel
theorem dX3_property_24 : decode cX3_property 24 = .ok (.getfield 27, 3) := by decide +kernel
theorem dX3_property_27 : decode cX3_property 27 = .ok (.iconst 1, 1) := by decide +kernel
theorem dX3_property_28 : decode cX3_property 28 = .ok (.aaload, 1) := by decide +kernel
theorem dX3_property_29 : decode cX3_property 29 = .ok (.iload_n 2, 1) := by decide +kernel
theorem dX3_property_30 : decode cX3_property 30 = .ok (.iaload, 1) := by decide +kernel
theorem dX3_property_31 : decode cX3_property 31 = .ok (.iadd, 1) := by decide +kernel
theorem dX3_property_32 : decode cX3_property 32 = .ok (.ireturn, 1) := by decide +kernel
theorem dX3_property_33 : decode cX3_property 33 = .ok (.bipush 24, 2) := by decide +kernel
theorem dX3_property_35 : decode cX3_property 35 = .ok (.iload_n 1, 1) := by decide +kernel
theorem dX3_property_36 : decode cX3_property 36 = .ok (.iconst 5, 1) := by decide +kernel
theorem dX3_property_37 : decode cX3_property 37 = .ok (.if_icmp .ge 9, 3) := by decide +kernel
theorem dX3_property_40 : decode cX3_property 40 = .ok (.iload_n 1, 1) := by decide +kernel
theorem dX3_property_41 : decode cX3_property 41 = .ok (.iconst 2, 1) := by decide +kernel
theorem dX3_property_42 : decode cX3_property 42 = .ok (.isub, 1) := by decide +kernel
theorem dX3_property_43 : decode cX3_property 43 = .ok (.goto 6, 3) := by decide +kernel
theorem dX3_property_46 : decode cX3_property 46 = .ok (.iload_n 1, 1) := by decide +kernel
theorem dX3_property_47 : decode cX3_property 47 = .ok (.iconst 5, 1) := by decide +kernel
theorem dX3_property_48 : decode cX3_property 48 = .ok (.isub, 1) := by decide +kernel
theorem dX3_property_49 : decode cX3_property 49 = .ok (.iadd, 1) := by decide +kernel
theorem dX3_property_50 : decode cX3_property 50 = .ok (.ireturn, 1) := by decide +kernel
theorem dX4_init_0 : decode cX4_init 0 = .ok (.aload_n 0, 1) := by decide +kernel
theorem dX4_init_1 : decode cX4_init 1 = .ok (.invokespecial 1, 3) := by decide +kernel
theorem dX4_init_4 : decode cX4_init 4 = .ok (.aload_n 0, 1) := by decide +kernel
theorem dX4_init_5 : decode cX4_init 5 = .ok (.bipush 24, 2) := by decide +kernel
theorem dX4_init_7 : decode cX4_init 7 = .ok (.newarray .int, 2) := by decide +kernel
theorem dX4_init_9 : decode cX4_init 9 = .ok (.putfield 9, 3) := by decide +kernel
theorem dX4_init_12 : decode cX4_init 12 = .ok (.aload_n 0, 1) := by decide +kernel
theorem dX4_init_13 : decode cX4_init 13 = .ok (.bipush 24, 2) := by decide +kernel
theorem dX4_init_15 : decode cX4_init 15 = .ok (.newarray .int, 2) := by decide +kernel
theorem dX4_init_17 : decode cX4_init 17 = .ok (.putfield 13, 3) := by decide +kernel
theorem dX4_init_20 : decode cX4_init 20 = .ok (.return_, 1) := by decide +kernel
theorem dX4_add_0 : decode cX4_add 0 = .ok (.aload_n 0, 1) := by decide +kernel
theorem dX4_add_1 : decode cX4_add 1 = .ok (.getfield 16, 3) := by decide +kernel
theorem dX4_add_4 : decode cX4_add 4 = .ok (.bipush 24, 2) := by decide +kernel
theorem dX4_add_6 : decode cX4_add 6 = .ok (.if_icmp .lt 5, 3) := by decide +kernel
theorem dX4_add_9 : decode cX4_add 9 = .ok (.iconst 0, 1) := by decide +kernel
theorem dX4_add_10 : decode cX4_add 10 = .ok (.ireturn, 1) := by decide +kernel
theorem dX4_add_11 : decode cX4_add 11 = .ok (.aload_n 0, 1) := by decide +kernel
theorem dX4_add_12 : decode cX4_add 12 = .ok (.getfield 9, 3) := by decide +kernel
theorem dX4_add_15 : decode cX4_add 15 = .ok (.aload_n 0, 1) := by decide +kernel
theorem dX4_add_16 : decode cX4_add 16 = .ok (.dup, 1) := by decide +kernel
theorem dX4_add_17 : decode cX4_add 17 = .ok (.getfield 16, 3) := by decide +kernel
theorem dX4_add_20 : decode cX4_add 20 = .ok (.dup_x1, 1) := by decide +kernel
theorem dX4_add_21 : decode cX4_add 21 = .ok (.iconst 1, 1) := by decide +kernel
theorem dX4_add_22 : decode cX4_add 22 = .ok (.iadd, 1) := by decide +kernel
theorem dX4_add_23 : decode cX4_add 23 = .ok (.putfield 16, 3) := by decide +kernel
theorem dX4_add_26 : decode cX4_add 26 = .ok (.iload_n 1, 1) := by decide +kernel
theorem dX4_add_27 : decode cX4_add 27 = .ok (.iastore, 1) := by decide +kernel
theorem dX4_add_28 : decode cX4_add 28 = .ok (.iconst 1, 1) := by decide +kernel
theorem dX4_add_29 : decode cX4_add 29 = .ok (.ireturn, 1) := by decide +kernel
theorem dX4_addNumber_0 : decode cX4_addNumber 0 = .ok (.aload_n 0, 1) := by decide +kernel
theorem dX4_addNumber_1 : decode cX4_addNumber 1 = .ok (.getfield 16, 3) := by decide +kernel
theorem dX4_addNumber_4 : decode cX4_addNumber 4 = .ok (.ifCond .le 27, 3) := by decide +kernel
theorem dX4_addNumber_7 : decode cX4_addNumber 7 = .ok (.aload_n 0, 1) := by decide +kernel
theorem dX4_addNumber_8 : decode cX4_addNumber 8 = .ok (.getfield 16, 3) := by decide +kernel
theorem dX4_addNumber_11 : decode cX4_addNumber 11 = .ok (.bipush 24, 2) := by decide +kernel
theorem dX4_addNumber_13 : decode cX4_addNumber 13 = .ok (.if_icmp .gt 18, 3) := by decide +kernel
theorem dX4_addNumber_16 : decode cX4_addNumber 16 = .ok (.aload_n 0, 1) := by decide +kernel
theorem dX4_addNumber_17 : decode cX4_addNumber 17 = .ok (.getfield 9, 3) := by decide +kernel
theorem dX4_addNumber_20 : decode cX4_addNumber 20 = .ok (.aload_n 0, 1) := by decide +kernel
theorem dX4_addNumber_21 : decode cX4_addNumber 21 = .ok (.getfield 16, 3) := by decide +kernel
theorem dX4_addNumber_24 : decode cX4_addNumber 24 = .ok (.iconst 1, 1) := by decide +kernel
theorem dX4_addNumber_25 : decode cX4_addNumber 25 = .ok (.isub, 1) := by decide +kernel
theorem dX4_addNumber_26 : decode cX4_addNumber 26 = .ok (.dup2, 1) := by decide +kernel
theorem dX4_addNumber_27 : decode cX4_addNumber 27 = .ok (.iaload, 1) := by decide +kernel
theorem dX4_addNumber_28 : decode cX4_addNumber 28 = .ok (.iload_n 1, 1) := by decide +kernel
theorem dX4_addNumber_29 : decode cX4_addNumber 29 = .ok (.ior, 1) := by decide +kernel
theorem dX4_addNumber_30 : decode cX4_addNumber 30 = .ok (.iastore, 1) := by decide +kernel
theorem dX4_addNumber_31 : decode cX4_addNumber 31 = .ok (.return_, 1) := by decide +kernel
theorem dX4_copy_0 : decode cX4_copy 0 = .ok (.aload_n 0, 1) := by decide +kernel
theorem dX4_copy_1 : decode cX4_copy 1 = .ok (.iconst 0, 1) := by decide +kernel
theorem dX4_copy_2 : decode cX4_copy 2 = .ok (.putfield 16, 3) := by decide +kernel
theorem dX4_copy_5 : decode cX4_copy 5 = .ok (.iconst 0, 1) := by decide +kernel
theorem dX4_copy_6 : decode cX4_copy 6 = .ok (.istore_n 2, 1) := by decide +kernel
theorem dX4_copy_7 : decode cX4_copy 7 = .ok (.iload_n 2, 1) := by decide +kernel
theorem dX4_copy_8 : decode cX4_copy 8 = .ok (.aload_n 1, 1) := by decide +kernel
theorem dX4_copy_9 : decode cX4_copy 9 = .ok (.getfield 16, 3) := by decide +kernel
theorem dX4_copy_12 : decode cX4_copy 12 = .ok (.if_icmp .ge 26, 3) := by decide +kernel
theorem dX4_copy_15 : decode cX4_copy 15 = .ok (.iload_n 2, 1) := by decide +kernel
theorem dX4_copy_16 : decode cX4_copy 16 = .ok (.bipush 24, 2) := by decide +kernel
theorem dX4_copy_18 : decode cX4_copy 18 = .ok (.if_icmp .ge 20, 3) := by decide +kernel
theorem dX4_copy_21 : decode cX4_copy 21 = .ok (.aload_n 0, 1) := by decide +kernel
theorem dX4_copy_22 : decode cX4_copy 22 = .ok (.aload_n 1, 1) := by decide +kernel
theorem dX4_copy_23 : decode cX4_copy 23 = .ok (.getfield 9, 3) := by decide +kernel
theorem dX4_copy_26 : decode cX4_copy 26 = .ok (.iload_n 2, 1) := by decide +kernel
theorem dX4_copy_27 : decode cX4_copy 27 = .ok (.iaload, 1) := by decide +kernel
theorem dX4_copy_28 : decode cX4_copy 28 = .ok (.invokevirtual 20, 3) := by decide +kernel
theorem dX4_copy_31 : decode cX4_copy 31 = .ok (.pop, 1) := by decide +kernel
theorem dX4_copy_32 : decode cX4_copy 32 = .ok (.iinc 2 1, 3) := by decide +kernel
theorem dX4_copy_35 : decode cX4_copy 35 = .ok (.goto (-28), 3) := by decide +kernel
theorem dX4_copy_38 : decode cX4_copy 38 = .ok (.return_, 1) := by decide +kernel
theorem dX4_meaning_0 : decode cX4_meaning 0 = .ok (.iconst 0, 1) := by decide +kernel
theorem dX4_meaning_1 : decode cX4_meaning 1 = .ok (.istore_n 2, 1) := by decide +kernel
theorem dX4_meaning_2 : decode cX4_meaning 2 = .ok (.aload_n 0, 1) := by decide +kernel
theorem dX4_meaning_3 : decode cX4_meaning 3 = .ok (.getfield 16, 3) := by decide +kernel
theorem dX4_meaning_6 : decode cX4_meaning 6 = .ok (.bipush 24, 2) := by decide +kernel
theorem dX4_meaning_8 : decode cX4_meaning 8 = .ok (.invokestatic 24, 3) := by decide +kernel
theorem dX4_meaning_11 : decode cX4_meaning 11 = .ok (.iconst 1, 1) := by decide +kernel
theorem dX4_meaning_12 : decode cX4_meaning 12 = .ok (.isub, 1) := by decide +kernel
theorem dX4_meaning_13 : decode cX4_meaning 13 = .ok (.istore_n 3, 1) := by decide +kernel
theorem dX4_meaning_14 : decode cX4_meaning 14 = .ok (.iload_n 3, 1) := by decide +kernel
theorem dX4_meaning_15 : decode cX4_meaning 15 = .ok (.ifCond .lt 136, 3) := by decide +kernel
theorem dX4_meaning_18 : decode cX4_meaning 18 = .ok (.aload_n 0, 1) := by decide +kernel
theorem dX4_meaning_19 : decode cX4_meaning 19 = .ok (.getfield 9, 3) := by decide +kernel
theorem dX4_meaning_22 : decode cX4_meaning 22 = .ok (.iload_n 3, 1) := by decide +kernel
theorem dX4_meaning_23 : decode cX4_meaning 23 = .ok (.iaload, 1) := by decide +kernel
theorem dX4_meaning_24 : decode cX4_meaning 24 = .ok (.iconst 3, 1) := by decide +kernel
theorem dX4_meaning_25 : decode cX4_meaning 25 = .ok (.ishr, 1) := by decide +kernel
theorem dX4_meaning_26 : decode cX4_meaning 26 = .ok (.istore 4, 2) := by decide +kernel
theorem dX4_meaning_28 : decode cX4_meaning 28 = .ok (.iload 4, 2) := by decide +kernel
theorem dX4_meaning_30 : decode cX4_meaning 30 = .ok (.invokestatic 30, 3) := by decide +kernel
theorem dX4_meaning_33 : decode cX4_meaning 33 = .ok (.istore 5, 2) := by decide +kernel
theorem dX4_meaning_35 : decode cX4_meaning 35 = .ok (.iload 5, 2) := by decide +kernel
theorem dX4_meaning_37 : decode cX4_meaning 37 = .ok (.ifCond .ne 31, 3) := by decide +kernel
theorem dX4_meaning_40 : decode cX4_meaning 40 = .ok (.iload_n 2, 1) := by decide +kernel
theorem dX4_meaning_41 : decode cX4_meaning 41 = .ok (.bipush 24, 2) := by decide +kernel
theorem dX4_meaning_43 : decode cX4_meaning 43 = .ok (.if_icmp .ge 25, 3) := by decide +kernel
theorem dX4_meaning_46 : decode cX4_meaning 46 = .ok (.aload_n 0, 1) := by decide +kernel
theorem dX4_meaning_47 : decode cX4_meaning 47 = .ok (.getfield 13, 3) := by decide +kernel
theorem dX4_meaning_50 : decode cX4_meaning 50 = .ok (.iload_n 2, 1) := by decide +kernel
theorem dX4_meaning_51 : decode cX4_meaning 51 = .ok (.iinc 2 1, 3) := by decide +kernel
theorem dX4_meaning_54 : decode cX4_meaning 54 = .ok (.aload_n 1, 1) := by decide +kernel
theorem dX4_meaning_55 : decode cX4_meaning 55 = .ok (.aload_n 0, 1) := by decide +kernel
theorem dX4_meaning_56 : decode cX4_meaning 56 = .ok (.getfield 9, 3) := by decide +kernel
theorem dX4_meaning_59 : decode cX4_meaning 59 = .ok (.iload_n 3, 1) := by decide +kernel
theorem dX4_meaning_60 : decode cX4_meaning 60 = .ok (.iaload, 1) := by decide +kernel
theorem dX4_meaning_61 : decode cX4_meaning 61 = .ok (.invokevirtual 36, 3) := by decide +kernel
theorem dX4_meaning_64 : decode cX4_meaning 64 = .ok (.iastore, 1) := by decide +kernel
theorem dX4_meaning_65 : decode cX4_meaning 65 = .ok (.goto 80, 3) := by decide +kernel
theorem dX4_meaning_68 : decode cX4_meaning 68 = .ok (.iload 5, 2) := by decide +kernel
theorem dX4_meaning_70 : decode cX4_meaning 70 = .ok (.iconst 1, 1) := by decide +kernel
theorem dX4_meaning_71 : decode cX4_meaning 71 = .ok (.if_icmp .ne 33, 3) := by decide +kernel
theorem dX4_meaning_74 : decode cX4_meaning 74 = .ok (.iload_n 2, 1) := by decide +kernel
theorem dX4_meaning_75 : decode cX4_meaning 75 = .ok (.iconst 1, 1) := by decide +kernel
theorem dX4_meaning_76 : decode cX4_meaning 76 = .ok (.if_icmp .lt 28, 3) := by decide +kernel
theorem dX4_meaning_79 : decode cX4_meaning 79 = .ok (.aload_n 0, 1) := by decide +kernel
theorem dX4_meaning_80 : decode cX4_meaning 80 = .ok (.getfield 13, 3) := by decide +kernel
theorem dX4_meaning_83 : decode cX4_meaning 83 = .ok (.iload_n 2, 1) := by decide +kernel
theorem dX4_meaning_84 : decode cX4_meaning 84 = .ok (.iconst 1, 1) := by decide +kernel
theorem dX4_meaning_85 : decode cX4_meaning 85 = .ok (.isub, 1) := by decide +kernel
theorem dX4_meaning_86 : decode cX4_meaning 86 = .ok (.aload_n 1, 1) := by decide +kernel
theorem dX4_meaning_87 : decode cX4_meaning 87 = .ok (.iload 4, 2) := by decide +kernel
theorem dX4_meaning_89 : decode cX4_meaning 89 = .ok (.aload_n 0, 1) := by decide +kernel
theorem dX4_meaning_90 : decode cX4_meaning 90 = .ok (.getfield 13, 3) := by decide +kernel
theorem dX4_meaning_93 : decode cX4_meaning 93 = .ok (.iload_n 2, 1) := by decide +kernel
theorem dX4_meaning_94 : decode cX4_meaning 94 = .ok (.iconst 1, 1) := by decide +kernel
theorem dX4_meaning_95 : decode cX4_meaning 95 = .ok (.isub, 1) := by decide +kernel
theorem dX4_meaning_96 : decode cX4_meaning 96 = .ok (.iaload, 1) := by decide +kernel
theorem dX4_meaning_97 : decode cX4_meaning 97 = .ok (.invokevirtual 41, 3) := by decide +kernel
theorem dX4_meaning_100 : decode cX4_meaning 100 = .ok (.iastore, 1) := by decide +kernel
theorem dX4_meaning_101 : decode cX4_meaning 101 = .ok (.goto 44, 3) := by decide +kernel
theorem dX4_meaning_104 : decode cX4_meaning 104 = .ok (.iload 5, 2) := by decide +kernel
theorem dX4_meaning_106 : decode cX4_meaning 106 = .ok (.iconst 2, 1) := by decide +kernel
theorem dX4_meaning_107 : decode cX4_meaning 107 = .ok (.if_icmp .ne 38, 3) := by decide +kernel
theorem dX4_meaning_110 : decode cX4_meaning 110 = .ok (.iload_n 2, 1) := by decide +kernel
theorem dX4_meaning_111 : decode cX4_meaning 111 = .ok (.iconst 2, 1) := by decide +kernel
theorem dX4_meaning_112 : decode cX4_meaning 112 = .ok (.if_icmp .lt 33, 3) := by decide +kernel
theorem dX4_meaning_115 : decode cX4_meaning 115 = .ok (.iinc 2 (-1), 3) := by decide +kernel
theorem dX4_meaning_118 : decode cX4_meaning 118 = .ok (.aload_n 0, 1) := by decide +kernel
theorem dX4_meaning_119 : decode cX4_meaning 119 = .ok (.getfield 13, 3) := by decide +kernel
theorem dX4_meaning_122 : decode cX4_meaning 122 = .ok (.iload_n 2, 1) := by decide +kernel
theorem dX4_meaning_123 : decode cX4_meaning 123 = .ok (.iconst 1, 1) := by decide +kernel
theorem dX4_meaning_124 : decode cX4_meaning 124 = .ok (.isub, 1) := by decide +kernel
theorem dX4_meaning_125 : decode cX4_meaning 125 = .ok (.iload 4, 2) := by decide +kernel
theorem dX4_meaning_127 : decode cX4_meaning 127 = .ok (.aload_n 0, 1) := by decide +kernel
theorem dX4_meaning_128 : decode cX4_meaning 128 = .ok (.getfield 13, 3) := by decide +kernel
theorem dX4_meaning_131 : decode cX4_meaning 131 = .ok (.iload_n 2, 1) := by decide +kernel
theorem dX4_meaning_132 : decode cX4_meaning 132 = .ok (.iaload, 1) := by decide +kernel
theorem dX4_meaning_133 : decode cX4_meaning 133 = .ok (.aload_n 0, 1) := by decide +kernel
theorem dX4_meaning_134 : decode cX4_meaning 134 = .ok (.getfield 13, 3) := by decide +kernel
theorem dX4_meaning_137 : decode cX4_meaning 137 = .ok (.iload_n 2, 1) := by decide +kernel
theorem dX4_meaning_138 : decode cX4_meaning 138 = .ok (.iconst 1, 1) := by decide +kernel
theorem dX4_meaning_139 : decode cX4_meaning 139 = .ok (.isub, 1) := by decide +kernel
theorem dX4_meaning_140 : decode cX4_meaning 140 = .ok (.iaload, 1) := by decide +kernel
theorem dX4_meaning_141 : decode cX4_meaning 141 = .ok (.invokestatic 44, 3) := by decide +kernel
theorem dX4_meaning_144 : decode cX4_meaning 144 = .ok (.iastore, 1) := by decide +kernel
theorem dX4_meaning_145 : decode cX4_meaning 145 = .ok (.iinc 3 (-1), 3) := by decide +kernel
theorem dX4_meaning_148 : decode cX4_meaning 148 = .ok (.goto (-134), 3) := by decide +kernel
theorem dX4_meaning_151 : decode cX4_meaning 151 = .ok (.aload_n 0, 1) := by decide +kernel
theorem dX4_meaning_152 : decode cX4_meaning 152 = .ok (.getfield 13, 3) := by decide +kernel
theorem dX4_meaning_155 : decode cX4_meaning 155 = .ok (.iconst 0, 1) := by decide +kernel
theorem dX4_meaning_156 : decode cX4_meaning 156 = .ok (.iaload, 1) := by decide +kernel
theorem dX4_meaning_157 : decode cX4_meaning 157 = .ok (.ireturn, 1) := by decide +kernel
theorem dX4_cost_0 : decode cX4_cost 0 = .ok (.iconst 0, 1) := by decide +kernel
theorem dX4_cost_1 : decode cX4_cost 1 = .ok (.istore_n 2, 1) := by decide +kernel
theorem dX4_cost_2 : decode cX4_cost 2 = .ok (.iconst 0, 1) := by decide +kernel
theorem dX4_cost_3 : decode cX4_cost 3 = .ok (.istore_n 3, 1) := by decide +kernel
theorem dX4_cost_4 : decode cX4_cost 4 = .ok (.iload_n 3, 1) := by decide +kernel
theorem dX4_cost_5 : decode cX4_cost 5 = .ok (.aload_n 0, 1) := by decide +kernel
theorem dX4_cost_6 : decode cX4_cost 6 = .ok (.getfield 16, 3) := by decide +kernel
theorem dX4_cost_9 : decode cX4_cost 9 = .ok (.if_icmp .ge 46, 3) := by decide +kernel
theorem dX4_cost_12 : decode cX4_cost 12 = .ok (.iload_n 3, 1) := by decide +kernel
theorem dX4_cost_13 : decode cX4_cost 13 = .ok (.bipush 24, 2) := by decide +kernel
theorem dX4_cost_15 : decode cX4_cost 15 = .ok (.if_icmp .ge 40, 3) := by decide +kernel
theorem dX4_cost_18 : decode cX4_cost 18 = .ok (.aload_n 0, 1) := by decide +kernel
theorem dX4_cost_19 : decode cX4_cost 19 = .ok (.getfield 9, 3) := by decide +kernel
theorem dX4_cost_22 : decode cX4_cost 22 = .ok (.iload_n 3, 1) := by decide +kernel
theorem dX4_cost_23 : decode cX4_cost 23 = .ok (.iaload, 1) := by decide +kernel
theorem dX4_cost_24 : decode cX4_cost 24 = .ok (.iconst 3, 1) := by decide +kernel
theorem dX4_cost_25 : decode cX4_cost 25 = .ok (.ishr, 1) := by decide +kernel
theorem dX4_cost_26 : decode cX4_cost 26 = .ok (.istore 4, 2) := by decide +kernel
theorem dX4_cost_28 : decode cX4_cost 28 = .ok (.iload_n 2, 1) := by decide +kernel
theorem dX4_cost_29 : decode cX4_cost 29 = .ok (.iload 4, 2) := by decide +kernel
theorem dX4_cost_31 : decode cX4_cost 31 = .ok (.aload_n 1, 1) := by decide +kernel
theorem dX4_cost_32 : decode cX4_cost 32 = .ok (.arraylength, 1) := by decide +kernel
theorem dX4_cost_33 : decode cX4_cost 33 = .ok (.invokestatic 48, 3) := by decide +kernel
theorem dX4_cost_36 : decode cX4_cost 36 = .ok (.ifCond .eq 10, 3) := by decide +kernel
theorem dX4_cost_39 : decode cX4_cost 39 = .ok (.aload_n 1, 1) := by decide +kernel
theorem dX4_cost_40 : decode cX4_cost 40 = .ok (.iload 4, 2) := by decide +kernel
theorem dX4_cost_42 : decode cX4_cost 42 = .ok (.iaload, 1) := by decide +kernel
theorem dX4_cost_43 : decode cX4_cost 43 = .ok (.goto 4, 3) := by decide +kernel
theorem dX4_cost_46 : decode cX4_cost 46 = .ok (.iconst 0, 1) := by decide +kernel
theorem dX4_cost_47 : decode cX4_cost 47 = .ok (.iadd, 1) := by decide +kernel
theorem dX4_cost_48 : decode cX4_cost 48 = .ok (.istore_n 2, 1) := by decide +kernel
theorem dX4_cost_49 : decode cX4_cost 49 = .ok (.iinc 3 1, 3) := by decide +kernel
theorem dX4_cost_52 : decode cX4_cost 52 = .ok (.goto (-48), 3) := by decide +kernel
theorem dX4_cost_55 : decode cX4_cost 55 = .ok (.iload_n 2, 1) := by decide +kernel
theorem dX4_cost_56 : decode cX4_cost 56 = .ok (.ireturn, 1) := by decide +kernel
theorem dX5_init_0 : decode cX5_init 0 = .ok (.aload_n 0, 1) := by decide +kernel
theorem dX5_init_1 : decode cX5_init 1 = .ok (.invokespecial 3, 3) := by decide +kernel
theorem dX5_init_4 : decode cX5_init 4 = .ok (.aload_n 0, 1) := by decide +kernel
theorem dX5_init_5 : decode cX5_init 5 = .ok (.bipush 8, 2) := by decide +kernel
theorem dX5_init_7 : decode cX5_init 7 = .ok (.bipush 8, 2) := by decide +kernel
theorem dX5_init_9 : decode cX5_init 9 = .ok (.multianewarray 9 2, 4) := by decide +kernel
theorem dX5_init_13 : decode cX5_init 13 = .ok (.putfield 11, 3) := by decide +kernel
theorem dX5_init_16 : decode cX5_init 16 = .ok (.return_, 1) := by decide +kernel
theorem dX5_isLook_0 : decode cX5_isLook 0 = .ok (.iload_n 0, 1) := by decide +kernel
theorem dX5_isLook_1 : decode cX5_isLook 1 = .ok (.getstatic 16, 3) := by decide +kernel
theorem dX5_isLook_4 : decode cX5_isLook 4 = .ok (.arraylength, 1) := by decide +kernel
theorem dX5_isLook_5 : decode cX5_isLook 5 = .ok (.invokestatic 20, 3) := by decide +kernel
theorem dX5_isLook_8 : decode cX5_isLook 8 = .ok (.ifCond .eq 25, 3) := by decide +kernel
theorem dX5_isLook_11 : decode cX5_isLook 11 = .ok (.iload_n 1, 1) := by decide +kernel
theorem dX5_isLook_12 : decode cX5_isLook 12 = .ok (.getstatic 16, 3) := by decide +kernel
theorem dX5_isLook_15 : decode cX5_isLook 15 = .ok (.iload_n 0, 1) := by decide +kernel
theorem dX5_isLook_16 : decode cX5_isLook 16 = .ok (.baload, 1) := by decide +kernel
theorem dX5_isLook_17 : decode cX5_isLook 17 = .ok (.if_icmp .lt 16, 3) := by decide +kernel
theorem dX5_isLook_20 : decode cX5_isLook 20 = .ok (.iload_n 1, 1) := by decide +kernel
theorem dX5_isLook_21 : decode cX5_isLook 21 = .ok (.getstatic 24, 3) := by decide +kernel
theorem dX5_isLook_24 : decode cX5_isLook 24 = .ok (.iload_n 0, 1) := by decide +kernel
theorem dX5_isLook_25 : decode cX5_isLook 25 = .ok (.baload, 1) := by decide +kernel
theorem dX5_isLook_26 : decode cX5_isLook 26 = .ok (.if_icmp .gt 7, 3) := by decide +kernel
theorem dX5_isLook_29 : decode cX5_isLook 29 = .ok (.iconst 1, 1) := by decide +kernel
theorem dX5_isLook_30 : decode cX5_isLook 30 = .ok (.goto 4, 3) := by decide +kernel
theorem dX5_isLook_33 : decode cX5_isLook 33 = .ok (.iconst 0, 1) := by decide +kernel
theorem dX5_isLook_34 : decode cX5_isLook 34 = .ok (.ireturn, 1) := by decide +kernel
theorem dX5_has_0 : decode cX5_has 0 = .ok (.iload_n 1, 1) := by decide +kernel
theorem dX5_has_1 : decode cX5_has 1 = .ok (.aload_n 0, 1) := by decide +kernel
theorem dX5_has_2 : decode cX5_has 2 = .ok (.getfield 27, 3) := by decide +kernel
theorem dX5_has_5 : decode cX5_has 5 = .ok (.invokestatic 20, 3) := by decide +kernel
theorem dX5_has_8 : decode cX5_has 8 = .ok (.ireturn, 1) := by decide +kernel
theorem dX5_all_0 : decode cX5_all 0 = .ok (.iconst 1, 1) := by decide +kernel
theorem dX5_all_1 : decode cX5_all 1 = .ok (.aload_n 0, 1) := by decide +kernel
theorem dX5_all_2 : decode cX5_all 2 = .ok (.getfield 27, 3) := by decide +kernel
theorem dX5_all_5 : decode cX5_all 5 = .ok (.ishl, 1) := by decide +kernel
theorem dX5_all_6 : decode cX5_all 6 = .ok (.iconst 1, 1) := by decide +kernel
theorem dX5_all_7 : decode cX5_all 7 = .ok (.isub, 1) := by decide +kernel
theorem dX5_all_8 : decode cX5_all 8 = .ok (.ireturn, 1) := by decide +kernel
theorem dX5_isTaken_0 : decode cX5_isTaken 0 = .ok (.aload_n 0, 1) := by decide +kernel
theorem dX5_isTaken_1 : decode cX5_isTaken 1 = .ok (.iconst 4, 1) := by decide +kernel
theorem dX5_isTaken_2 : decode cX5_isTaken 2 = .ok (.iload_n 1, 1) := by decide +kernel
theorem dX5_isTaken_3 : decode cX5_isTaken 3 = .ok (.invokevirtual 31, 3) := by decide +kernel
theorem dX5_isTaken_6 : decode cX5_isTaken 6 = .ok (.ifCond .eq 7, 3) := by decide +kernel
theorem dX5_isTaken_9 : decode cX5_isTaken 9 = .ok (.iconst 1, 1) := by decide +kernel
theorem dX5_isTaken_10 : decode cX5_isTaken 10 = .ok (.goto 4, 3) := by decide +kernel
theorem dX5_isTaken_13 : decode cX5_isTaken 13 = .ok (.iconst 0, 1) := by decide +kernel
theorem dX5_isTaken_14 : decode cX5_isTaken 14 = .ok (.ireturn, 1) := by decide +kernel
theorem dX5_add_0 : decode cX5_add 0 = .ok (.aload_n 0, 1) := by decide +kernel
theorem dX5_add_1 : decode cX5_add 1 = .ok (.getfield 27, 3) := by decide +kernel
theorem dX5_add_4 : decode cX5_add 4 = .ok (.bipush 8, 2) := by decide +kernel
theorem dX5_add_6 : decode cX5_add 6 = .ok (.if_icmp .lt 6, 3) := by decide +kernel
theorem dX5_add_9 : decode cX5_add 9 = .ok (.bipush (-5), 2) := by decide +kernel
theorem dX5_add_11 : decode cX5_add 11 = .ok (.ireturn, 1) := by decide +kernel
theorem dX5_add_12 : decode cX5_add 12 = .ok (.aload_n 0, 1) := by decide +kernel
theorem dX5_add_13 : decode cX5_add 13 = .ok (.getfield 11, 3) := by decide +kernel
theorem dX5_add_16 : decode cX5_add 16 = .ok (.iconst 0, 1) := by decide +kernel
theorem dX5_add_17 : decode cX5_add 17 = .ok (.aaload, 1) := by decide +kernel
theorem dX5_add_18 : decode cX5_add 18 = .ok (.aload_n 0, 1) := by decide +kernel
theorem dX5_add_19 : decode cX5_add 19 = .ok (.getfield 27, 3) := by decide +kernel
theorem dX5_add_22 : decode cX5_add 22 = .ok (.iload_n 1, 1) := by decide +kernel
theorem dX5_add_23 : decode cX5_add 23 = .ok (.iastore, 1) := by decide +kernel
theorem dX5_add_24 : decode cX5_add 24 = .ok (.aload_n 0, 1) := by decide +kernel
theorem dX5_add_25 : decode cX5_add 25 = .ok (.getfield 11, 3) := by decide +kernel
theorem dX5_add_28 : decode cX5_add 28 = .ok (.iconst 1, 1) := by decide +kernel
theorem dX5_add_29 : decode cX5_add 29 = .ok (.aaload, 1) := by decide +kernel
theorem dX5_add_30 : decode cX5_add 30 = .ok (.aload_n 0, 1) := by decide +kernel
theorem dX5_add_31 : decode cX5_add 31 = .ok (.getfield 27, 3) := by decide +kernel
theorem dX5_add_34 : decode cX5_add 34 = .ok (.iload_n 2, 1) := by decide +kernel
theorem dX5_add_35 : decode cX5_add 35 = .ok (.iastore, 1) := by decide +kernel
theorem dX5_add_36 : decode cX5_add 36 = .ok (.aload_n 0, 1) := by decide +kernel
theorem dX5_add_37 : decode cX5_add 37 = .ok (.getfield 11, 3) := by decide +kernel
theorem dX5_add_40 : decode cX5_add 40 = .ok (.iconst 2, 1) := by decide +kernel
theorem dX5_add_41 : decode cX5_add 41 = .ok (.aaload, 1) := by decide +kernel
theorem dX5_add_42 : decode cX5_add 42 = .ok (.aload_n 0, 1) := by decide +kernel
theorem dX5_add_43 : decode cX5_add 43 = .ok (.getfield 27, 3) := by decide +kernel
theorem dX5_add_46 : decode cX5_add 46 = .ok (.iload_n 3, 1) := by decide +kernel
theorem dX5_add_47 : decode cX5_add 47 = .ok (.iastore, 1) := by decide +kernel
theorem dX5_add_48 : decode cX5_add 48 = .ok (.aload_n 0, 1) := by decide +kernel
theorem dX5_add_49 : decode cX5_add 49 = .ok (.getfield 11, 3) := by decide +kernel
theorem dX5_add_52 : decode cX5_add 52 = .ok (.iconst 4, 1) := by decide +kernel
theorem dX5_add_53 : decode cX5_add 53 = .ok (.aaload, 1) := by decide +kernel
theorem dX5_add_54 : decode cX5_add 54 = .ok (.aload_n 0, 1) := by decide +kernel
theorem dX5_add_55 : decode cX5_add 55 = .ok (.getfield 27, 3) := by decide +kernel
theorem dX5_add_58 : decode cX5_add 58 = .ok (.iload 4, 2) := by decide +kernel
theorem dX5_add_60 : decode cX5_add 60 = .ok (.iastore, 1) := by decide +kernel
theorem dX5_add_61 : decode cX5_add 61 = .ok (.aload_n 0, 1) := by decide +kernel
theorem dX5_add_62 : decode cX5_add 62 = .ok (.iconst 4, 1) := by decide +kernel
theorem dX5_add_63 : decode cX5_add 63 = .ok (.iload 4, 2) := by decide +kernel
theorem dX5_add_65 : decode cX5_add 65 = .ok (.iconst 1, 1) := by decide +kernel
theorem dX5_add_66 : decode cX5_add 66 = .ok (.isub, 1) := by decide +kernel
theorem dX5_add_67 : decode cX5_add 67 = .ok (.invokevirtual 31, 3) := by decide +kernel
theorem dX5_add_70 : decode cX5_add 70 = .ok (.aload_n 0, 1) := by decide +kernel
theorem dX5_add_71 : decode cX5_add 71 = .ok (.iconst 4, 1) := by decide +kernel
theorem dX5_add_72 : decode cX5_add 72 = .ok (.iload 4, 2) := by decide +kernel
theorem dX5_add_74 : decode cX5_add 74 = .ok (.iconst 1, 1) := by decide +kernel
theorem dX5_add_75 : decode cX5_add 75 = .ok (.iadd, 1) := by decide +kernel
theorem dX5_add_76 : decode cX5_add 76 = .ok (.invokevirtual 31, 3) := by decide +kernel
theorem dX5_add_79 : decode cX5_add 79 = .ok (.ior, 1) := by decide +kernel
theorem dX5_add_80 : decode cX5_add 80 = .ok (.istore 5, 2) := by decide +kernel
theorem dX5_add_82 : decode cX5_add 82 = .ok (.aload_n 0, 1) := by decide +kernel
theorem dX5_add_83 : decode cX5_add 83 = .ok (.getfield 11, 3) := by decide +kernel
theorem dX5_add_86 : decode cX5_add 86 = .ok (.iconst 5, 1) := by decide +kernel
theorem dX5_add_87 : decode cX5_add 87 = .ok (.aaload, 1) := by decide +kernel
theorem dX5_add_88 : decode cX5_add 88 = .ok (.aload_n 0, 1) := by decide +kernel
theorem dX5_add_89 : decode cX5_add 89 = .ok (.getfield 27, 3) := by decide +kernel
theorem dX5_add_92 : decode cX5_add 92 = .ok (.iload 5, 2) := by decide +kernel
theorem dX5_add_94 : decode cX5_add 94 = .ok (.iastore, 1) := by decide +kernel
theorem dX5_add_95 : decode cX5_add 95 = .ok (.iconst 0, 1) := by decide +kernel
theorem dX5_add_96 : decode cX5_add 96 = .ok (.istore 6, 2) := by decide +kernel
theorem dX5_add_98 : decode cX5_add 98 = .ok (.iload 6, 2) := by decide +kernel
theorem dX5_add_100 : decode cX5_add 100 = .ok (.aload_n 0, 1) := by decide +kernel
theorem dX5_add_101 : decode cX5_add 101 = .ok (.getfield 27, 3) := by decide +kernel
theorem dX5_add_104 : decode cX5_add 104 = .ok (.if_icmp .ge 33, 3) := by decide +kernel
theorem dX5_add_107 : decode cX5_add 107 = .ok (.aload_n 0, 1) := by decide +kernel
theorem dX5_add_108 : decode cX5_add 108 = .ok (.getfield 11, 3) := by decide +kernel
theorem dX5_add_111 : decode cX5_add 111 = .ok (.iconst 5, 1) := by decide +kernel
theorem dX5_add_112 : decode cX5_add 112 = .ok (.aaload, 1) := by decide +kernel
theorem dX5_add_113 : decode cX5_add 113 = .ok (.iload 6, 2) := by decide +kernel
theorem dX5_add_115 : decode cX5_add 115 = .ok (.dup2, 1) := by decide +kernel
theorem dX5_add_116 : decode cX5_add 116 = .ok (.iaload, 1) := by decide +kernel
theorem dX5_add_117 : decode cX5_add 117 = .ok (.iload 5, 2) := by decide +kernel
theorem dX5_add_119 : decode cX5_add 119 = .ok (.iload 6, 2) := by decide +kernel
theorem dX5_add_121 : decode cX5_add 121 = .ok (.ishr, 1) := by decide +kernel
theorem dX5_add_122 : decode cX5_add 122 = .ok (.iconst 1, 1) := by decide +kernel
theorem dX5_add_123 : decode cX5_add 123 = .ok (.iand, 1) := by decide +kernel
theorem dX5_add_124 : decode cX5_add 124 = .ok (.aload_n 0, 1) := by decide +kernel
theorem dX5_add_125 : decode cX5_add 125 = .ok (.getfield 27, 3) := by decide +kernel
theorem dX5_add_128 : decode cX5_add 128 = .ok (.ishl, 1) := by decide +kernel
theorem dX5_add_129 : decode cX5_add 129 = .ok (.ior, 1) := by decide +kernel
theorem dX5_add_130 : decode cX5_add 130 = .ok (.iastore, 1) := by decide +kernel
theorem dX5_add_131 : decode cX5_add 131 = .ok (.iinc 6 1, 3) := by decide +kernel
theorem dX5_add_134 : decode cX5_add 134 = .ok (.goto (-36), 3) := by decide +kernel
theorem dX5_add_137 : decode cX5_add 137 = .ok (.aload_n 0, 1) := by decide +kernel
theorem dX5_add_138 : decode cX5_add 138 = .ok (.dup, 1) := by decide +kernel
theorem dX5_add_139 : decode cX5_add 139 = .ok (.getfield 27, 3) := by decide +kernel
theorem dX5_add_142 : decode cX5_add 142 = .ok (.dup_x1, 1) := by decide +kernel
theorem dX5_add_143 : decode cX5_add 143 = .ok (.iconst 1, 1) := by decide +kernel
theorem dX5_add_144 : decode cX5_add 144 = .ok (.iadd, 1) := by decide +kernel
theorem dX5_add_145 : decode cX5_add 145 = .ok (.putfield 27, 3) := by decide +kernel
theorem dX5_add_148 : decode cX5_add 148 = .ok (.ireturn, 1) := by decide +kernel
theorem dX5_isTied_0 : decode cX5_isTied 0 = .ok (.aload_n 0, 1) := by decide +kernel
theorem dX5_isTied_1 : decode cX5_isTied 1 = .ok (.iload_n 1, 1) := by decide +kernel
theorem dX5_isTied_2 : decode cX5_isTied 2 = .ok (.invokevirtual 35, 3) := by decide +kernel
theorem dX5_isTied_5 : decode cX5_isTied 5 = .ok (.ifCond .eq 32, 3) := by decide +kernel
theorem dX5_isTied_8 : decode cX5_isTied 8 = .ok (.aload_n 0, 1) := by decide +kernel
theorem dX5_isTied_9 : decode cX5_isTied 9 = .ok (.iload_n 2, 1) := by decide +kernel
theorem dX5_isTied_10 : decode cX5_isTied 10 = .ok (.invokevirtual 35, 3) := by decide +kernel
theorem dX5_isTied_13 : decode cX5_isTied 13 = .ok (.ifCond .eq 24, 3) := by decide +kernel
theorem dX5_isTied_16 : decode cX5_isTied 16 = .ok (.aload_n 0, 1) := by decide +kernel
theorem dX5_isTied_17 : decode cX5_isTied 17 = .ok (.getfield 11, 3) := by decide +kernel
theorem dX5_isTied_20 : decode cX5_isTied 20 = .ok (.bipush 6, 2) := by decide +kernel
theorem dX5_isTied_22 : decode cX5_isTied 22 = .ok (.aaload, 1) := by decide +kernel
theorem dX5_isTied_23 : decode cX5_isTied 23 = .ok (.iload_n 1, 1) := by decide +kernel
theorem dX5_isTied_24 : decode cX5_isTied 24 = .ok (.iaload, 1) := by decide +kernel
theorem dX5_isTied_25 : decode cX5_isTied 25 = .ok (.iload_n 2, 1) := by decide +kernel
theorem dX5_isTied_26 : decode cX5_isTied 26 = .ok (.ishr, 1) := by decide +kernel
theorem dX5_isTied_27 : decode cX5_isTied 27 = .ok (.iconst 1, 1) := by decide +kernel
theorem dX5_isTied_28 : decode cX5_isTied 28 = .ok (.iand, 1) := by decide +kernel
theorem dX5_isTied_29 : decode cX5_isTied 29 = .ok (.iconst 1, 1) := by decide +kernel
theorem dX5_isTied_30 : decode cX5_isTied 30 = .ok (.if_icmp .ne 7, 3) := by decide +kernel
theorem dX5_isTied_33 : decode cX5_isTied 33 = .ok (.iconst 1, 1) := by decide +kernel
theorem dX5_isTied_34 : decode cX5_isTied 34 = .ok (.goto 4, 3) := by decide +kernel
theorem dX5_isTied_37 : decode cX5_isTied 37 = .ok (.iconst 0, 1) := by decide +kernel
theorem dX5_isTied_38 : decode cX5_isTied 38 = .ok (.ireturn, 1) := by decide +kernel
theorem dX5_addTie_0 : decode cX5_addTie 0 = .ok (.aload_n 0, 1) := by decide +kernel
theorem dX5_addTie_1 : decode cX5_addTie 1 = .ok (.iload_n 1, 1) := by decide +kernel
theorem dX5_addTie_2 : decode cX5_addTie 2 = .ok (.invokevirtual 35, 3) := by decide +kernel
theorem dX5_addTie_5 : decode cX5_addTie 5 = .ok (.ifCond .eq 51, 3) := by decide +kernel
theorem dX5_addTie_8 : decode cX5_addTie 8 = .ok (.aload_n 0, 1) := by decide +kernel
theorem dX5_addTie_9 : decode cX5_addTie 9 = .ok (.iload_n 2, 1) := by decide +kernel
theorem dX5_addTie_10 : decode cX5_addTie 10 = .ok (.invokevirtual 35, 3) := by decide +kernel
theorem dX5_addTie_13 : decode cX5_addTie 13 = .ok (.ifCond .eq 43, 3) := by decide +kernel
theorem dX5_addTie_16 : decode cX5_addTie 16 = .ok (.aload_n 0, 1) := by decide +kernel
theorem dX5_addTie_17 : decode cX5_addTie 17 = .ok (.getfield 11, 3) := by decide +kernel
theorem dX5_addTie_20 : decode cX5_addTie 20 = .ok (.bipush 6, 2) := by decide +kernel
theorem dX5_addTie_22 : decode cX5_addTie 22 = .ok (.aaload, 1) := by decide +kernel
theorem dX5_addTie_23 : decode cX5_addTie 23 = .ok (.iload_n 1, 1) := by decide +kernel
theorem dX5_addTie_24 : decode cX5_addTie 24 = .ok (.dup2, 1) := by decide +kernel
theorem dX5_addTie_25 : decode cX5_addTie 25 = .ok (.iaload, 1) := by decide +kernel
theorem dX5_addTie_26 : decode cX5_addTie 26 = .ok (.iconst 1, 1) := by decide +kernel
theorem dX5_addTie_27 : decode cX5_addTie 27 = .ok (.iload_n 2, 1) := by decide +kernel
theorem dX5_addTie_28 : decode cX5_addTie 28 = .ok (.ishl, 1) := by decide +kernel
theorem dX5_addTie_29 : decode cX5_addTie 29 = .ok (.ior, 1) := by decide +kernel
theorem dX5_addTie_30 : decode cX5_addTie 30 = .ok (.iastore, 1) := by decide +kernel
theorem dX5_addTie_31 : decode cX5_addTie 31 = .ok (.aload_n 0, 1) := by decide +kernel
theorem dX5_addTie_32 : decode cX5_addTie 32 = .ok (.getfield 11, 3) := by decide +kernel
theorem dX5_addTie_35 : decode cX5_addTie 35 = .ok (.bipush 7, 2) := by decide +kernel
theorem dX5_addTie_37 : decode cX5_addTie 37 = .ok (.aaload, 1) := by decide +kernel
theorem dX5_addTie_38 : decode cX5_addTie 38 = .ok (.iload_n 2, 1) := by decide +kernel
theorem dX5_addTie_39 : decode cX5_addTie 39 = .ok (.dup2, 1) := by decide +kernel
theorem dX5_addTie_40 : decode cX5_addTie 40 = .ok (.iaload, 1) := by decide +kernel
theorem dX5_addTie_41 : decode cX5_addTie 41 = .ok (.iconst 1, 1) := by decide +kernel
theorem dX5_addTie_42 : decode cX5_addTie 42 = .ok (.iload_n 1, 1) := by decide +kernel
theorem dX5_addTie_43 : decode cX5_addTie 43 = .ok (.ishl, 1) := by decide +kernel
theorem dX5_addTie_44 : decode cX5_addTie 44 = .ok (.ior, 1) := by decide +kernel
theorem dX5_addTie_45 : decode cX5_addTie 45 = .ok (.iastore, 1) := by decide +kernel
theorem dX5_addTie_46 : decode cX5_addTie 46 = .ok (.aload_n 0, 1) := by decide +kernel
theorem dX5_addTie_47 : decode cX5_addTie 47 = .ok (.dup, 1) := by decide +kernel
theorem dX5_addTie_48 : decode cX5_addTie 48 = .ok (.getfield 39, 3) := by decide +kernel
theorem dX5_addTie_51 : decode cX5_addTie 51 = .ok (.iconst 1, 1) := by decide +kernel
theorem dX5_addTie_52 : decode cX5_addTie 52 = .ok (.iadd, 1) := by decide +kernel
theorem dX5_addTie_53 : decode cX5_addTie 53 = .ok (.putfield 39, 3) := by decide +kernel
theorem dX5_addTie_56 : decode cX5_addTie 56 = .ok (.aload_n 0, 1) := by decide +kernel
theorem dX5_addTie_57 : decode cX5_addTie 57 = .ok (.getfield 39, 3) := by decide +kernel
theorem dX5_addTie_60 : decode cX5_addTie 60 = .ok (.ireturn, 1) := by decide +kernel
theorem dX5_named_0 : decode cX5_named 0 = .ok (.iload_n 1, 1) := by decide +kernel
theorem dX5_named_1 : decode cX5_named 1 = .ok (.bipush 7, 2) := by decide +kernel
theorem dX5_named_3 : decode cX5_named 3 = .ok (.iand, 1) := by decide +kernel
theorem dX5_named_4 : decode cX5_named 4 = .ok (.istore_n 2, 1) := by decide +kernel
theorem dX5_named_5 : decode cX5_named 5 = .ok (.iload_n 1, 1) := by decide +kernel
theorem dX5_named_6 : decode cX5_named 6 = .ok (.iconst 3, 1) := by decide +kernel
theorem dX5_named_7 : decode cX5_named 7 = .ok (.ishr, 1) := by decide +kernel
theorem dX5_named_8 : decode cX5_named 8 = .ok (.tableswitch 47 0 2 #[28, 33, 40], 28) := by decide +kernel
theorem dX5_named_36 : decode cX5_named 36 = .ok (.aload_n 0, 1) := by decide +kernel
theorem dX5_named_37 : decode cX5_named 37 = .ok (.invokevirtual 42, 3) := by decide +kernel
theorem dX5_named_40 : decode cX5_named 40 = .ok (.ireturn, 1) := by decide +kernel
theorem dX5_named_41 : decode cX5_named 41 = .ok (.aload_n 0, 1) := by decide +kernel
theorem dX5_named_42 : decode cX5_named 42 = .ok (.iconst 0, 1) := by decide +kernel
theorem dX5_named_43 : decode cX5_named 43 = .ok (.iload_n 2, 1) := by decide +kernel
theorem dX5_named_44 : decode cX5_named 44 = .ok (.invokevirtual 31, 3) := by decide +kernel
theorem dX5_named_47 : decode cX5_named 47 = .ok (.ireturn, 1) := by decide +kernel
theorem dX5_named_48 : decode cX5_named 48 = .ok (.aload_n 0, 1) := by decide +kernel
theorem dX5_named_49 : decode cX5_named 49 = .ok (.iconst 1, 1) := by decide +kernel
theorem dX5_named_50 : decode cX5_named 50 = .ok (.iload_n 2, 1) := by decide +kernel
theorem dX5_named_51 : decode cX5_named 51 = .ok (.invokevirtual 31, 3) := by decide +kernel
theorem dX5_named_54 : decode cX5_named 54 = .ok (.ireturn, 1) := by decide +kernel
theorem dX5_named_55 : decode cX5_named 55 = .ok (.aload_n 0, 1) := by decide +kernel
theorem dX5_named_56 : decode cX5_named 56 = .ok (.iload_n 2, 1) := by decide +kernel
theorem dX5_named_57 : decode cX5_named 57 = .ok (.invokevirtual 46, 3) := by decide +kernel
theorem dX5_named_60 : decode cX5_named 60 = .ok (.ireturn, 1) := by decide +kernel
theorem dX5_turned_0 : decode cX5_turned 0 = .ok (.iload_n 1, 1) := by decide +kernel
theorem dX5_turned_1 : decode cX5_turned 1 = .ok (.tableswitch 121 4 13 #[55, 121, 121, 121, 64, 71, 79, 90, 101, 107], 55) := by decide +kernel
theorem dX5_turned_56 : decode cX5_turned 56 = .ok (.aload_n 0, 1) := by decide +kernel
theorem dX5_turned_57 : decode cX5_turned 57 = .ok (.invokevirtual 42, 3) := by decide +kernel
theorem dX5_turned_60 : decode cX5_turned 60 = .ok (.iload_n 2, 1) := by decide +kernel
theorem dX5_turned_61 : decode cX5_turned 61 = .ok (.iconst (-1), 1) := by decide +kernel
theorem dX5_turned_62 : decode cX5_turned 62 = .ok (.ixor, 1) := by decide +kernel
theorem dX5_turned_63 : decode cX5_turned 63 = .ok (.iand, 1) := by decide +kernel
theorem dX5_turned_64 : decode cX5_turned 64 = .ok (.ireturn, 1) := by decide +kernel
theorem dX5_turned_65 : decode cX5_turned 65 = .ok (.aload_n 0, 1) := by decide +kernel
theorem dX5_turned_66 : decode cX5_turned 66 = .ok (.iconst 5, 1) := by decide +kernel
theorem dX5_turned_67 : decode cX5_turned 67 = .ok (.iload_n 2, 1) := by decide +kernel
theorem dX5_turned_68 : decode cX5_turned 68 = .ok (.invokevirtual 50, 3) := by decide +kernel
theorem dX5_turned_71 : decode cX5_turned 71 = .ok (.ireturn, 1) := by decide +kernel
theorem dX5_turned_72 : decode cX5_turned 72 = .ok (.aload_n 0, 1) := by decide +kernel
theorem dX5_turned_73 : decode cX5_turned 73 = .ok (.bipush 6, 2) := by decide +kernel
theorem dX5_turned_75 : decode cX5_turned 75 = .ok (.iload_n 2, 1) := by decide +kernel
theorem dX5_turned_76 : decode cX5_turned 76 = .ok (.invokevirtual 50, 3) := by decide +kernel
theorem dX5_turned_79 : decode cX5_turned 79 = .ok (.ireturn, 1) := by decide +kernel
theorem dX5_turned_80 : decode cX5_turned 80 = .ok (.aload_n 0, 1) := by decide +kernel
theorem dX5_turned_81 : decode cX5_turned 81 = .ok (.iload_n 2, 1) := by decide +kernel
theorem dX5_turned_82 : decode cX5_turned 82 = .ok (.aload_n 0, 1) := by decide +kernel
theorem dX5_turned_83 : decode cX5_turned 83 = .ok (.iload_n 2, 1) := by decide +kernel
theorem dX5_turned_84 : decode cX5_turned 84 = .ok (.invokevirtual 53, 3) := by decide +kernel
theorem dX5_turned_87 : decode cX5_turned 87 = .ok (.invokevirtual 56, 3) := by decide +kernel
theorem dX5_turned_90 : decode cX5_turned 90 = .ok (.ireturn, 1) := by decide +kernel
theorem dX5_turned_91 : decode cX5_turned 91 = .ok (.aload_n 0, 1) := by decide +kernel
theorem dX5_turned_92 : decode cX5_turned 92 = .ok (.iload_n 2, 1) := by decide +kernel
theorem dX5_turned_93 : decode cX5_turned 93 = .ok (.aload_n 0, 1) := by decide +kernel
theorem dX5_turned_94 : decode cX5_turned 94 = .ok (.iload_n 2, 1) := by decide +kernel
theorem dX5_turned_95 : decode cX5_turned 95 = .ok (.invokevirtual 59, 3) := by decide +kernel
theorem dX5_turned_98 : decode cX5_turned 98 = .ok (.invokevirtual 56, 3) := by decide +kernel
theorem dX5_turned_101 : decode cX5_turned 101 = .ok (.ireturn, 1) := by decide +kernel
theorem dX5_turned_102 : decode cX5_turned 102 = .ok (.aload_n 0, 1) := by decide +kernel
theorem dX5_turned_103 : decode cX5_turned 103 = .ok (.iload_n 2, 1) := by decide +kernel
theorem dX5_turned_104 : decode cX5_turned 104 = .ok (.invokevirtual 62, 3) := by decide +kernel
theorem dX5_turned_107 : decode cX5_turned 107 = .ok (.ireturn, 1) := by decide +kernel
theorem dX5_turned_108 : decode cX5_turned 108 = .ok (.aload_n 0, 1) := by decide +kernel
theorem dX5_turned_109 : decode cX5_turned 109 = .ok (.iload_n 2, 1) := by decide +kernel
theorem dX5_turned_110 : decode cX5_turned 110 = .ok (.aload_n 0, 1) := by decide +kernel
theorem dX5_turned_111 : decode cX5_turned 111 = .ok (.iload_n 2, 1) := by decide +kernel
theorem dX5_turned_112 : decode cX5_turned 112 = .ok (.invokevirtual 62, 3) := by decide +kernel
theorem dX5_turned_115 : decode cX5_turned 115 = .ok (.iconst (-1), 1) := by decide +kernel
theorem dX5_turned_116 : decode cX5_turned 116 = .ok (.ixor, 1) := by decide +kernel
theorem dX5_turned_117 : decode cX5_turned 117 = .ok (.iand, 1) := by decide +kernel
theorem dX5_turned_118 : decode cX5_turned 118 = .ok (.invokevirtual 62, 3) := by decide +kernel
theorem dX5_turned_121 : decode cX5_turned 121 = .ok (.ireturn, 1) := by decide +kernel
theorem dX5_turned_122 : decode cX5_turned 122 = .ok (.iload_n 2, 1) := by decide +kernel
theorem dX5_turned_123 : decode cX5_turned 123 = .ok (.invokestatic 65, 3) := by decide +kernel
theorem dX5_turned_126 : decode cX5_turned 126 = .ok (.iconst 1, 1) := by decide +kernel
theorem dX5_turned_127 : decode cX5_turned 127 = .ok (.if_icmp .ne 7, 3) := by decide +kernel
theorem dX5_turned_130 : decode cX5_turned 130 = .ok (.iload_n 2, 1) := by decide +kernel
theorem dX5_turned_131 : decode cX5_turned 131 = .ok (.goto 4, 3) := by decide +kernel
theorem dX5_turned_134 : decode cX5_turned 134 = .ok (.iconst 0, 1) := by decide +kernel
theorem dX5_turned_135 : decode cX5_turned 135 = .ok (.ireturn, 1) := by decide +kernel
theorem dX5_thoseWith_0 : decode cX5_thoseWith 0 = .ok (.iconst 0, 1) := by decide +kernel
theorem dX5_thoseWith_1 : decode cX5_thoseWith 1 = .ok (.istore_n 3, 1) := by decide +kernel
theorem dX5_thoseWith_2 : decode cX5_thoseWith 2 = .ok (.iconst 0, 1) := by decide +kernel
theorem dX5_thoseWith_3 : decode cX5_thoseWith 3 = .ok (.istore 4, 2) := by decide +kernel
theorem dX5_thoseWith_5 : decode cX5_thoseWith 5 = .ok (.iload 4, 2) := by decide +kernel
theorem dX5_thoseWith_7 : decode cX5_thoseWith 7 = .ok (.aload_n 0, 1) := by decide +kernel
theorem dX5_thoseWith_8 : decode cX5_thoseWith 8 = .ok (.getfield 27, 3) := by decide +kernel
theorem dX5_thoseWith_11 : decode cX5_thoseWith 11 = .ok (.if_icmp .ge 36, 3) := by decide +kernel
theorem dX5_thoseWith_14 : decode cX5_thoseWith 14 = .ok (.iload 4, 2) := by decide +kernel
theorem dX5_thoseWith_16 : decode cX5_thoseWith 16 = .ok (.bipush 8, 2) := by decide +kernel
theorem dX5_thoseWith_18 : decode cX5_thoseWith 18 = .ok (.if_icmp .ge 29, 3) := by decide +kernel
theorem dX5_thoseWith_21 : decode cX5_thoseWith 21 = .ok (.aload_n 0, 1) := by decide +kernel
theorem dX5_thoseWith_22 : decode cX5_thoseWith 22 = .ok (.getfield 11, 3) := by decide +kernel
theorem dX5_thoseWith_25 : decode cX5_thoseWith 25 = .ok (.iload_n 1, 1) := by decide +kernel
theorem dX5_thoseWith_26 : decode cX5_thoseWith 26 = .ok (.aaload, 1) := by decide +kernel
theorem dX5_thoseWith_27 : decode cX5_thoseWith 27 = .ok (.iload 4, 2) := by decide +kernel
theorem dX5_thoseWith_29 : decode cX5_thoseWith 29 = .ok (.iaload, 1) := by decide +kernel
theorem dX5_thoseWith_30 : decode cX5_thoseWith 30 = .ok (.iload_n 2, 1) := by decide +kernel
theorem dX5_thoseWith_31 : decode cX5_thoseWith 31 = .ok (.if_icmp .ne 10, 3) := by decide +kernel
theorem dX5_thoseWith_34 : decode cX5_thoseWith 34 = .ok (.iload_n 3, 1) := by decide +kernel
theorem dX5_thoseWith_35 : decode cX5_thoseWith 35 = .ok (.iconst 1, 1) := by decide +kernel
theorem dX5_thoseWith_36 : decode cX5_thoseWith 36 = .ok (.iload 4, 2) := by decide +kernel
theorem dX5_thoseWith_38 : decode cX5_thoseWith 38 = .ok (.ishl, 1) := by decide +kernel
theorem dX5_thoseWith_39 : decode cX5_thoseWith 39 = .ok (.ior, 1) := by decide +kernel
theorem dX5_thoseWith_40 : decode cX5_thoseWith 40 = .ok (.istore_n 3, 1) := by decide +kernel
theorem dX5_thoseWith_41 : decode cX5_thoseWith 41 = .ok (.iinc 4 1, 3) := by decide +kernel
theorem dX5_thoseWith_44 : decode cX5_thoseWith 44 = .ok (.goto (-39), 3) := by decide +kernel
theorem dX5_thoseWith_47 : decode cX5_thoseWith 47 = .ok (.iload_n 3, 1) := by decide +kernel
theorem dX5_thoseWith_48 : decode cX5_thoseWith 48 = .ok (.ireturn, 1) := by decide +kernel
theorem dX5_thoseMarked_0 : decode cX5_thoseMarked 0 = .ok (.iconst 0, 1) := by decide +kernel
theorem dX5_thoseMarked_1 : decode cX5_thoseMarked 1 = .ok (.istore_n 2, 1) := by decide +kernel
theorem dX5_thoseMarked_2 : decode cX5_thoseMarked 2 = .ok (.iconst 0, 1) := by decide +kernel
theorem dX5_thoseMarked_3 : decode cX5_thoseMarked 3 = .ok (.istore_n 3, 1) := by decide +kernel
theorem dX5_thoseMarked_4 : decode cX5_thoseMarked 4 = .ok (.iload_n 3, 1) := by decide +kernel
theorem dX5_thoseMarked_5 : decode cX5_thoseMarked 5 = .ok (.aload_n 0, 1) := by decide +kernel
theorem dX5_thoseMarked_6 : decode cX5_thoseMarked 6 = .ok (.getfield 27, 3) := by decide +kernel
theorem dX5_thoseMarked_9 : decode cX5_thoseMarked 9 = .ok (.if_icmp .ge 32, 3) := by decide +kernel
theorem dX5_thoseMarked_12 : decode cX5_thoseMarked 12 = .ok (.iload_n 3, 1) := by decide +kernel
theorem dX5_thoseMarked_13 : decode cX5_thoseMarked 13 = .ok (.bipush 8, 2) := by decide +kernel
theorem dX5_thoseMarked_15 : decode cX5_thoseMarked 15 = .ok (.if_icmp .ge 26, 3) := by decide +kernel
theorem dX5_thoseMarked_18 : decode cX5_thoseMarked 18 = .ok (.iload_n 2, 1) := by decide +kernel
theorem dX5_thoseMarked_19 : decode cX5_thoseMarked 19 = .ok (.aload_n 0, 1) := by decide +kernel
theorem dX5_thoseMarked_20 : decode cX5_thoseMarked 20 = .ok (.getfield 11, 3) := by decide +kernel
theorem dX5_thoseMarked_23 : decode cX5_thoseMarked 23 = .ok (.iconst 3, 1) := by decide +kernel
theorem dX5_thoseMarked_24 : decode cX5_thoseMarked 24 = .ok (.aaload, 1) := by decide +kernel
theorem dX5_thoseMarked_25 : decode cX5_thoseMarked 25 = .ok (.iload_n 3, 1) := by decide +kernel
theorem dX5_thoseMarked_26 : decode cX5_thoseMarked 26 = .ok (.iaload, 1) := by decide +kernel
theorem dX5_thoseMarked_27 : decode cX5_thoseMarked 27 = .ok (.iload_n 1, 1) := by decide +kernel
theorem dX5_thoseMarked_28 : decode cX5_thoseMarked 28 = .ok (.ishr, 1) := by decide +kernel
theorem dX5_thoseMarked_29 : decode cX5_thoseMarked 29 = .ok (.iconst 1, 1) := by decide +kernel
theorem dX5_thoseMarked_30 : decode cX5_thoseMarked 30 = .ok (.iand, 1) := by decide +kernel
theorem dX5_thoseMarked_31 : decode cX5_thoseMarked 31 = .ok (.iload_n 3, 1) := by decide +kernel
theorem dX5_thoseMarked_32 : decode cX5_thoseMarked 32 = .ok (.ishl, 1) := by decide +kernel
theorem dX5_thoseMarked_33 : decode cX5_thoseMarked 33 = .ok (.ior, 1) := by decide +kernel
theorem dX5_thoseMarked_34 : decode cX5_thoseMarked 34 = .ok (.istore_n 2, 1) := by decide +kernel
theorem dX5_thoseMarked_35 : decode cX5_thoseMarked 35 = .ok (.iinc 3 1, 3) := by decide +kernel
theorem dX5_thoseMarked_38 : decode cX5_thoseMarked 38 = .ok (.goto (-34), 3) := by decide +kernel
theorem dX5_thoseMarked_41 : decode cX5_thoseMarked 41 = .ok (.iload_n 2, 1) := by decide +kernel
theorem dX5_thoseMarked_42 : decode cX5_thoseMarked 42 = .ok (.ireturn, 1) := by decide +kernel
theorem dX5_thoseLinked_0 : decode cX5_thoseLinked 0 = .ok (.iconst 0, 1) := by decide +kernel
theorem dX5_thoseLinked_1 : decode cX5_thoseLinked 1 = .ok (.istore_n 3, 1) := by decide +kernel
theorem dX5_thoseLinked_2 : decode cX5_thoseLinked 2 = .ok (.iconst 0, 1) := by decide +kernel
theorem dX5_thoseLinked_3 : decode cX5_thoseLinked 3 = .ok (.istore 4, 2) := by decide +kernel
theorem dX5_thoseLinked_5 : decode cX5_thoseLinked 5 = .ok (.iload 4, 2) := by decide +kernel
theorem dX5_thoseLinked_7 : decode cX5_thoseLinked 7 = .ok (.aload_n 0, 1) := by decide +kernel
theorem dX5_thoseLinked_8 : decode cX5_thoseLinked 8 = .ok (.getfield 27, 3) := by decide +kernel
theorem dX5_thoseLinked_11 : decode cX5_thoseLinked 11 = .ok (.if_icmp .ge 37, 3) := by decide +kernel
theorem dX5_thoseLinked_14 : decode cX5_thoseLinked 14 = .ok (.iload 4, 2) := by decide +kernel
theorem dX5_thoseLinked_16 : decode cX5_thoseLinked 16 = .ok (.bipush 8, 2) := by decide +kernel
theorem dX5_thoseLinked_18 : decode cX5_thoseLinked 18 = .ok (.if_icmp .ge 30, 3) := by decide +kernel
theorem dX5_thoseLinked_21 : decode cX5_thoseLinked 21 = .ok (.aload_n 0, 1) := by decide +kernel
theorem dX5_thoseLinked_22 : decode cX5_thoseLinked 22 = .ok (.getfield 11, 3) := by decide +kernel
theorem dX5_thoseLinked_25 : decode cX5_thoseLinked 25 = .ok (.iload_n 1, 1) := by decide +kernel
theorem dX5_thoseLinked_26 : decode cX5_thoseLinked 26 = .ok (.aaload, 1) := by decide +kernel
theorem dX5_thoseLinked_27 : decode cX5_thoseLinked 27 = .ok (.iload 4, 2) := by decide +kernel
theorem dX5_thoseLinked_29 : decode cX5_thoseLinked 29 = .ok (.iaload, 1) := by decide +kernel
theorem dX5_thoseLinked_30 : decode cX5_thoseLinked 30 = .ok (.iload_n 2, 1) := by decide +kernel
theorem dX5_thoseLinked_31 : decode cX5_thoseLinked 31 = .ok (.iand, 1) := by decide +kernel
theorem dX5_thoseLinked_32 : decode cX5_thoseLinked 32 = .ok (.ifCond .eq 10, 3) := by decide +kernel
theorem dX5_thoseLinked_35 : decode cX5_thoseLinked 35 = .ok (.iload_n 3, 1) := by decide +kernel
theorem dX5_thoseLinked_36 : decode cX5_thoseLinked 36 = .ok (.iconst 1, 1) := by decide +kernel
theorem dX5_thoseLinked_37 : decode cX5_thoseLinked 37 = .ok (.iload 4, 2) := by decide +kernel
theorem dX5_thoseLinked_39 : decode cX5_thoseLinked 39 = .ok (.ishl, 1) := by decide +kernel
theorem dX5_thoseLinked_40 : decode cX5_thoseLinked 40 = .ok (.ior, 1) := by decide +kernel
theorem dX5_thoseLinked_41 : decode cX5_thoseLinked 41 = .ok (.istore_n 3, 1) := by decide +kernel
theorem dX5_thoseLinked_42 : decode cX5_thoseLinked 42 = .ok (.iinc 4 1, 3) := by decide +kernel
theorem dX5_thoseLinked_45 : decode cX5_thoseLinked 45 = .ok (.goto (-40), 3) := by decide +kernel
theorem dX5_thoseLinked_48 : decode cX5_thoseLinked 48 = .ok (.iload_n 3, 1) := by decide +kernel
theorem dX5_thoseLinked_49 : decode cX5_thoseLinked 49 = .ok (.ireturn, 1) := by decide +kernel
theorem dX5_ofSize_0 : decode cX5_ofSize 0 = .ok (.iload_n 1, 1) := by decide +kernel
theorem dX5_ofSize_1 : decode cX5_ofSize 1 = .ok (.aload_n 0, 1) := by decide +kernel
theorem dX5_ofSize_2 : decode cX5_ofSize 2 = .ok (.iconst 2, 1) := by decide +kernel
theorem dX5_ofSize_3 : decode cX5_ofSize 3 = .ok (.iload_n 2, 1) := by decide +kernel
theorem dX5_ofSize_4 : decode cX5_ofSize 4 = .ok (.invokevirtual 31, 3) := by decide +kernel
theorem dX5_ofSize_7 : decode cX5_ofSize 7 = .ok (.iand, 1) := by decide +kernel
theorem dX5_ofSize_8 : decode cX5_ofSize 8 = .ok (.ireturn, 1) := by decide +kernel
theorem dX5_greatestSize_0 : decode cX5_greatestSize 0 = .ok (.iconst 0, 1) := by decide +kernel
theorem dX5_greatestSize_1 : decode cX5_greatestSize 1 = .ok (.istore_n 2, 1) := by decide +kernel
theorem dX5_greatestSize_2 : decode cX5_greatestSize 2 = .ok (.iconst 0, 1) := by decide +kernel
theorem dX5_greatestSize_3 : decode cX5_greatestSize 3 = .ok (.istore_n 3, 1) := by decide +kernel
theorem dX5_greatestSize_4 : decode cX5_greatestSize 4 = .ok (.iload_n 3, 1) := by decide +kernel
theorem dX5_greatestSize_5 : decode cX5_greatestSize 5 = .ok (.aload_n 0, 1) := by decide +kernel
theorem dX5_greatestSize_6 : decode cX5_greatestSize 6 = .ok (.getfield 27, 3) := by decide +kernel
theorem dX5_greatestSize_9 : decode cX5_greatestSize 9 = .ok (.if_icmp .ge 37, 3) := by decide +kernel
theorem dX5_greatestSize_12 : decode cX5_greatestSize 12 = .ok (.iload_n 3, 1) := by decide +kernel
theorem dX5_greatestSize_13 : decode cX5_greatestSize 13 = .ok (.bipush 8, 2) := by decide +kernel
theorem dX5_greatestSize_15 : decode cX5_greatestSize 15 = .ok (.if_icmp .ge 31, 3) := by decide +kernel
theorem dX5_greatestSize_18 : decode cX5_greatestSize 18 = .ok (.iload_n 1, 1) := by decide +kernel
theorem dX5_greatestSize_19 : decode cX5_greatestSize 19 = .ok (.iload_n 3, 1) := by decide +kernel
theorem dX5_greatestSize_20 : decode cX5_greatestSize 20 = .ok (.ishr, 1) := by decide +kernel
theorem dX5_greatestSize_21 : decode cX5_greatestSize 21 = .ok (.iconst 1, 1) := by decide +kernel
theorem dX5_greatestSize_22 : decode cX5_greatestSize 22 = .ok (.iand, 1) := by decide +kernel
theorem dX5_greatestSize_23 : decode cX5_greatestSize 23 = .ok (.iconst 1, 1) := by decide +kernel
theorem dX5_greatestSize_24 : decode cX5_greatestSize 24 = .ok (.if_icmp .ne 16, 3) := by decide +kernel
theorem dX5_greatestSize_27 : decode cX5_greatestSize 27 = .ok (.iload_n 2, 1) := by decide +kernel
theorem dX5_greatestSize_28 : decode cX5_greatestSize 28 = .ok (.aload_n 0, 1) := by decide +kernel
theorem dX5_greatestSize_29 : decode cX5_greatestSize 29 = .ok (.getfield 11, 3) := by decide +kernel
theorem dX5_greatestSize_32 : decode cX5_greatestSize 32 = .ok (.iconst 2, 1) := by decide +kernel
theorem dX5_greatestSize_33 : decode cX5_greatestSize 33 = .ok (.aaload, 1) := by decide +kernel
theorem dX5_greatestSize_34 : decode cX5_greatestSize 34 = .ok (.iload_n 3, 1) := by decide +kernel
theorem dX5_greatestSize_35 : decode cX5_greatestSize 35 = .ok (.iaload, 1) := by decide +kernel
theorem dX5_greatestSize_36 : decode cX5_greatestSize 36 = .ok (.invokestatic 70, 3) := by decide +kernel
theorem dX5_greatestSize_39 : decode cX5_greatestSize 39 = .ok (.istore_n 2, 1) := by decide +kernel
theorem dX5_greatestSize_40 : decode cX5_greatestSize 40 = .ok (.iinc 3 1, 3) := by decide +kernel
theorem dX5_greatestSize_43 : decode cX5_greatestSize 43 = .ok (.goto (-39), 3) := by decide +kernel
theorem dX5_greatestSize_46 : decode cX5_greatestSize 46 = .ok (.iload_n 2, 1) := by decide +kernel
theorem dX5_greatestSize_47 : decode cX5_greatestSize 47 = .ok (.ireturn, 1) := by decide +kernel
theorem dX5_leastSize_0 : decode cX5_leastSize 0 = .ok (.getstatic 24, 3) := by decide +kernel
theorem dX5_leastSize_3 : decode cX5_leastSize 3 = .ok (.iconst 2, 1) := by decide +kernel
theorem dX5_leastSize_4 : decode cX5_leastSize 4 = .ok (.baload, 1) := by decide +kernel
theorem dX5_leastSize_5 : decode cX5_leastSize 5 = .ok (.istore_n 2, 1) := by decide +kernel
theorem dX5_leastSize_6 : decode cX5_leastSize 6 = .ok (.iconst 0, 1) := by decide +kernel
theorem dX5_leastSize_7 : decode cX5_leastSize 7 = .ok (.istore_n 3, 1) := by decide +kernel
theorem dX5_leastSize_8 : decode cX5_leastSize 8 = .ok (.iload_n 3, 1) := by decide +kernel
theorem dX5_leastSize_9 : decode cX5_leastSize 9 = .ok (.aload_n 0, 1) := by decide +kernel
theorem dX5_leastSize_10 : decode cX5_leastSize 10 = .ok (.getfield 27, 3) := by decide +kernel
theorem dX5_leastSize_13 : decode cX5_leastSize 13 = .ok (.if_icmp .ge 37, 3) := by decide +kernel
theorem dX5_leastSize_16 : decode cX5_leastSize 16 = .ok (.iload_n 3, 1) := by decide +kernel
theorem dX5_leastSize_17 : decode cX5_leastSize 17 = .ok (.bipush 8, 2) := by decide +kernel
theorem dX5_leastSize_19 : decode cX5_leastSize 19 = .ok (.if_icmp .ge 31, 3) := by decide +kernel
theorem dX5_leastSize_22 : decode cX5_leastSize 22 = .ok (.iload_n 1, 1) := by decide +kernel
theorem dX5_leastSize_23 : decode cX5_leastSize 23 = .ok (.iload_n 3, 1) := by decide +kernel
theorem dX5_leastSize_24 : decode cX5_leastSize 24 = .ok (.ishr, 1) := by decide +kernel
theorem dX5_leastSize_25 : decode cX5_leastSize 25 = .ok (.iconst 1, 1) := by decide +kernel
theorem dX5_leastSize_26 : decode cX5_leastSize 26 = .ok (.iand, 1) := by decide +kernel
theorem dX5_leastSize_27 : decode cX5_leastSize 27 = .ok (.iconst 1, 1) := by decide +kernel
theorem dX5_leastSize_28 : decode cX5_leastSize 28 = .ok (.if_icmp .ne 16, 3) := by decide +kernel
theorem dX5_leastSize_31 : decode cX5_leastSize 31 = .ok (.iload_n 2, 1) := by decide +kernel
theorem dX5_leastSize_32 : decode cX5_leastSize 32 = .ok (.aload_n 0, 1) := by decide +kernel
theorem dX5_leastSize_33 : decode cX5_leastSize 33 = .ok (.getfield 11, 3) := by decide +kernel
theorem dX5_leastSize_36 : decode cX5_leastSize 36 = .ok (.iconst 2, 1) := by decide +kernel
theorem dX5_leastSize_37 : decode cX5_leastSize 37 = .ok (.aaload, 1) := by decide +kernel
theorem dX5_leastSize_38 : decode cX5_leastSize 38 = .ok (.iload_n 3, 1) := by decide +kernel
theorem dX5_leastSize_39 : decode cX5_leastSize 39 = .ok (.iaload, 1) := by decide +kernel
theorem dX5_leastSize_40 : decode cX5_leastSize 40 = .ok (.invokestatic 75, 3) := by decide +kernel
theorem dX5_leastSize_43 : decode cX5_leastSize 43 = .ok (.istore_n 2, 1) := by decide +kernel
theorem dX5_leastSize_44 : decode cX5_leastSize 44 = .ok (.iinc 3 1, 3) := by decide +kernel
theorem dX5_leastSize_47 : decode cX5_leastSize 47 = .ok (.goto (-39), 3) := by decide +kernel
theorem dX5_leastSize_50 : decode cX5_leastSize 50 = .ok (.iload_n 2, 1) := by decide +kernel
theorem dX5_leastSize_51 : decode cX5_leastSize 51 = .ok (.ireturn, 1) := by decide +kernel
theorem dX5_leftmost_0 : decode cX5_leftmost 0 = .ok (.iconst 0, 1) := by decide +kernel
theorem dX5_leftmost_1 : decode cX5_leftmost 1 = .ok (.istore_n 2, 1) := by decide +kernel
theorem dX5_leftmost_2 : decode cX5_leftmost 2 = .ok (.bipush 16, 2) := by decide +kernel
theorem dX5_leftmost_4 : decode cX5_leftmost 4 = .ok (.istore_n 3, 1) := by decide +kernel
theorem dX5_leftmost_5 : decode cX5_leftmost 5 = .ok (.iconst 0, 1) := by decide +kernel
theorem dX5_leftmost_6 : decode cX5_leftmost 6 = .ok (.istore 4, 2) := by decide +kernel
theorem dX5_leftmost_8 : decode cX5_leftmost 8 = .ok (.iload 4, 2) := by decide +kernel
theorem dX5_leftmost_10 : decode cX5_leftmost 10 = .ok (.aload_n 0, 1) := by decide +kernel
theorem dX5_leftmost_11 : decode cX5_leftmost 11 = .ok (.getfield 27, 3) := by decide +kernel
theorem dX5_leftmost_14 : decode cX5_leftmost 14 = .ok (.if_icmp .ge 54, 3) := by decide +kernel
theorem dX5_leftmost_17 : decode cX5_leftmost 17 = .ok (.iload 4, 2) := by decide +kernel
theorem dX5_leftmost_19 : decode cX5_leftmost 19 = .ok (.bipush 8, 2) := by decide +kernel
theorem dX5_leftmost_21 : decode cX5_leftmost 21 = .ok (.if_icmp .ge 47, 3) := by decide +kernel
theorem dX5_leftmost_24 : decode cX5_leftmost 24 = .ok (.iload_n 1, 1) := by decide +kernel
theorem dX5_leftmost_25 : decode cX5_leftmost 25 = .ok (.iload 4, 2) := by decide +kernel
theorem dX5_leftmost_27 : decode cX5_leftmost 27 = .ok (.ishr, 1) := by decide +kernel
theorem dX5_leftmost_28 : decode cX5_leftmost 28 = .ok (.iconst 1, 1) := by decide +kernel
theorem dX5_leftmost_29 : decode cX5_leftmost 29 = .ok (.iand, 1) := by decide +kernel
theorem dX5_leftmost_30 : decode cX5_leftmost 30 = .ok (.iconst 1, 1) := by decide +kernel
theorem dX5_leftmost_31 : decode cX5_leftmost 31 = .ok (.if_icmp .ne 31, 3) := by decide +kernel
theorem dX5_leftmost_34 : decode cX5_leftmost 34 = .ok (.aload_n 0, 1) := by decide +kernel
theorem dX5_leftmost_35 : decode cX5_leftmost 35 = .ok (.getfield 11, 3) := by decide +kernel
theorem dX5_leftmost_38 : decode cX5_leftmost 38 = .ok (.iconst 4, 1) := by decide +kernel
theorem dX5_leftmost_39 : decode cX5_leftmost 39 = .ok (.aaload, 1) := by decide +kernel
theorem dX5_leftmost_40 : decode cX5_leftmost 40 = .ok (.iload 4, 2) := by decide +kernel
theorem dX5_leftmost_42 : decode cX5_leftmost 42 = .ok (.iaload, 1) := by decide +kernel
theorem dX5_leftmost_43 : decode cX5_leftmost 43 = .ok (.iload_n 3, 1) := by decide +kernel
theorem dX5_leftmost_44 : decode cX5_leftmost 44 = .ok (.if_icmp .ge 18, 3) := by decide +kernel
theorem dX5_leftmost_47 : decode cX5_leftmost 47 = .ok (.aload_n 0, 1) := by decide +kernel
theorem dX5_leftmost_48 : decode cX5_leftmost 48 = .ok (.getfield 11, 3) := by decide +kernel
theorem dX5_leftmost_51 : decode cX5_leftmost 51 = .ok (.iconst 4, 1) := by decide +kernel
theorem dX5_leftmost_52 : decode cX5_leftmost 52 = .ok (.aaload, 1) := by decide +kernel
theorem dX5_leftmost_53 : decode cX5_leftmost 53 = .ok (.iload 4, 2) := by decide +kernel
theorem dX5_leftmost_55 : decode cX5_leftmost 55 = .ok (.iaload, 1) := by decide +kernel
theorem dX5_leftmost_56 : decode cX5_leftmost 56 = .ok (.istore_n 3, 1) := by decide +kernel
theorem dX5_leftmost_57 : decode cX5_leftmost 57 = .ok (.iconst 1, 1) := by decide +kernel
theorem dX5_leftmost_58 : decode cX5_leftmost 58 = .ok (.iload 4, 2) := by decide +kernel
theorem dX5_leftmost_60 : decode cX5_leftmost 60 = .ok (.ishl, 1) := by decide +kernel
theorem dX5_leftmost_61 : decode cX5_leftmost 61 = .ok (.istore_n 2, 1) := by decide +kernel
theorem dX5_leftmost_62 : decode cX5_leftmost 62 = .ok (.iinc 4 1, 3) := by decide +kernel
theorem dX5_leftmost_65 : decode cX5_leftmost 65 = .ok (.goto (-57), 3) := by decide +kernel
theorem dX5_leftmost_68 : decode cX5_leftmost 68 = .ok (.iload_n 2, 1) := by decide +kernel
theorem dX5_leftmost_69 : decode cX5_leftmost 69 = .ok (.ireturn, 1) := by decide +kernel
theorem dX6_init_0 : decode cX6_init 0 = .ok (.aload_n 0, 1) := by decide +kernel
theorem dX6_init_1 : decode cX6_init 1 = .ok (.invokespecial 3, 3) := by decide +kernel
theorem dX6_init_4 : decode cX6_init 4 = .ok (.aload_n 0, 1) := by decide +kernel
theorem dX6_init_5 : decode cX6_init 5 = .ok (.bipush 12, 2) := by decide +kernel
theorem dX6_init_7 : decode cX6_init 7 = .ok (.newarray .int, 2) := by decide +kernel
theorem dX6_init_9 : decode cX6_init 9 = .ok (.putfield 11, 3) := by decide +kernel
theorem dX6_init_12 : decode cX6_init 12 = .ok (.return_, 1) := by decide +kernel
theorem dX6_add_0 : decode cX6_add 0 = .ok (.aload_n 0, 1) := by decide +kernel
theorem dX6_add_1 : decode cX6_add 1 = .ok (.getfield 15, 3) := by decide +kernel
theorem dX6_add_4 : decode cX6_add 4 = .ok (.bipush 12, 2) := by decide +kernel
theorem dX6_add_6 : decode cX6_add 6 = .ok (.if_icmp .ge 20, 3) := by decide +kernel
theorem dX6_add_9 : decode cX6_add 9 = .ok (.aload_n 0, 1) := by decide +kernel
theorem dX6_add_10 : decode cX6_add 10 = .ok (.getfield 11, 3) := by decide +kernel
theorem dX6_add_13 : decode cX6_add 13 = .ok (.aload_n 0, 1) := by decide +kernel
theorem dX6_add_14 : decode cX6_add 14 = .ok (.dup, 1) := by decide +kernel
theorem dX6_add_15 : decode cX6_add 15 = .ok (.getfield 15, 3) := by decide +kernel
theorem dX6_add_18 : decode cX6_add 18 = .ok (.dup_x1, 1) := by decide +kernel
theorem dX6_add_19 : decode cX6_add 19 = .ok (.iconst 1, 1) := by decide +kernel
theorem dX6_add_20 : decode cX6_add 20 = .ok (.iadd, 1) := by decide +kernel
theorem dX6_add_21 : decode cX6_add 21 = .ok (.putfield 15, 3) := by decide +kernel
theorem dX6_add_24 : decode cX6_add 24 = .ok (.iload_n 1, 1) := by decide +kernel
theorem dX6_add_25 : decode cX6_add 25 = .ok (.iastore, 1) := by decide +kernel
theorem dX6_add_26 : decode cX6_add 26 = .ok (.aload_n 0, 1) := by decide +kernel
theorem dX6_add_27 : decode cX6_add 27 = .ok (.getfield 15, 3) := by decide +kernel
theorem dX6_add_30 : decode cX6_add 30 = .ok (.ireturn, 1) := by decide +kernel
theorem dX6_cost_0 : decode cX6_cost 0 = .ok (.iconst 0, 1) := by decide +kernel
theorem dX6_cost_1 : decode cX6_cost 1 = .ok (.istore_n 2, 1) := by decide +kernel
theorem dX6_cost_2 : decode cX6_cost 2 = .ok (.iconst 0, 1) := by decide +kernel
theorem dX6_cost_3 : decode cX6_cost 3 = .ok (.istore_n 3, 1) := by decide +kernel
theorem dX6_cost_4 : decode cX6_cost 4 = .ok (.iload_n 3, 1) := by decide +kernel
theorem dX6_cost_5 : decode cX6_cost 5 = .ok (.aload_n 0, 1) := by decide +kernel
theorem dX6_cost_6 : decode cX6_cost 6 = .ok (.getfield 15, 3) := by decide +kernel
theorem dX6_cost_9 : decode cX6_cost 9 = .ok (.if_icmp .ge 84, 3) := by decide +kernel
theorem dX6_cost_12 : decode cX6_cost 12 = .ok (.iload_n 3, 1) := by decide +kernel
theorem dX6_cost_13 : decode cX6_cost 13 = .ok (.bipush 12, 2) := by decide +kernel
theorem dX6_cost_15 : decode cX6_cost 15 = .ok (.if_icmp .ge 78, 3) := by decide +kernel
theorem dX6_cost_18 : decode cX6_cost 18 = .ok (.iconst 1, 1) := by decide +kernel
theorem dX6_cost_19 : decode cX6_cost 19 = .ok (.aload_n 0, 1) := by decide +kernel
theorem dX6_cost_20 : decode cX6_cost 20 = .ok (.getfield 11, 3) := by decide +kernel
theorem dX6_cost_23 : decode cX6_cost 23 = .ok (.iload_n 3, 1) := by decide +kernel
theorem dX6_cost_24 : decode cX6_cost 24 = .ok (.iaload, 1) := by decide +kernel
theorem dX6_cost_25 : decode cX6_cost 25 = .ok (.ishl, 1) := by decide +kernel
theorem dX6_cost_26 : decode cX6_cost 26 = .ok (.istore 4, 2) := by decide +kernel
theorem dX6_cost_28 : decode cX6_cost 28 = .ok (.aload_n 0, 1) := by decide +kernel
theorem dX6_cost_29 : decode cX6_cost 29 = .ok (.iload_n 3, 1) := by decide +kernel
theorem dX6_cost_30 : decode cX6_cost 30 = .ok (.invokevirtual 19, 3) := by decide +kernel
theorem dX6_cost_33 : decode cX6_cost 33 = .ok (.istore 5, 2) := by decide +kernel
theorem dX6_cost_35 : decode cX6_cost 35 = .ok (.aload_n 1, 1) := by decide +kernel
theorem dX6_cost_36 : decode cX6_cost 36 = .ok (.iload 4, 2) := by decide +kernel
theorem dX6_cost_38 : decode cX6_cost 38 = .ok (.invokevirtual 23, 3) := by decide +kernel
theorem dX6_cost_41 : decode cX6_cost 41 = .ok (.ifCond .eq 13, 3) := by decide +kernel
theorem dX6_cost_44 : decode cX6_cost 44 = .ok (.aload_n 1, 1) := by decide +kernel
theorem dX6_cost_45 : decode cX6_cost 45 = .ok (.getfield 29, 3) := by decide +kernel
theorem dX6_cost_48 : decode cX6_cost 48 = .ok (.iload 4, 2) := by decide +kernel
theorem dX6_cost_50 : decode cX6_cost 50 = .ok (.iaload, 1) := by decide +kernel
theorem dX6_cost_51 : decode cX6_cost 51 = .ok (.goto 5, 3) := by decide +kernel
theorem dX6_cost_54 : decode cX6_cost 54 = .ok (.iload 5, 2) := by decide +kernel
theorem dX6_cost_56 : decode cX6_cost 56 = .ok (.istore 6, 2) := by decide +kernel
theorem dX6_cost_58 : decode cX6_cost 58 = .ok (.iload 6, 2) := by decide +kernel
theorem dX6_cost_60 : decode cX6_cost 60 = .ok (.iconst (-1), 1) := by decide +kernel
theorem dX6_cost_61 : decode cX6_cost 61 = .ok (.if_icmp .ne 5, 3) := by decide +kernel
theorem dX6_cost_64 : decode cX6_cost 64 = .ok (.iconst (-1), 1) := by decide +kernel
theorem dX6_cost_65 : decode cX6_cost 65 = .ok (.ireturn, 1) := by decide +kernel
theorem dX6_cost_66 : decode cX6_cost 66 = .ok (.iload_n 2, 1) := by decide +kernel
theorem dX6_cost_67 : decode cX6_cost 67 = .ok (.iload 5, 2) := by decide +kernel
theorem dX6_cost_69 : decode cX6_cost 69 = .ok (.iconst (-1), 1) := by decide +kernel
theorem dX6_cost_70 : decode cX6_cost 70 = .ok (.if_icmp .ne 8, 3) := by decide +kernel
theorem dX6_cost_73 : decode cX6_cost 73 = .ok (.iload 6, 2) := by decide +kernel
theorem dX6_cost_75 : decode cX6_cost 75 = .ok (.goto 10, 3) := by decide +kernel
theorem dX6_cost_78 : decode cX6_cost 78 = .ok (.iload 6, 2) := by decide +kernel
theorem dX6_cost_80 : decode cX6_cost 80 = .ok (.iload 5, 2) := by decide +kernel
theorem dX6_cost_82 : decode cX6_cost 82 = .ok (.invokestatic 32, 3) := by decide +kernel
theorem dX6_cost_85 : decode cX6_cost 85 = .ok (.iadd, 1) := by decide +kernel
theorem dX6_cost_86 : decode cX6_cost 86 = .ok (.istore_n 2, 1) := by decide +kernel
theorem dX6_cost_87 : decode cX6_cost 87 = .ok (.iinc 3 1, 3) := by decide +kernel
theorem dX6_cost_90 : decode cX6_cost 90 = .ok (.goto (-86), 3) := by decide +kernel
theorem dX6_cost_93 : decode cX6_cost 93 = .ok (.iload_n 2, 1) := by decide +kernel
theorem dX6_cost_94 : decode cX6_cost 94 = .ok (.ireturn, 1) := by decide +kernel
theorem dX6_pointingAt_0 : decode cX6_pointingAt 0 = .ok (.iload_n 1, 1) := by decide +kernel
theorem dX6_pointingAt_1 : decode cX6_pointingAt 1 = .ok (.iconst 1, 1) := by decide +kernel
theorem dX6_pointingAt_2 : decode cX6_pointingAt 2 = .ok (.if_icmp .lt 9, 3) := by decide +kernel
theorem dX6_pointingAt_5 : decode cX6_pointingAt 5 = .ok (.iload_n 1, 1) := by decide +kernel
theorem dX6_pointingAt_6 : decode cX6_pointingAt 6 = .ok (.bipush 12, 2) := by decide +kernel
theorem dX6_pointingAt_8 : decode cX6_pointingAt 8 = .ok (.if_icmp .lt 5, 3) := by decide +kernel
theorem dX6_pointingAt_11 : decode cX6_pointingAt 11 = .ok (.iconst (-1), 1) := by decide +kernel
theorem dX6_pointingAt_12 : decode cX6_pointingAt 12 = .ok (.ireturn, 1) := by decide +kernel
theorem dX6_pointingAt_13 : decode cX6_pointingAt 13 = .ok (.aload_n 0, 1) := by decide +kernel
theorem dX6_pointingAt_14 : decode cX6_pointingAt 14 = .ok (.getfield 11, 3) := by decide +kernel
theorem dX6_pointingAt_17 : decode cX6_pointingAt 17 = .ok (.iload_n 1, 1) := by decide +kernel
theorem dX6_pointingAt_18 : decode cX6_pointingAt 18 = .ok (.iconst 1, 1) := by decide +kernel
theorem dX6_pointingAt_19 : decode cX6_pointingAt 19 = .ok (.isub, 1) := by decide +kernel
theorem dX6_pointingAt_20 : decode cX6_pointingAt 20 = .ok (.iaload, 1) := by decide +kernel
theorem dX6_pointingAt_21 : decode cX6_pointingAt 21 = .ok (.istore_n 2, 1) := by decide +kernel
theorem dX6_pointingAt_22 : decode cX6_pointingAt 22 = .ok (.aload_n 0, 1) := by decide +kernel
theorem dX6_pointingAt_23 : decode cX6_pointingAt 23 = .ok (.getfield 11, 3) := by decide +kernel
theorem dX6_pointingAt_26 : decode cX6_pointingAt 26 = .ok (.iload_n 1, 1) := by decide +kernel
theorem dX6_pointingAt_27 : decode cX6_pointingAt 27 = .ok (.iaload, 1) := by decide +kernel
theorem dX6_pointingAt_28 : decode cX6_pointingAt 28 = .ok (.iload_n 2, 1) := by decide +kernel
theorem dX6_pointingAt_29 : decode cX6_pointingAt 29 = .ok (.if_icmp .ne 5, 3) := by decide +kernel
theorem dX6_pointingAt_32 : decode cX6_pointingAt 32 = .ok (.iconst 1, 1) := by decide +kernel
theorem dX6_pointingAt_33 : decode cX6_pointingAt 33 = .ok (.ireturn, 1) := by decide +kernel
theorem dX6_pointingAt_34 : decode cX6_pointingAt 34 = .ok (.iload_n 1, 1) := by decide +kernel
theorem dX6_pointingAt_35 : decode cX6_pointingAt 35 = .ok (.iconst 2, 1) := by decide +kernel
theorem dX6_pointingAt_36 : decode cX6_pointingAt 36 = .ok (.isub, 1) := by decide +kernel
theorem dX6_pointingAt_37 : decode cX6_pointingAt 37 = .ok (.istore_n 3, 1) := by decide +kernel
theorem dX6_pointingAt_38 : decode cX6_pointingAt 38 = .ok (.iload_n 3, 1) := by decide +kernel
theorem dX6_pointingAt_39 : decode cX6_pointingAt 39 = .ok (.ifCond .lt 40, 3) := by decide +kernel
theorem dX6_pointingAt_42 : decode cX6_pointingAt 42 = .ok (.aload_n 0, 1) := by decide +kernel
theorem dX6_pointingAt_43 : decode cX6_pointingAt 43 = .ok (.getfield 11, 3) := by decide +kernel
theorem dX6_pointingAt_46 : decode cX6_pointingAt 46 = .ok (.iload_n 3, 1) := by decide +kernel
theorem dX6_pointingAt_47 : decode cX6_pointingAt 47 = .ok (.iaload, 1) := by decide +kernel
theorem dX6_pointingAt_48 : decode cX6_pointingAt 48 = .ok (.iload_n 2, 1) := by decide +kernel
theorem dX6_pointingAt_49 : decode cX6_pointingAt 49 = .ok (.if_icmp .eq 24, 3) := by decide +kernel
theorem dX6_pointingAt_52 : decode cX6_pointingAt 52 = .ok (.aload_n 0, 1) := by decide +kernel
theorem dX6_pointingAt_53 : decode cX6_pointingAt 53 = .ok (.getfield 11, 3) := by decide +kernel
theorem dX6_pointingAt_56 : decode cX6_pointingAt 56 = .ok (.iload_n 3, 1) := by decide +kernel
theorem dX6_pointingAt_57 : decode cX6_pointingAt 57 = .ok (.iaload, 1) := by decide +kernel
theorem dX6_pointingAt_58 : decode cX6_pointingAt 58 = .ok (.aload_n 0, 1) := by decide +kernel
theorem dX6_pointingAt_59 : decode cX6_pointingAt 59 = .ok (.getfield 11, 3) := by decide +kernel
theorem dX6_pointingAt_62 : decode cX6_pointingAt 62 = .ok (.iload_n 1, 1) := by decide +kernel
theorem dX6_pointingAt_63 : decode cX6_pointingAt 63 = .ok (.iaload, 1) := by decide +kernel
theorem dX6_pointingAt_64 : decode cX6_pointingAt 64 = .ok (.if_icmp .ne 7, 3) := by decide +kernel
theorem dX6_pointingAt_67 : decode cX6_pointingAt 67 = .ok (.iconst 2, 1) := by decide +kernel
theorem dX6_pointingAt_68 : decode cX6_pointingAt 68 = .ok (.goto 4, 3) := by decide +kernel
theorem dX6_pointingAt_71 : decode cX6_pointingAt 71 = .ok (.iconst (-1), 1) := by decide +kernel
theorem dX6_pointingAt_72 : decode cX6_pointingAt 72 = .ok (.ireturn, 1) := by decide +kernel
theorem dX6_pointingAt_73 : decode cX6_pointingAt 73 = .ok (.iinc 3 (-1), 3) := by decide +kernel
theorem dX6_pointingAt_76 : decode cX6_pointingAt 76 = .ok (.goto (-38), 3) := by decide +kernel
theorem dX6_pointingAt_79 : decode cX6_pointingAt 79 = .ok (.iconst (-1), 1) := by decide +kernel
theorem dX6_pointingAt_80 : decode cX6_pointingAt 80 = .ok (.ireturn, 1) := by decide +kernel
theorem dX7_init_0 : decode cX7_init 0 = .ok (.aload_n 0, 1) := by decide +kernel
theorem dX7_init_1 : decode cX7_init 1 = .ok (.invokespecial 3, 3) := by decide +kernel
theorem dX7_init_4 : decode cX7_init 4 = .ok (.aload_n 0, 1) := by decide +kernel
theorem dX7_init_5 : decode cX7_init 5 = .ok (.sipush 160, 3) := by decide +kernel
theorem dX7_init_8 : decode cX7_init 8 = .ok (.newarray .char, 2) := by decide +kernel
theorem dX7_init_10 : decode cX7_init 10 = .ok (.putfield 11, 3) := by decide +kernel
theorem dX7_init_13 : decode cX7_init 13 = .ok (.aload_n 0, 1) := by decide +kernel
theorem dX7_init_14 : decode cX7_init 14 = .ok (.new 15, 3) := by decide +kernel
theorem dX7_init_17 : decode cX7_init 17 = .ok (.dup, 1) := by decide +kernel
theorem dX7_init_18 : decode cX7_init 18 = .ok (.invokespecial 17, 3) := by decide +kernel
theorem dX7_init_21 : decode cX7_init 21 = .ok (.putfield 18, 3) := by decide +kernel
theorem dX7_init_24 : decode cX7_init 24 = .ok (.return_, 1) := by decide +kernel
theorem dX7_hasRoomFor_0 : decode cX7_hasRoomFor 0 = .ok (.aload_n 0, 1) := by decide +kernel
theorem dX7_hasRoomFor_1 : decode cX7_hasRoomFor 1 = .ok (.getfield 22, 3) := by decide +kernel
theorem dX7_hasRoomFor_4 : decode cX7_hasRoomFor 4 = .ok (.iload_n 1, 1) := by decide +kernel
theorem dX7_hasRoomFor_5 : decode cX7_hasRoomFor 5 = .ok (.iadd, 1) := by decide +kernel
theorem dX7_hasRoomFor_6 : decode cX7_hasRoomFor 6 = .ok (.sipush 160, 3) := by decide +kernel
theorem dX7_hasRoomFor_9 : decode cX7_hasRoomFor 9 = .ok (.if_icmp .gt 7, 3) := by decide +kernel
theorem dX7_hasRoomFor_12 : decode cX7_hasRoomFor 12 = .ok (.iconst 1, 1) := by decide +kernel
theorem dX7_hasRoomFor_13 : decode cX7_hasRoomFor 13 = .ok (.goto 4, 3) := by decide +kernel
theorem dX7_hasRoomFor_16 : decode cX7_hasRoomFor 16 = .ok (.iconst 0, 1) := by decide +kernel
theorem dX7_hasRoomFor_17 : decode cX7_hasRoomFor 17 = .ok (.ireturn, 1) := by decide +kernel
theorem dX7_append_0 : decode cX7_append 0 = .ok (.iconst 0, 1) := by decide +kernel
theorem dX7_append_1 : decode cX7_append 1 = .ok (.istore 4, 2) := by decide +kernel
theorem dX7_append_3 : decode cX7_append 3 = .ok (.iload 4, 2) := by decide +kernel
theorem dX7_append_5 : decode cX7_append 5 = .ok (.iload_n 3, 1) := by decide +kernel
theorem dX7_append_6 : decode cX7_append 6 = .ok (.if_icmp .ge 48, 3) := by decide +kernel
theorem dX7_append_9 : decode cX7_append 9 = .ok (.aload_n 0, 1) := by decide +kernel
theorem dX7_append_10 : decode cX7_append 10 = .ok (.getfield 22, 3) := by decide +kernel
theorem dX7_append_13 : decode cX7_append 13 = .ok (.sipush 160, 3) := by decide +kernel
theorem dX7_append_16 : decode cX7_append 16 = .ok (.if_icmp .ge 38, 3) := by decide +kernel
theorem dX7_append_19 : decode cX7_append 19 = .ok (.aload_n 0, 1) := by decide +kernel
theorem dX7_append_20 : decode cX7_append 20 = .ok (.getfield 11, 3) := by decide +kernel
theorem dX7_append_23 : decode cX7_append 23 = .ok (.aload_n 0, 1) := by decide +kernel
theorem dX7_append_24 : decode cX7_append 24 = .ok (.dup, 1) := by decide +kernel
theorem dX7_append_25 : decode cX7_append 25 = .ok (.getfield 22, 3) := by decide +kernel
theorem dX7_append_28 : decode cX7_append 28 = .ok (.dup_x1, 1) := by decide +kernel
theorem dX7_append_29 : decode cX7_append 29 = .ok (.iconst 1, 1) := by decide +kernel
theorem dX7_append_30 : decode cX7_append 30 = .ok (.iadd, 1) := by decide +kernel
theorem dX7_append_31 : decode cX7_append 31 = .ok (.putfield 22, 3) := by decide +kernel
theorem dX7_append_34 : decode cX7_append 34 = .ok (.lload_n 1, 1) := by decide +kernel
theorem dX7_append_35 : decode cX7_append 35 = .ok (.bipush 8, 2) := by decide +kernel
theorem dX7_append_37 : decode cX7_append 37 = .ok (.iload 4, 2) := by decide +kernel
theorem dX7_append_39 : decode cX7_append 39 = .ok (.imul, 1) := by decide +kernel
theorem dX7_append_40 : decode cX7_append 40 = .ok (.lshr, 1) := by decide +kernel
theorem dX7_append_41 : decode cX7_append 41 = .ok (.ldc2_w 26, 3) := by decide +kernel
theorem dX7_append_44 : decode cX7_append 44 = .ok (.land, 1) := by decide +kernel
theorem dX7_append_45 : decode cX7_append 45 = .ok (.l2i, 1) := by decide +kernel
theorem dX7_append_46 : decode cX7_append 46 = .ok (.i2c, 1) := by decide +kernel
theorem dX7_append_47 : decode cX7_append 47 = .ok (.castore, 1) := by decide +kernel
theorem dX7_append_48 : decode cX7_append 48 = .ok (.iinc 4 1, 3) := by decide +kernel
theorem dX7_append_51 : decode cX7_append 51 = .ok (.goto (-48), 3) := by decide +kernel
theorem dX7_append_54 : decode cX7_append 54 = .ok (.aload_n 0, 1) := by decide +kernel
theorem dX7_append_55 : decode cX7_append 55 = .ok (.getfield 22, 3) := by decide +kernel
theorem dX7_append_58 : decode cX7_append 58 = .ok (.ireturn, 1) := by decide +kernel
theorem dX7_clear_0 : decode cX7_clear 0 = .ok (.aload_n 0, 1) := by decide +kernel
theorem dX7_clear_1 : decode cX7_clear 1 = .ok (.getfield 22, 3) := by decide +kernel
theorem dX7_clear_4 : decode cX7_clear 4 = .ok (.istore_n 1, 1) := by decide +kernel
theorem dX7_clear_5 : decode cX7_clear 5 = .ok (.aload_n 0, 1) := by decide +kernel
theorem dX7_clear_6 : decode cX7_clear 6 = .ok (.iconst 0, 1) := by decide +kernel
theorem dX7_clear_7 : decode cX7_clear 7 = .ok (.putfield 22, 3) := by decide +kernel
theorem dX7_clear_10 : decode cX7_clear 10 = .ok (.iload_n 1, 1) := by decide +kernel
theorem dX7_clear_11 : decode cX7_clear 11 = .ok (.ireturn, 1) := by decide +kernel
theorem dX7_read_0 : decode cX7_read 0 = .ok (.aload_n 0, 1) := by decide +kernel
theorem dX7_read_1 : decode cX7_read 1 = .ok (.getfield 18, 3) := by decide +kernel
theorem dX7_read_4 : decode cX7_read 4 = .ok (.iconst 0, 1) := by decide +kernel
theorem dX7_read_5 : decode cX7_read 5 = .ok (.putfield 28, 3) := by decide +kernel
theorem dX7_read_8 : decode cX7_read 8 = .ok (.aload_n 0, 1) := by decide +kernel
theorem dX7_read_9 : decode cX7_read 9 = .ok (.iconst 1, 1) := by decide +kernel
theorem dX7_read_10 : decode cX7_read 10 = .ok (.putfield 29, 3) := by decide +kernel
theorem dX7_read_13 : decode cX7_read 13 = .ok (.aload_n 0, 1) := by decide +kernel
theorem dX7_read_14 : decode cX7_read 14 = .ok (.iconst 0, 1) := by decide +kernel
theorem dX7_read_15 : decode cX7_read 15 = .ok (.putfield 32, 3) := by decide +kernel
theorem dX7_read_18 : decode cX7_read 18 = .ok (.iconst 0, 1) := by decide +kernel
theorem dX7_read_19 : decode cX7_read 19 = .ok (.istore_n 1, 1) := by decide +kernel
theorem dX7_read_20 : decode cX7_read 20 = .ok (.iconst 0, 1) := by decide +kernel
theorem dX7_read_21 : decode cX7_read 21 = .ok (.istore_n 2, 1) := by decide +kernel
theorem dX7_read_22 : decode cX7_read 22 = .ok (.iload_n 2, 1) := by decide +kernel
theorem dX7_read_23 : decode cX7_read 23 = .ok (.aload_n 0, 1) := by decide +kernel
theorem dX7_read_24 : decode cX7_read 24 = .ok (.getfield 22, 3) := by decide +kernel
theorem dX7_read_27 : decode cX7_read 27 = .ok (.if_icmp .ge 71, 3) := by decide +kernel
theorem dX7_read_30 : decode cX7_read 30 = .ok (.iload_n 2, 1) := by decide +kernel
theorem dX7_read_31 : decode cX7_read 31 = .ok (.sipush 160, 3) := by decide +kernel
theorem dX7_read_34 : decode cX7_read 34 = .ok (.if_icmp .ge 64, 3) := by decide +kernel
theorem dX7_read_37 : decode cX7_read 37 = .ok (.iload_n 2, 1) := by decide +kernel
theorem dX7_read_38 : decode cX7_read 38 = .ok (.iload_n 1, 1) := by decide +kernel
theorem dX7_read_39 : decode cX7_read 39 = .ok (.if_icmp .lt 53, 3) := by decide +kernel
theorem dX7_read_42 : decode cX7_read 42 = .ok (.aload_n 0, 1) := by decide +kernel
theorem dX7_read_43 : decode cX7_read 43 = .ok (.getfield 11, 3) := by decide +kernel
theorem dX7_read_46 : decode cX7_read 46 = .ok (.iload_n 2, 1) := by decide +kernel
theorem dX7_read_47 : decode cX7_read 47 = .ok (.caload, 1) := by decide +kernel
theorem dX7_read_48 : decode cX7_read 48 = .ok (.bipush 32, 2) := by decide +kernel
theorem dX7_read_50 : decode cX7_read 50 = .ok (.if_icmp .ne 6, 3) := by decide +kernel
theorem dX7_read_53 : decode cX7_read 53 = .ok (.goto 39, 3) := by decide +kernel
theorem dX7_read_56 : decode cX7_read 56 = .ok (.aload_n 0, 1) := by decide +kernel
theorem dX7_read_57 : decode cX7_read 57 = .ok (.iload_n 2, 1) := by decide +kernel
theorem dX7_read_58 : decode cX7_read 58 = .ok (.invokevirtual 35, 3) := by decide +kernel
theorem dX7_read_61 : decode cX7_read 61 = .ok (.istore_n 1, 1) := by decide +kernel
theorem dX7_read_62 : decode cX7_read 62 = .ok (.aload_n 0, 1) := by decide +kernel
theorem dX7_read_63 : decode cX7_read 63 = .ok (.getfield 32, 3) := by decide +kernel
theorem dX7_read_66 : decode cX7_read 66 = .ok (.ifCond .le 15, 3) := by decide +kernel
theorem dX7_read_69 : decode cX7_read 69 = .ok (.aload_n 0, 1) := by decide +kernel
theorem dX7_read_70 : decode cX7_read 70 = .ok (.iload_n 2, 1) := by decide +kernel
theorem dX7_read_71 : decode cX7_read 71 = .ok (.iload_n 1, 1) := by decide +kernel
theorem dX7_read_72 : decode cX7_read 72 = .ok (.invokevirtual 39, 3) := by decide +kernel
theorem dX7_read_75 : decode cX7_read 75 = .ok (.ifCond .eq 15, 3) := by decide +kernel
theorem dX7_read_78 : decode cX7_read 78 = .ok (.goto 14, 3) := by decide +kernel
theorem dX7_read_81 : decode cX7_read 81 = .ok (.aload_n 0, 1) := by decide +kernel
theorem dX7_read_82 : decode cX7_read 82 = .ok (.iload_n 2, 1) := by decide +kernel
theorem dX7_read_83 : decode cX7_read 83 = .ok (.iload_n 1, 1) := by decide +kernel
theorem dX7_read_84 : decode cX7_read 84 = .ok (.invokevirtual 43, 3) := by decide +kernel
theorem dX7_read_87 : decode cX7_read 87 = .ok (.ifCond .ne 5, 3) := by decide +kernel
theorem dX7_read_90 : decode cX7_read 90 = .ok (.iload_n 2, 1) := by decide +kernel
theorem dX7_read_91 : decode cX7_read 91 = .ok (.ireturn, 1) := by decide +kernel
theorem dX7_read_92 : decode cX7_read 92 = .ok (.iinc 2 1, 3) := by decide +kernel
theorem dX7_read_95 : decode cX7_read 95 = .ok (.goto (-73), 3) := by decide +kernel
theorem dX7_read_98 : decode cX7_read 98 = .ok (.aload_n 0, 1) := by decide +kernel
theorem dX7_read_99 : decode cX7_read 99 = .ok (.getfield 29, 3) := by decide +kernel
theorem dX7_read_102 : decode cX7_read 102 = .ok (.ifCond .gt 10, 3) := by decide +kernel
theorem dX7_read_105 : decode cX7_read 105 = .ok (.aload_n 0, 1) := by decide +kernel
theorem dX7_read_106 : decode cX7_read 106 = .ok (.getfield 32, 3) := by decide +kernel
theorem dX7_read_109 : decode cX7_read 109 = .ok (.ifCond .le 10, 3) := by decide +kernel
theorem dX7_read_112 : decode cX7_read 112 = .ok (.aload_n 0, 1) := by decide +kernel
theorem dX7_read_113 : decode cX7_read 113 = .ok (.getfield 22, 3) := by decide +kernel
theorem dX7_read_116 : decode cX7_read 116 = .ok (.goto 4, 3) := by decide +kernel
theorem dX7_read_119 : decode cX7_read 119 = .ok (.iconst (-1), 1) := by decide +kernel
theorem dX7_read_120 : decode cX7_read 120 = .ok (.ireturn, 1) := by decide +kernel
theorem dX7_endOfToken_0 : decode cX7_endOfToken 0 = .ok (.aload_n 0, 1) := by decide +kernel
theorem dX7_endOfToken_1 : decode cX7_endOfToken 1 = .ok (.iload_n 1, 1) := by decide +kernel
theorem dX7_endOfToken_2 : decode cX7_endOfToken 2 = .ok (.invokevirtual 46, 3) := by decide +kernel
theorem dX7_endOfToken_5 : decode cX7_endOfToken 5 = .ok (.istore_n 2, 1) := by decide +kernel
theorem dX7_endOfToken_6 : decode cX7_endOfToken 6 = .ok (.iload_n 1, 1) := by decide +kernel
theorem dX7_endOfToken_7 : decode cX7_endOfToken 7 = .ok (.iconst 1, 1) := by decide +kernel
theorem dX7_endOfToken_8 : decode cX7_endOfToken 8 = .ok (.iadd, 1) := by decide +kernel
theorem dX7_endOfToken_9 : decode cX7_endOfToken 9 = .ok (.istore_n 3, 1) := by decide +kernel
theorem dX7_endOfToken_10 : decode cX7_endOfToken 10 = .ok (.iload_n 2, 1) := by decide +kernel
theorem dX7_endOfToken_11 : decode cX7_endOfToken 11 = .ok (.iconst 2, 1) := by decide +kernel
theorem dX7_endOfToken_12 : decode cX7_endOfToken 12 = .ok (.if_icmp .eq 33, 3) := by decide +kernel
theorem dX7_endOfToken_15 : decode cX7_endOfToken 15 = .ok (.iload_n 3, 1) := by decide +kernel
theorem dX7_endOfToken_16 : decode cX7_endOfToken 16 = .ok (.aload_n 0, 1) := by decide +kernel
theorem dX7_endOfToken_17 : decode cX7_endOfToken 17 = .ok (.getfield 22, 3) := by decide +kernel
theorem dX7_endOfToken_20 : decode cX7_endOfToken 20 = .ok (.if_icmp .ge 25, 3) := by decide +kernel
theorem dX7_endOfToken_23 : decode cX7_endOfToken 23 = .ok (.iload_n 3, 1) := by decide +kernel
theorem dX7_endOfToken_24 : decode cX7_endOfToken 24 = .ok (.sipush 160, 3) := by decide +kernel
theorem dX7_endOfToken_27 : decode cX7_endOfToken 27 = .ok (.if_icmp .ge 18, 3) := by decide +kernel
theorem dX7_endOfToken_30 : decode cX7_endOfToken 30 = .ok (.aload_n 0, 1) := by decide +kernel
theorem dX7_endOfToken_31 : decode cX7_endOfToken 31 = .ok (.iload_n 3, 1) := by decide +kernel
theorem dX7_endOfToken_32 : decode cX7_endOfToken 32 = .ok (.invokevirtual 46, 3) := by decide +kernel
theorem dX7_endOfToken_35 : decode cX7_endOfToken 35 = .ok (.iload_n 2, 1) := by decide +kernel
theorem dX7_endOfToken_36 : decode cX7_endOfToken 36 = .ok (.if_icmp .ne 9, 3) := by decide +kernel
theorem dX7_endOfToken_39 : decode cX7_endOfToken 39 = .ok (.iinc 3 1, 3) := by decide +kernel
theorem dX7_endOfToken_42 : decode cX7_endOfToken 42 = .ok (.goto (-27), 3) := by decide +kernel
theorem dX7_endOfToken_45 : decode cX7_endOfToken 45 = .ok (.iload_n 3, 1) := by decide +kernel
theorem dX7_endOfToken_46 : decode cX7_endOfToken 46 = .ok (.ireturn, 1) := by decide +kernel
theorem dX7_sortAt_0 : decode cX7_sortAt 0 = .ok (.iload_n 1, 1) := by decide +kernel
theorem dX7_sortAt_1 : decode cX7_sortAt 1 = .ok (.sipush 160, 3) := by decide +kernel
theorem dX7_sortAt_4 : decode cX7_sortAt 4 = .ok (.invokestatic 49, 3) := by decide +kernel
theorem dX7_sortAt_7 : decode cX7_sortAt 7 = .ok (.ifCond .eq 12, 3) := by decide +kernel
theorem dX7_sortAt_10 : decode cX7_sortAt 10 = .ok (.aload_n 0, 1) := by decide +kernel
theorem dX7_sortAt_11 : decode cX7_sortAt 11 = .ok (.getfield 11, 3) := by decide +kernel
theorem dX7_sortAt_14 : decode cX7_sortAt 14 = .ok (.iload_n 1, 1) := by decide +kernel
theorem dX7_sortAt_15 : decode cX7_sortAt 15 = .ok (.caload, 1) := by decide +kernel
theorem dX7_sortAt_16 : decode cX7_sortAt 16 = .ok (.goto 5, 3) := by decide +kernel
theorem dX7_sortAt_19 : decode cX7_sortAt 19 = .ok (.bipush 32, 2) := by decide +kernel
theorem dX7_sortAt_21 : decode cX7_sortAt 21 = .ok (.istore_n 2, 1) := by decide +kernel
theorem dX7_sortAt_22 : decode cX7_sortAt 22 = .ok (.iload_n 2, 1) := by decide +kernel
theorem dX7_sortAt_23 : decode cX7_sortAt 23 = .ok (.bipush 97, 2) := by decide +kernel
theorem dX7_sortAt_25 : decode cX7_sortAt 25 = .ok (.if_icmp .lt 11, 3) := by decide +kernel
theorem dX7_sortAt_28 : decode cX7_sortAt 28 = .ok (.iload_n 2, 1) := by decide +kernel
theorem dX7_sortAt_29 : decode cX7_sortAt 29 = .ok (.bipush 122, 2) := by decide +kernel
theorem dX7_sortAt_31 : decode cX7_sortAt 31 = .ok (.if_icmp .gt 5, 3) := by decide +kernel
theorem dX7_sortAt_34 : decode cX7_sortAt 34 = .ok (.iconst 0, 1) := by decide +kernel
theorem dX7_sortAt_35 : decode cX7_sortAt 35 = .ok (.ireturn, 1) := by decide +kernel
theorem dX7_sortAt_36 : decode cX7_sortAt 36 = .ok (.iload_n 2, 1) := by decide +kernel
theorem dX7_sortAt_37 : decode cX7_sortAt 37 = .ok (.bipush 48, 2) := by decide +kernel
theorem dX7_sortAt_39 : decode cX7_sortAt 39 = .ok (.if_icmp .lt 13, 3) := by decide +kernel
theorem dX7_sortAt_42 : decode cX7_sortAt 42 = .ok (.iload_n 2, 1) := by decide +kernel
theorem dX7_sortAt_43 : decode cX7_sortAt 43 = .ok (.bipush 57, 2) := by decide +kernel
theorem dX7_sortAt_45 : decode cX7_sortAt 45 = .ok (.if_icmp .gt 7, 3) := by decide +kernel
theorem dX7_sortAt_48 : decode cX7_sortAt 48 = .ok (.iconst 1, 1) := by decide +kernel
theorem dX7_sortAt_49 : decode cX7_sortAt 49 = .ok (.goto 4, 3) := by decide +kernel
theorem dX7_sortAt_52 : decode cX7_sortAt 52 = .ok (.iconst 2, 1) := by decide +kernel
theorem dX7_sortAt_53 : decode cX7_sortAt 53 = .ok (.ireturn, 1) := by decide +kernel
theorem dX7_readNumber_0 : decode cX7_readNumber 0 = .ok (.iload_n 2, 1) := by decide +kernel
theorem dX7_readNumber_1 : decode cX7_readNumber 1 = .ok (.iload_n 1, 1) := by decide +kernel
theorem dX7_readNumber_2 : decode cX7_readNumber 2 = .ok (.isub, 1) := by decide +kernel
theorem dX7_readNumber_3 : decode cX7_readNumber 3 = .ok (.iconst 1, 1) := by decide +kernel
theorem dX7_readNumber_4 : decode cX7_readNumber 4 = .ok (.if_icmp .ne 32, 3) := by decide +kernel
theorem dX7_readNumber_7 : decode cX7_readNumber 7 = .ok (.iload_n 1, 1) := by decide +kernel
theorem dX7_readNumber_8 : decode cX7_readNumber 8 = .ok (.sipush 160, 3) := by decide +kernel
theorem dX7_readNumber_11 : decode cX7_readNumber 11 = .ok (.invokestatic 49, 3) := by decide +kernel
theorem dX7_readNumber_14 : decode cX7_readNumber 14 = .ok (.ifCond .eq 22, 3) := by decide +kernel
theorem dX7_readNumber_17 : decode cX7_readNumber 17 = .ok (.aload_n 0, 1) := by decide +kernel
theorem dX7_readNumber_18 : decode cX7_readNumber 18 = .ok (.getfield 11, 3) := by decide +kernel
theorem dX7_readNumber_21 : decode cX7_readNumber 21 = .ok (.iload_n 1, 1) := by decide +kernel
theorem dX7_readNumber_22 : decode cX7_readNumber 22 = .ok (.caload, 1) := by decide +kernel
theorem dX7_readNumber_23 : decode cX7_readNumber 23 = .ok (.bipush 48, 2) := by decide +kernel
theorem dX7_readNumber_25 : decode cX7_readNumber 25 = .ok (.isub, 1) := by decide +kernel
theorem dX7_readNumber_26 : decode cX7_readNumber 26 = .ok (.aload_n 0, 1) := by decide +kernel
theorem dX7_readNumber_27 : decode cX7_readNumber 27 = .ok (.getfield 32, 3) := by decide +kernel
theorem dX7_readNumber_30 : decode cX7_readNumber 30 = .ok (.invokestatic 49, 3) := by decide +kernel
theorem dX7_readNumber_33 : decode cX7_readNumber 33 = .ok (.ifCond .ne 5, 3) := by decide +kernel
theorem dX7_readNumber_36 : decode cX7_readNumber 36 = .ok (.iconst 0, 1) := by decide +kernel
theorem dX7_readNumber_37 : decode cX7_readNumber 37 = .ok (.ireturn, 1) := by decide +kernel
theorem dX7_readNumber_38 : decode cX7_readNumber 38 = .ok (.aload_n 0, 1) := by decide +kernel
theorem dX7_readNumber_39 : decode cX7_readNumber 39 = .ok (.getfield 18, 3) := by decide +kernel
theorem dX7_readNumber_42 : decode cX7_readNumber 42 = .ok (.aload_n 0, 1) := by decide +kernel
theorem dX7_readNumber_43 : decode cX7_readNumber 43 = .ok (.getfield 11, 3) := by decide +kernel
theorem dX7_readNumber_46 : decode cX7_readNumber 46 = .ok (.iload_n 1, 1) := by decide +kernel
theorem dX7_readNumber_47 : decode cX7_readNumber 47 = .ok (.caload, 1) := by decide +kernel
theorem dX7_readNumber_48 : decode cX7_readNumber 48 = .ok (.bipush 48, 2) := by decide +kernel
theorem dX7_readNumber_50 : decode cX7_readNumber 50 = .ok (.isub, 1) := by decide +kernel
theorem dX7_readNumber_51 : decode cX7_readNumber 51 = .ok (.invokevirtual 52, 3) := by decide +kernel
theorem dX7_readNumber_54 : decode cX7_readNumber 54 = .ok (.aload_n 0, 1) := by decide +kernel
theorem dX7_readNumber_55 : decode cX7_readNumber 55 = .ok (.iconst 0, 1) := by decide +kernel
theorem dX7_readNumber_56 : decode cX7_readNumber 56 = .ok (.putfield 32, 3) := by decide +kernel
theorem dX7_readNumber_59 : decode cX7_readNumber 59 = .ok (.iconst 1, 1) := by decide +kernel
theorem dX7_readNumber_60 : decode cX7_readNumber 60 = .ok (.ireturn, 1) := by decide +kernel
theorem dX7_readWord_0 : decode cX7_readWord 0 = .ok (.aload_n 0, 1) := by decide +kernel
theorem dX7_readWord_1 : decode cX7_readWord 1 = .ok (.getfield 29, 3) := by decide +kernel
theorem dX7_readWord_4 : decode cX7_readWord 4 = .ok (.ifCond .le 15, 3) := by decide +kernel
theorem dX7_readWord_7 : decode cX7_readWord 7 = .ok (.aload_n 0, 1) := by decide +kernel
theorem dX7_readWord_8 : decode cX7_readWord 8 = .ok (.getfield 11, 3) := by decide +kernel
theorem dX7_readWord_11 : decode cX7_readWord 11 = .ok (.iload_n 1, 1) := by decide +kernel
theorem dX7_readWord_12 : decode cX7_readWord 12 = .ok (.iload_n 2, 1) := by decide +kernel
theorem dX7_readWord_13 : decode cX7_readWord 13 = .ok (.invokestatic 56, 3) := by decide +kernel
theorem dX7_readWord_16 : decode cX7_readWord 16 = .ok (.goto 4, 3) := by decide +kernel
theorem dX7_readWord_19 : decode cX7_readWord 19 = .ok (.iconst (-1), 1) := by decide +kernel
theorem dX7_readWord_20 : decode cX7_readWord 20 = .ok (.istore_n 3, 1) := by decide +kernel
theorem dX7_readWord_21 : decode cX7_readWord 21 = .ok (.iload_n 3, 1) := by decide +kernel
theorem dX7_readWord_22 : decode cX7_readWord 22 = .ok (.iconst (-1), 1) := by decide +kernel
theorem dX7_readWord_23 : decode cX7_readWord 23 = .ok (.if_icmp .eq 17, 3) := by decide +kernel
theorem dX7_readWord_26 : decode cX7_readWord 26 = .ok (.aload_n 0, 1) := by decide +kernel
theorem dX7_readWord_27 : decode cX7_readWord 27 = .ok (.getfield 18, 3) := by decide +kernel
theorem dX7_readWord_30 : decode cX7_readWord 30 = .ok (.bipush 8, 2) := by decide +kernel
theorem dX7_readWord_32 : decode cX7_readWord 32 = .ok (.iload_n 3, 1) := by decide +kernel
theorem dX7_readWord_33 : decode cX7_readWord 33 = .ok (.imul, 1) := by decide +kernel
theorem dX7_readWord_34 : decode cX7_readWord 34 = .ok (.invokevirtual 62, 3) := by decide +kernel
theorem dX7_readWord_37 : decode cX7_readWord 37 = .ok (.ifCond .ne 5, 3) := by decide +kernel
theorem dX7_readWord_40 : decode cX7_readWord 40 = .ok (.iconst 0, 1) := by decide +kernel
theorem dX7_readWord_41 : decode cX7_readWord 41 = .ok (.ireturn, 1) := by decide +kernel
theorem dX7_readWord_42 : decode cX7_readWord 42 = .ok (.aload_n 0, 1) := by decide +kernel
theorem dX7_readWord_43 : decode cX7_readWord 43 = .ok (.dup, 1) := by decide +kernel
theorem dX7_readWord_44 : decode cX7_readWord 44 = .ok (.getfield 29, 3) := by decide +kernel
theorem dX7_readWord_47 : decode cX7_readWord 47 = .ok (.iload_n 3, 1) := by decide +kernel
theorem dX7_readWord_48 : decode cX7_readWord 48 = .ok (.invokestatic 66, 3) := by decide +kernel
theorem dX7_readWord_51 : decode cX7_readWord 51 = .ok (.iconst 1, 1) := by decide +kernel
theorem dX7_readWord_52 : decode cX7_readWord 52 = .ok (.isub, 1) := by decide +kernel
theorem dX7_readWord_53 : decode cX7_readWord 53 = .ok (.iadd, 1) := by decide +kernel
theorem dX7_readWord_54 : decode cX7_readWord 54 = .ok (.putfield 29, 3) := by decide +kernel
theorem dX7_readWord_57 : decode cX7_readWord 57 = .ok (.aload_n 0, 1) := by decide +kernel
theorem dX7_readWord_58 : decode cX7_readWord 58 = .ok (.iload_n 3, 1) := by decide +kernel
theorem dX7_readWord_59 : decode cX7_readWord 59 = .ok (.invokestatic 69, 3) := by decide +kernel
theorem dX7_readWord_62 : decode cX7_readWord 62 = .ok (.putfield 32, 3) := by decide +kernel
theorem dX7_readWord_65 : decode cX7_readWord 65 = .ok (.iconst 1, 1) := by decide +kernel
theorem dX7_readWord_66 : decode cX7_readWord 66 = .ok (.ireturn, 1) := by decide +kernel
theorem dX8_init_0 : decode cX8_init 0 = .ok (.aload_n 0, 1) := by decide +kernel
theorem dX8_init_1 : decode cX8_init 1 = .ok (.invokespecial 3, 3) := by decide +kernel
theorem dX8_init_4 : decode cX8_init 4 = .ok (.aload_n 0, 1) := by decide +kernel
theorem dX8_init_5 : decode cX8_init 5 = .ok (.bipush 8, 2) := by decide +kernel
theorem dX8_init_7 : decode cX8_init 7 = .ok (.newarray .int, 2) := by decide +kernel
theorem dX8_init_9 : decode cX8_init 9 = .ok (.putfield 9, 3) := by decide +kernel
theorem dX8_init_12 : decode cX8_init 12 = .ok (.aload_n 0, 1) := by decide +kernel
theorem dX8_init_13 : decode cX8_init 13 = .ok (.bipush 8, 2) := by decide +kernel
theorem dX8_init_15 : decode cX8_init 15 = .ok (.newarray .int, 2) := by decide +kernel
theorem dX8_init_17 : decode cX8_init 17 = .ok (.putfield 15, 3) := by decide +kernel
theorem dX8_init_20 : decode cX8_init 20 = .ok (.aload_n 0, 1) := by decide +kernel
theorem dX8_init_21 : decode cX8_init 21 = .ok (.bipush 8, 2) := by decide +kernel
theorem dX8_init_23 : decode cX8_init 23 = .ok (.newarray .int, 2) := by decide +kernel
theorem dX8_init_25 : decode cX8_init 25 = .ok (.putfield 18, 3) := by decide +kernel
theorem dX8_init_28 : decode cX8_init 28 = .ok (.return_, 1) := by decide +kernel
theorem dX8_find_0 : decode cX8_find 0 = .ok (.iconst 0, 1) := by decide +kernel
theorem dX8_find_1 : decode cX8_find 1 = .ok (.istore_n 2, 1) := by decide +kernel
theorem dX8_find_2 : decode cX8_find 2 = .ok (.iload_n 2, 1) := by decide +kernel
theorem dX8_find_3 : decode cX8_find 3 = .ok (.aload_n 1, 1) := by decide +kernel
theorem dX8_find_4 : decode cX8_find 4 = .ok (.getfield 21, 3) := by decide +kernel
theorem dX8_find_7 : decode cX8_find 7 = .ok (.if_icmp .ge 33, 3) := by decide +kernel
theorem dX8_find_10 : decode cX8_find 10 = .ok (.iload_n 2, 1) := by decide +kernel
theorem dX8_find_11 : decode cX8_find 11 = .ok (.bipush 8, 2) := by decide +kernel
theorem dX8_find_13 : decode cX8_find 13 = .ok (.if_icmp .ge 27, 3) := by decide +kernel
theorem dX8_find_16 : decode cX8_find 16 = .ok (.aload_n 0, 1) := by decide +kernel
theorem dX8_find_17 : decode cX8_find 17 = .ok (.getfield 9, 3) := by decide +kernel
theorem dX8_find_20 : decode cX8_find 20 = .ok (.iload_n 2, 1) := by decide +kernel
theorem dX8_find_21 : decode cX8_find 21 = .ok (.aload_n 1, 1) := by decide +kernel
theorem dX8_find_22 : decode cX8_find 22 = .ok (.iload_n 2, 1) := by decide +kernel
theorem dX8_find_23 : decode cX8_find 23 = .ok (.invokestatic 27, 3) := by decide +kernel
theorem dX8_find_26 : decode cX8_find 26 = .ok (.iastore, 1) := by decide +kernel
theorem dX8_find_27 : decode cX8_find 27 = .ok (.aload_n 0, 1) := by decide +kernel
theorem dX8_find_28 : decode cX8_find 28 = .ok (.getfield 15, 3) := by decide +kernel
theorem dX8_find_31 : decode cX8_find 31 = .ok (.iload_n 2, 1) := by decide +kernel
theorem dX8_find_32 : decode cX8_find 32 = .ok (.iconst 0, 1) := by decide +kernel
theorem dX8_find_33 : decode cX8_find 33 = .ok (.iastore, 1) := by decide +kernel
theorem dX8_find_34 : decode cX8_find 34 = .ok (.iinc 2 1, 3) := by decide +kernel
theorem dX8_find_37 : decode cX8_find 37 = .ok (.goto (-35), 3) := by decide +kernel
theorem dX8_find_40 : decode cX8_find 40 = .ok (.iconst 1, 1) := by decide +kernel
theorem dX8_find_41 : decode cX8_find 41 = .ok (.istore_n 2, 1) := by decide +kernel
theorem dX8_find_42 : decode cX8_find 42 = .ok (.iload_n 2, 1) := by decide +kernel
theorem dX8_find_43 : decode cX8_find 43 = .ok (.bipush 8, 2) := by decide +kernel
theorem dX8_find_45 : decode cX8_find 45 = .ok (.if_icmp .gt 19, 3) := by decide +kernel
theorem dX8_find_48 : decode cX8_find 48 = .ok (.aload_n 0, 1) := by decide +kernel
theorem dX8_find_49 : decode cX8_find 49 = .ok (.aload_n 1, 1) := by decide +kernel
theorem dX8_find_50 : decode cX8_find 50 = .ok (.iload_n 2, 1) := by decide +kernel
theorem dX8_find_51 : decode cX8_find 51 = .ok (.invokevirtual 31, 3) := by decide +kernel
theorem dX8_find_54 : decode cX8_find 54 = .ok (.ifCond .ne 4, 3) := by decide +kernel
theorem dX8_find_57 : decode cX8_find 57 = .ok (.return_, 1) := by decide +kernel
theorem dX8_find_58 : decode cX8_find 58 = .ok (.iinc 2 1, 3) := by decide +kernel
theorem dX8_find_61 : decode cX8_find 61 = .ok (.goto (-19), 3) := by decide +kernel
theorem dX8_find_64 : decode cX8_find 64 = .ok (.return_, 1) := by decide +kernel
theorem dX8_sorts_0 : decode cX8_sorts 0 = .ok (.iconst 0, 1) := by decide +kernel
theorem dX8_sorts_1 : decode cX8_sorts 1 = .ok (.istore_n 2, 1) := by decide +kernel
theorem dX8_sorts_2 : decode cX8_sorts 2 = .ok (.iconst 0, 1) := by decide +kernel
theorem dX8_sorts_3 : decode cX8_sorts 3 = .ok (.istore_n 3, 1) := by decide +kernel
theorem dX8_sorts_4 : decode cX8_sorts 4 = .ok (.iload_n 3, 1) := by decide +kernel
theorem dX8_sorts_5 : decode cX8_sorts 5 = .ok (.iload_n 1, 1) := by decide +kernel
theorem dX8_sorts_6 : decode cX8_sorts 6 = .ok (.if_icmp .ge 31, 3) := by decide +kernel
theorem dX8_sorts_9 : decode cX8_sorts 9 = .ok (.iload_n 3, 1) := by decide +kernel
theorem dX8_sorts_10 : decode cX8_sorts 10 = .ok (.bipush 8, 2) := by decide +kernel
theorem dX8_sorts_12 : decode cX8_sorts 12 = .ok (.if_icmp .ge 25, 3) := by decide +kernel
theorem dX8_sorts_15 : decode cX8_sorts 15 = .ok (.aload_n 0, 1) := by decide +kernel
theorem dX8_sorts_16 : decode cX8_sorts 16 = .ok (.getfield 9, 3) := by decide +kernel
theorem dX8_sorts_19 : decode cX8_sorts 19 = .ok (.iload_n 3, 1) := by decide +kernel
theorem dX8_sorts_20 : decode cX8_sorts 20 = .ok (.iaload, 1) := by decide +kernel
theorem dX8_sorts_21 : decode cX8_sorts 21 = .ok (.invokestatic 35, 3) := by decide +kernel
theorem dX8_sorts_24 : decode cX8_sorts 24 = .ok (.iload_n 3, 1) := by decide +kernel
theorem dX8_sorts_25 : decode cX8_sorts 25 = .ok (.if_icmp .ne 6, 3) := by decide +kernel
theorem dX8_sorts_28 : decode cX8_sorts 28 = .ok (.iinc 2 1, 3) := by decide +kernel
theorem dX8_sorts_31 : decode cX8_sorts 31 = .ok (.iinc 3 1, 3) := by decide +kernel
theorem dX8_sorts_34 : decode cX8_sorts 34 = .ok (.goto (-30), 3) := by decide +kernel
theorem dX8_sorts_37 : decode cX8_sorts 37 = .ok (.iload_n 2, 1) := by decide +kernel
theorem dX8_sorts_38 : decode cX8_sorts 38 = .ok (.ireturn, 1) := by decide +kernel
theorem dX8_looksLike_0 : decode cX8_looksLike 0 = .ok (.iconst 0, 1) := by decide +kernel
theorem dX8_looksLike_1 : decode cX8_looksLike 1 = .ok (.istore_n 2, 1) := by decide +kernel
theorem dX8_looksLike_2 : decode cX8_looksLike 2 = .ok (.iconst 0, 1) := by decide +kernel
theorem dX8_looksLike_3 : decode cX8_looksLike 3 = .ok (.istore_n 3, 1) := by decide +kernel
theorem dX8_looksLike_4 : decode cX8_looksLike 4 = .ok (.iload_n 3, 1) := by decide +kernel
theorem dX8_looksLike_5 : decode cX8_looksLike 5 = .ok (.aload_n 0, 1) := by decide +kernel
theorem dX8_looksLike_6 : decode cX8_looksLike 6 = .ok (.getfield 21, 3) := by decide +kernel
theorem dX8_looksLike_9 : decode cX8_looksLike 9 = .ok (.if_icmp .ge 78, 3) := by decide +kernel
theorem dX8_looksLike_12 : decode cX8_looksLike 12 = .ok (.iload_n 3, 1) := by decide +kernel
theorem dX8_looksLike_13 : decode cX8_looksLike 13 = .ok (.bipush 8, 2) := by decide +kernel
theorem dX8_looksLike_15 : decode cX8_looksLike 15 = .ok (.if_icmp .ge 72, 3) := by decide +kernel
theorem dX8_looksLike_18 : decode cX8_looksLike 18 = .ok (.aload_n 0, 1) := by decide +kernel
theorem dX8_looksLike_19 : decode cX8_looksLike 19 = .ok (.getfield 41, 3) := by decide +kernel
theorem dX8_looksLike_22 : decode cX8_looksLike 22 = .ok (.iconst 0, 1) := by decide +kernel
theorem dX8_looksLike_23 : decode cX8_looksLike 23 = .ok (.aaload, 1) := by decide +kernel
theorem dX8_looksLike_24 : decode cX8_looksLike 24 = .ok (.iload_n 3, 1) := by decide +kernel
theorem dX8_looksLike_25 : decode cX8_looksLike 25 = .ok (.iaload, 1) := by decide +kernel
theorem dX8_looksLike_26 : decode cX8_looksLike 26 = .ok (.aload_n 0, 1) := by decide +kernel
theorem dX8_looksLike_27 : decode cX8_looksLike 27 = .ok (.getfield 41, 3) := by decide +kernel
theorem dX8_looksLike_30 : decode cX8_looksLike 30 = .ok (.iconst 0, 1) := by decide +kernel
theorem dX8_looksLike_31 : decode cX8_looksLike 31 = .ok (.aaload, 1) := by decide +kernel
theorem dX8_looksLike_32 : decode cX8_looksLike 32 = .ok (.iload_n 1, 1) := by decide +kernel
theorem dX8_looksLike_33 : decode cX8_looksLike 33 = .ok (.iaload, 1) := by decide +kernel
theorem dX8_looksLike_34 : decode cX8_looksLike 34 = .ok (.if_icmp .ne 47, 3) := by decide +kernel
theorem dX8_looksLike_37 : decode cX8_looksLike 37 = .ok (.aload_n 0, 1) := by decide +kernel
theorem dX8_looksLike_38 : decode cX8_looksLike 38 = .ok (.getfield 41, 3) := by decide +kernel
theorem dX8_looksLike_41 : decode cX8_looksLike 41 = .ok (.iconst 1, 1) := by decide +kernel
theorem dX8_looksLike_42 : decode cX8_looksLike 42 = .ok (.aaload, 1) := by decide +kernel
theorem dX8_looksLike_43 : decode cX8_looksLike 43 = .ok (.iload_n 3, 1) := by decide +kernel
theorem dX8_looksLike_44 : decode cX8_looksLike 44 = .ok (.iaload, 1) := by decide +kernel
theorem dX8_looksLike_45 : decode cX8_looksLike 45 = .ok (.aload_n 0, 1) := by decide +kernel
theorem dX8_looksLike_46 : decode cX8_looksLike 46 = .ok (.getfield 41, 3) := by decide +kernel
theorem dX8_looksLike_49 : decode cX8_looksLike 49 = .ok (.iconst 1, 1) := by decide +kernel
theorem dX8_looksLike_50 : decode cX8_looksLike 50 = .ok (.aaload, 1) := by decide +kernel
theorem dX8_looksLike_51 : decode cX8_looksLike 51 = .ok (.iload_n 1, 1) := by decide +kernel
theorem dX8_looksLike_52 : decode cX8_looksLike 52 = .ok (.iaload, 1) := by decide +kernel
theorem dX8_looksLike_53 : decode cX8_looksLike 53 = .ok (.if_icmp .ne 28, 3) := by decide +kernel
theorem dX8_looksLike_56 : decode cX8_looksLike 56 = .ok (.aload_n 0, 1) := by decide +kernel
theorem dX8_looksLike_57 : decode cX8_looksLike 57 = .ok (.getfield 41, 3) := by decide +kernel
theorem dX8_looksLike_60 : decode cX8_looksLike 60 = .ok (.iconst 3, 1) := by decide +kernel
theorem dX8_looksLike_61 : decode cX8_looksLike 61 = .ok (.aaload, 1) := by decide +kernel
theorem dX8_looksLike_62 : decode cX8_looksLike 62 = .ok (.iload_n 3, 1) := by decide +kernel
theorem dX8_looksLike_63 : decode cX8_looksLike 63 = .ok (.iaload, 1) := by decide +kernel
theorem dX8_looksLike_64 : decode cX8_looksLike 64 = .ok (.aload_n 0, 1) := by decide +kernel
theorem dX8_looksLike_65 : decode cX8_looksLike 65 = .ok (.getfield 41, 3) := by decide +kernel
theorem dX8_looksLike_68 : decode cX8_looksLike 68 = .ok (.iconst 3, 1) := by decide +kernel
theorem dX8_looksLike_69 : decode cX8_looksLike 69 = .ok (.aaload, 1) := by decide +kernel
theorem dX8_looksLike_70 : decode cX8_looksLike 70 = .ok (.iload_n 1, 1) := by decide +kernel
theorem dX8_looksLike_71 : decode cX8_looksLike 71 = .ok (.iaload, 1) := by decide +kernel
theorem dX8_looksLike_72 : decode cX8_looksLike 72 = .ok (.if_icmp .ne 9, 3) := by decide +kernel
theorem dX8_looksLike_75 : decode cX8_looksLike 75 = .ok (.iload_n 2, 1) := by decide +kernel
theorem dX8_looksLike_76 : decode cX8_looksLike 76 = .ok (.iconst 1, 1) := by decide +kernel
theorem dX8_looksLike_77 : decode cX8_looksLike 77 = .ok (.iload_n 3, 1) := by decide +kernel
theorem dX8_looksLike_78 : decode cX8_looksLike 78 = .ok (.ishl, 1) := by decide +kernel
theorem dX8_looksLike_79 : decode cX8_looksLike 79 = .ok (.ior, 1) := by decide +kernel
theorem dX8_looksLike_80 : decode cX8_looksLike 80 = .ok (.istore_n 2, 1) := by decide +kernel
theorem dX8_looksLike_81 : decode cX8_looksLike 81 = .ok (.iinc 3 1, 3) := by decide +kernel
theorem dX8_looksLike_84 : decode cX8_looksLike 84 = .ok (.goto (-80), 3) := by decide +kernel
theorem dX8_looksLike_87 : decode cX8_looksLike 87 = .ok (.iload_n 2, 1) := by decide +kernel
theorem dX8_looksLike_88 : decode cX8_looksLike 88 = .ok (.ireturn, 1) := by decide +kernel
theorem dX8_part_0 : decode cX8_part 0 = .ok (.aload_n 0, 1) := by decide +kernel
theorem dX8_part_1 : decode cX8_part 1 = .ok (.getfield 9, 3) := by decide +kernel
theorem dX8_part_4 : decode cX8_part 4 = .ok (.iconst 0, 1) := by decide +kernel
theorem dX8_part_5 : decode cX8_part 5 = .ok (.aload_n 0, 1) := by decide +kernel
theorem dX8_part_6 : decode cX8_part 6 = .ok (.getfield 18, 3) := by decide +kernel
theorem dX8_part_9 : decode cX8_part 9 = .ok (.iconst 0, 1) := by decide +kernel
theorem dX8_part_10 : decode cX8_part 10 = .ok (.bipush 8, 2) := by decide +kernel
theorem dX8_part_12 : decode cX8_part 12 = .ok (.invokestatic 45, 3) := by decide +kernel
theorem dX8_part_15 : decode cX8_part 15 = .ok (.iconst 0, 1) := by decide +kernel
theorem dX8_part_16 : decode cX8_part 16 = .ok (.istore_n 3, 1) := by decide +kernel
theorem dX8_part_17 : decode cX8_part 17 = .ok (.iconst 0, 1) := by decide +kernel
theorem dX8_part_18 : decode cX8_part 18 = .ok (.istore 4, 2) := by decide +kernel
theorem dX8_part_20 : decode cX8_part 20 = .ok (.iload 4, 2) := by decide +kernel
theorem dX8_part_22 : decode cX8_part 22 = .ok (.aload_n 1, 1) := by decide +kernel
theorem dX8_part_23 : decode cX8_part 23 = .ok (.getfield 21, 3) := by decide +kernel
theorem dX8_part_26 : decode cX8_part 26 = .ok (.if_icmp .ge 95, 3) := by decide +kernel
theorem dX8_part_29 : decode cX8_part 29 = .ok (.iload 4, 2) := by decide +kernel
theorem dX8_part_31 : decode cX8_part 31 = .ok (.bipush 8, 2) := by decide +kernel
theorem dX8_part_33 : decode cX8_part 33 = .ok (.if_icmp .ge 88, 3) := by decide +kernel
theorem dX8_part_36 : decode cX8_part 36 = .ok (.iconst 0, 1) := by decide +kernel
theorem dX8_part_37 : decode cX8_part 37 = .ok (.istore 5, 2) := by decide +kernel
theorem dX8_part_39 : decode cX8_part 39 = .ok (.iload 5, 2) := by decide +kernel
theorem dX8_part_41 : decode cX8_part 41 = .ok (.aload_n 1, 1) := by decide +kernel
theorem dX8_part_42 : decode cX8_part 42 = .ok (.getfield 21, 3) := by decide +kernel
theorem dX8_part_45 : decode cX8_part 45 = .ok (.if_icmp .ge 70, 3) := by decide +kernel
theorem dX8_part_48 : decode cX8_part 48 = .ok (.iload 5, 2) := by decide +kernel
theorem dX8_part_50 : decode cX8_part 50 = .ok (.bipush 8, 2) := by decide +kernel
theorem dX8_part_52 : decode cX8_part 52 = .ok (.if_icmp .ge 63, 3) := by decide +kernel
theorem dX8_part_55 : decode cX8_part 55 = .ok (.aload_n 0, 1) := by decide +kernel
theorem dX8_part_56 : decode cX8_part 56 = .ok (.getfield 18, 3) := by decide +kernel
theorem dX8_part_59 : decode cX8_part 59 = .ok (.iload 4, 2) := by decide +kernel
theorem dX8_part_61 : decode cX8_part 61 = .ok (.iaload, 1) := by decide +kernel
theorem dX8_part_62 : decode cX8_part 62 = .ok (.iload 5, 2) := by decide +kernel
theorem dX8_part_64 : decode cX8_part 64 = .ok (.ishr, 1) := by decide +kernel
theorem dX8_part_65 : decode cX8_part 65 = .ok (.iconst 1, 1) := by decide +kernel
theorem dX8_part_66 : decode cX8_part 66 = .ok (.iand, 1) := by decide +kernel
theorem dX8_part_67 : decode cX8_part 67 = .ok (.iconst 1, 1) := by decide +kernel
theorem dX8_part_68 : decode cX8_part 68 = .ok (.if_icmp .ne 41, 3) := by decide +kernel
theorem dX8_part_71 : decode cX8_part 71 = .ok (.aload_n 0, 1) := by decide +kernel
theorem dX8_part_72 : decode cX8_part 72 = .ok (.aload_n 1, 1) := by decide +kernel
theorem dX8_part_73 : decode cX8_part 73 = .ok (.iload 4, 2) := by decide +kernel
theorem dX8_part_75 : decode cX8_part 75 = .ok (.iload 5, 2) := by decide +kernel
theorem dX8_part_77 : decode cX8_part 77 = .ok (.invokevirtual 51, 3) := by decide +kernel
theorem dX8_part_80 : decode cX8_part 80 = .ok (.ifCond .ne 29, 3) := by decide +kernel
theorem dX8_part_83 : decode cX8_part 83 = .ok (.aload_n 0, 1) := by decide +kernel
theorem dX8_part_84 : decode cX8_part 84 = .ok (.getfield 9, 3) := by decide +kernel
theorem dX8_part_87 : decode cX8_part 87 = .ok (.iload 4, 2) := by decide +kernel
theorem dX8_part_89 : decode cX8_part 89 = .ok (.dup2, 1) := by decide +kernel
theorem dX8_part_90 : decode cX8_part 90 = .ok (.iaload, 1) := by decide +kernel
theorem dX8_part_91 : decode cX8_part 91 = .ok (.iconst 1, 1) := by decide +kernel
theorem dX8_part_92 : decode cX8_part 92 = .ok (.iload 5, 2) := by decide +kernel
theorem dX8_part_94 : decode cX8_part 94 = .ok (.ishl, 1) := by decide +kernel
theorem dX8_part_95 : decode cX8_part 95 = .ok (.iconst (-1), 1) := by decide +kernel
theorem dX8_part_96 : decode cX8_part 96 = .ok (.ixor, 1) := by decide +kernel
theorem dX8_part_97 : decode cX8_part 97 = .ok (.iand, 1) := by decide +kernel
theorem dX8_part_98 : decode cX8_part 98 = .ok (.iastore, 1) := by decide +kernel
theorem dX8_part_99 : decode cX8_part 99 = .ok (.aload_n 0, 1) := by decide +kernel
theorem dX8_part_100 : decode cX8_part 100 = .ok (.getfield 15, 3) := by decide +kernel
theorem dX8_part_103 : decode cX8_part 103 = .ok (.iload 4, 2) := by decide +kernel
theorem dX8_part_105 : decode cX8_part 105 = .ok (.iload_n 2, 1) := by decide +kernel
theorem dX8_part_106 : decode cX8_part 106 = .ok (.iastore, 1) := by decide +kernel
theorem dX8_part_107 : decode cX8_part 107 = .ok (.iconst 1, 1) := by decide +kernel
theorem dX8_part_108 : decode cX8_part 108 = .ok (.istore_n 3, 1) := by decide +kernel
theorem dX8_part_109 : decode cX8_part 109 = .ok (.iinc 5 1, 3) := by decide +kernel
theorem dX8_part_112 : decode cX8_part 112 = .ok (.goto (-73), 3) := by decide +kernel
theorem dX8_part_115 : decode cX8_part 115 = .ok (.iinc 4 1, 3) := by decide +kernel
theorem dX8_part_118 : decode cX8_part 118 = .ok (.goto (-98), 3) := by decide +kernel
theorem dX8_part_121 : decode cX8_part 121 = .ok (.iload_n 3, 1) := by decide +kernel
theorem dX8_part_122 : decode cX8_part 122 = .ok (.ireturn, 1) := by decide +kernel
theorem dX8_hasAsMany_0 : decode cX8_hasAsMany 0 = .ok (.iconst 5, 1) := by decide +kernel
theorem dX8_hasAsMany_1 : decode cX8_hasAsMany 1 = .ok (.istore 4, 2) := by decide +kernel
theorem dX8_hasAsMany_3 : decode cX8_hasAsMany 3 = .ok (.iload 4, 2) := by decide +kernel
theorem dX8_hasAsMany_5 : decode cX8_hasAsMany 5 = .ok (.bipush 7, 2) := by decide +kernel
theorem dX8_hasAsMany_7 : decode cX8_hasAsMany 7 = .ok (.if_icmp .gt 78, 3) := by decide +kernel
theorem dX8_hasAsMany_10 : decode cX8_hasAsMany 10 = .ok (.aload_n 1, 1) := by decide +kernel
theorem dX8_hasAsMany_11 : decode cX8_hasAsMany 11 = .ok (.getfield 41, 3) := by decide +kernel
theorem dX8_hasAsMany_14 : decode cX8_hasAsMany 14 = .ok (.iload 4, 2) := by decide +kernel
theorem dX8_hasAsMany_16 : decode cX8_hasAsMany 16 = .ok (.aaload, 1) := by decide +kernel
theorem dX8_hasAsMany_17 : decode cX8_hasAsMany 17 = .ok (.astore 5, 2) := by decide +kernel
theorem dX8_hasAsMany_19 : decode cX8_hasAsMany 19 = .ok (.iconst 0, 1) := by decide +kernel
theorem dX8_hasAsMany_20 : decode cX8_hasAsMany 20 = .ok (.istore 6, 2) := by decide +kernel
theorem dX8_hasAsMany_22 : decode cX8_hasAsMany 22 = .ok (.iload 6, 2) := by decide +kernel
theorem dX8_hasAsMany_24 : decode cX8_hasAsMany 24 = .ok (.aload_n 1, 1) := by decide +kernel
theorem dX8_hasAsMany_25 : decode cX8_hasAsMany 25 = .ok (.getfield 21, 3) := by decide +kernel
theorem dX8_hasAsMany_28 : decode cX8_hasAsMany 28 = .ok (.if_icmp .ge 51, 3) := by decide +kernel
theorem dX8_hasAsMany_31 : decode cX8_hasAsMany 31 = .ok (.iload 6, 2) := by decide +kernel
theorem dX8_hasAsMany_33 : decode cX8_hasAsMany 33 = .ok (.bipush 8, 2) := by decide +kernel
theorem dX8_hasAsMany_35 : decode cX8_hasAsMany 35 = .ok (.if_icmp .ge 44, 3) := by decide +kernel
theorem dX8_hasAsMany_38 : decode cX8_hasAsMany 38 = .ok (.aload 5, 2) := by decide +kernel
theorem dX8_hasAsMany_40 : decode cX8_hasAsMany 40 = .ok (.iload_n 2, 1) := by decide +kernel
theorem dX8_hasAsMany_41 : decode cX8_hasAsMany 41 = .ok (.iaload, 1) := by decide +kernel
theorem dX8_hasAsMany_42 : decode cX8_hasAsMany 42 = .ok (.aload_n 0, 1) := by decide +kernel
theorem dX8_hasAsMany_43 : decode cX8_hasAsMany 43 = .ok (.getfield 18, 3) := by decide +kernel
theorem dX8_hasAsMany_46 : decode cX8_hasAsMany 46 = .ok (.iload 6, 2) := by decide +kernel
theorem dX8_hasAsMany_48 : decode cX8_hasAsMany 48 = .ok (.iaload, 1) := by decide +kernel
theorem dX8_hasAsMany_49 : decode cX8_hasAsMany 49 = .ok (.iand, 1) := by decide +kernel
theorem dX8_hasAsMany_50 : decode cX8_hasAsMany 50 = .ok (.invokestatic 55, 3) := by decide +kernel
theorem dX8_hasAsMany_53 : decode cX8_hasAsMany 53 = .ok (.aload 5, 2) := by decide +kernel
theorem dX8_hasAsMany_55 : decode cX8_hasAsMany 55 = .ok (.iload_n 3, 1) := by decide +kernel
theorem dX8_hasAsMany_56 : decode cX8_hasAsMany 56 = .ok (.iaload, 1) := by decide +kernel
theorem dX8_hasAsMany_57 : decode cX8_hasAsMany 57 = .ok (.aload_n 0, 1) := by decide +kernel
theorem dX8_hasAsMany_58 : decode cX8_hasAsMany 58 = .ok (.getfield 18, 3) := by decide +kernel
theorem dX8_hasAsMany_61 : decode cX8_hasAsMany 61 = .ok (.iload 6, 2) := by decide +kernel
theorem dX8_hasAsMany_63 : decode cX8_hasAsMany 63 = .ok (.iaload, 1) := by decide +kernel
theorem dX8_hasAsMany_64 : decode cX8_hasAsMany 64 = .ok (.iand, 1) := by decide +kernel
theorem dX8_hasAsMany_65 : decode cX8_hasAsMany 65 = .ok (.invokestatic 55, 3) := by decide +kernel
theorem dX8_hasAsMany_68 : decode cX8_hasAsMany 68 = .ok (.if_icmp .eq 5, 3) := by decide +kernel
theorem dX8_hasAsMany_71 : decode cX8_hasAsMany 71 = .ok (.iconst 0, 1) := by decide +kernel
theorem dX8_hasAsMany_72 : decode cX8_hasAsMany 72 = .ok (.ireturn, 1) := by decide +kernel
theorem dX8_hasAsMany_73 : decode cX8_hasAsMany 73 = .ok (.iinc 6 1, 3) := by decide +kernel
theorem dX8_hasAsMany_76 : decode cX8_hasAsMany 76 = .ok (.goto (-54), 3) := by decide +kernel
theorem dX8_hasAsMany_79 : decode cX8_hasAsMany 79 = .ok (.iinc 4 1, 3) := by decide +kernel
theorem dX8_hasAsMany_82 : decode cX8_hasAsMany 82 = .ok (.goto (-79), 3) := by decide +kernel
theorem dX8_hasAsMany_85 : decode cX8_hasAsMany 85 = .ok (.iconst 1, 1) := by decide +kernel
theorem dX8_hasAsMany_86 : decode cX8_hasAsMany 86 = .ok (.ireturn, 1) := by decide +kernel
theorem dX9_init_0 : decode cX9_init 0 = .ok (.aload_n 0, 1) := by decide +kernel
theorem dX9_init_1 : decode cX9_init 1 = .ok (.invokespecial 3, 3) := by decide +kernel
theorem dX9_init_4 : decode cX9_init 4 = .ok (.aload_n 0, 1) := by decide +kernel
theorem dX9_init_5 : decode cX9_init 5 = .ok (.sipush 256, 3) := by decide +kernel
theorem dX9_init_8 : decode cX9_init 8 = .ok (.newarray .int, 2) := by decide +kernel
theorem dX9_init_10 : decode cX9_init 10 = .ok (.putfield 9, 3) := by decide +kernel
theorem dX9_init_13 : decode cX9_init 13 = .ok (.aload_n 0, 1) := by decide +kernel
theorem dX9_init_14 : decode cX9_init 14 = .ok (.sipush 256, 3) := by decide +kernel
theorem dX9_init_17 : decode cX9_init 17 = .ok (.newarray .int, 2) := by decide +kernel
theorem dX9_init_19 : decode cX9_init 19 = .ok (.putfield 15, 3) := by decide +kernel
theorem dX9_init_22 : decode cX9_init 22 = .ok (.aload_n 0, 1) := by decide +kernel
theorem dX9_init_23 : decode cX9_init 23 = .ok (.sipush 256, 3) := by decide +kernel
theorem dX9_init_26 : decode cX9_init 26 = .ok (.newarray .int, 2) := by decide +kernel
theorem dX9_init_28 : decode cX9_init 28 = .ok (.putfield 18, 3) := by decide +kernel
theorem dX9_init_31 : decode cX9_init 31 = .ok (.aload_n 0, 1) := by decide +kernel
theorem dX9_init_32 : decode cX9_init 32 = .ok (.sipush 256, 3) := by decide +kernel
theorem dX9_init_35 : decode cX9_init 35 = .ok (.newarray .int, 2) := by decide +kernel
theorem dX9_init_37 : decode cX9_init 37 = .ok (.putfield 21, 3) := by decide +kernel
theorem dX9_init_40 : decode cX9_init 40 = .ok (.aload_n 0, 1) := by decide +kernel
theorem dX9_init_41 : decode cX9_init 41 = .ok (.sipush 256, 3) := by decide +kernel
theorem dX9_init_44 : decode cX9_init 44 = .ok (.newarray .int, 2) := by decide +kernel
theorem dX9_init_46 : decode cX9_init 46 = .ok (.putfield 24, 3) := by decide +kernel
theorem dX9_init_49 : decode cX9_init 49 = .ok (.aload_n 0, 1) := by decide +kernel
theorem dX9_init_50 : decode cX9_init 50 = .ok (.sipush 256, 3) := by decide +kernel
theorem dX9_init_53 : decode cX9_init 53 = .ok (.newarray .int, 2) := by decide +kernel
theorem dX9_init_55 : decode cX9_init 55 = .ok (.putfield 27, 3) := by decide +kernel
theorem dX9_init_58 : decode cX9_init 58 = .ok (.aload_n 0, 1) := by decide +kernel
theorem dX9_init_59 : decode cX9_init 59 = .ok (.iconst (-1), 1) := by decide +kernel
theorem dX9_init_60 : decode cX9_init 60 = .ok (.putfield 30, 3) := by decide +kernel
theorem dX9_init_63 : decode cX9_init 63 = .ok (.return_, 1) := by decide +kernel
theorem dX9_isReached_0 : decode cX9_isReached 0 = .ok (.iload_n 1, 1) := by decide +kernel
theorem dX9_isReached_1 : decode cX9_isReached 1 = .ok (.sipush 256, 3) := by decide +kernel
theorem dX9_isReached_4 : decode cX9_isReached 4 = .ok (.invokestatic 34, 3) := by decide +kernel
theorem dX9_isReached_7 : decode cX9_isReached 7 = .ok (.ifCond .eq 17, 3) := by decide +kernel
theorem dX9_isReached_10 : decode cX9_isReached 10 = .ok (.aload_n 0, 1) := by decide +kernel
theorem dX9_isReached_11 : decode cX9_isReached 11 = .ok (.getfield 21, 3) := by decide +kernel
theorem dX9_isReached_14 : decode cX9_isReached 14 = .ok (.iload_n 1, 1) := by decide +kernel
theorem dX9_isReached_15 : decode cX9_isReached 15 = .ok (.iaload, 1) := by decide +kernel
theorem dX9_isReached_16 : decode cX9_isReached 16 = .ok (.iconst (-1), 1) := by decide +kernel
theorem dX9_isReached_17 : decode cX9_isReached 17 = .ok (.if_icmp .eq 7, 3) := by decide +kernel
theorem dX9_isReached_20 : decode cX9_isReached 20 = .ok (.iconst 1, 1) := by decide +kernel
theorem dX9_isReached_21 : decode cX9_isReached 21 = .ok (.goto 4, 3) := by decide +kernel
theorem dX9_isReached_24 : decode cX9_isReached 24 = .ok (.iconst 0, 1) := by decide +kernel
theorem dX9_isReached_25 : decode cX9_isReached 25 = .ok (.ireturn, 1) := by decide +kernel
theorem dX9_codeAt_0 : decode cX9_codeAt 0 = .ok (.iload_n 1, 1) := by decide +kernel
theorem dX9_codeAt_1 : decode cX9_codeAt 1 = .ok (.sipush 255, 3) := by decide +kernel
theorem dX9_codeAt_4 : decode cX9_codeAt 4 = .ok (.iand, 1) := by decide +kernel
theorem dX9_codeAt_5 : decode cX9_codeAt 5 = .ok (.istore_n 3, 1) := by decide +kernel
theorem dX9_codeAt_6 : decode cX9_codeAt 6 = .ok (.iload_n 2, 1) := by decide +kernel
theorem dX9_codeAt_7 : decode cX9_codeAt 7 = .ok (.istore 4, 2) := by decide +kernel
theorem dX9_codeAt_9 : decode cX9_codeAt 9 = .ok (.iconst 0, 1) := by decide +kernel
theorem dX9_codeAt_10 : decode cX9_codeAt 10 = .ok (.istore 5, 2) := by decide +kernel
theorem dX9_codeAt_12 : decode cX9_codeAt 12 = .ok (.iload 5, 2) := by decide +kernel
theorem dX9_codeAt_14 : decode cX9_codeAt 14 = .ok (.sipush 1000, 3) := by decide +kernel
theorem dX9_codeAt_17 : decode cX9_codeAt 17 = .ok (.if_icmp .ge 73, 3) := by decide +kernel
theorem dX9_codeAt_20 : decode cX9_codeAt 20 = .ok (.iload 4, 2) := by decide +kernel
theorem dX9_codeAt_22 : decode cX9_codeAt 22 = .ok (.ifCond .le 68, 3) := by decide +kernel
theorem dX9_codeAt_25 : decode cX9_codeAt 25 = .ok (.aload_n 0, 1) := by decide +kernel
theorem dX9_codeAt_26 : decode cX9_codeAt 26 = .ok (.getfield 18, 3) := by decide +kernel
theorem dX9_codeAt_29 : decode cX9_codeAt 29 = .ok (.iload_n 3, 1) := by decide +kernel
theorem dX9_codeAt_30 : decode cX9_codeAt 30 = .ok (.iaload, 1) := by decide +kernel
theorem dX9_codeAt_31 : decode cX9_codeAt 31 = .ok (.bipush 8, 2) := by decide +kernel
theorem dX9_codeAt_33 : decode cX9_codeAt 33 = .ok (.ishr, 1) := by decide +kernel
theorem dX9_codeAt_34 : decode cX9_codeAt 34 = .ok (.sipush 255, 3) := by decide +kernel
theorem dX9_codeAt_37 : decode cX9_codeAt 37 = .ok (.iand, 1) := by decide +kernel
theorem dX9_codeAt_38 : decode cX9_codeAt 38 = .ok (.istore 6, 2) := by decide +kernel
theorem dX9_codeAt_40 : decode cX9_codeAt 40 = .ok (.iinc 4 (-1), 3) := by decide +kernel
theorem dX9_codeAt_43 : decode cX9_codeAt 43 = .ok (.iload 4, 2) := by decide +kernel
theorem dX9_codeAt_45 : decode cX9_codeAt 45 = .ok (.aload_n 0, 1) := by decide +kernel
theorem dX9_codeAt_46 : decode cX9_codeAt 46 = .ok (.getfield 15, 3) := by decide +kernel
theorem dX9_codeAt_49 : decode cX9_codeAt 49 = .ok (.iload 6, 2) := by decide +kernel
theorem dX9_codeAt_51 : decode cX9_codeAt 51 = .ok (.iaload, 1) := by decide +kernel
theorem dX9_codeAt_52 : decode cX9_codeAt 52 = .ok (.if_icmp .ge 9, 3) := by decide +kernel
theorem dX9_codeAt_55 : decode cX9_codeAt 55 = .ok (.iload 6, 2) := by decide +kernel
theorem dX9_codeAt_57 : decode cX9_codeAt 57 = .ok (.istore_n 3, 1) := by decide +kernel
theorem dX9_codeAt_58 : decode cX9_codeAt 58 = .ok (.goto 26, 3) := by decide +kernel
theorem dX9_codeAt_61 : decode cX9_codeAt 61 = .ok (.iload 4, 2) := by decide +kernel
theorem dX9_codeAt_63 : decode cX9_codeAt 63 = .ok (.aload_n 0, 1) := by decide +kernel
theorem dX9_codeAt_64 : decode cX9_codeAt 64 = .ok (.getfield 15, 3) := by decide +kernel
theorem dX9_codeAt_67 : decode cX9_codeAt 67 = .ok (.iload 6, 2) := by decide +kernel
theorem dX9_codeAt_69 : decode cX9_codeAt 69 = .ok (.iaload, 1) := by decide +kernel
theorem dX9_codeAt_70 : decode cX9_codeAt 70 = .ok (.isub, 1) := by decide +kernel
theorem dX9_codeAt_71 : decode cX9_codeAt 71 = .ok (.istore 4, 2) := by decide +kernel
theorem dX9_codeAt_73 : decode cX9_codeAt 73 = .ok (.aload_n 0, 1) := by decide +kernel
theorem dX9_codeAt_74 : decode cX9_codeAt 74 = .ok (.getfield 18, 3) := by decide +kernel
theorem dX9_codeAt_77 : decode cX9_codeAt 77 = .ok (.iload_n 3, 1) := by decide +kernel
theorem dX9_codeAt_78 : decode cX9_codeAt 78 = .ok (.iaload, 1) := by decide +kernel
theorem dX9_codeAt_79 : decode cX9_codeAt 79 = .ok (.sipush 255, 3) := by decide +kernel
theorem dX9_codeAt_82 : decode cX9_codeAt 82 = .ok (.iand, 1) := by decide +kernel
theorem dX9_codeAt_83 : decode cX9_codeAt 83 = .ok (.istore_n 3, 1) := by decide +kernel
theorem dX9_codeAt_84 : decode cX9_codeAt 84 = .ok (.iinc 5 1, 3) := by decide +kernel
theorem dX9_codeAt_87 : decode cX9_codeAt 87 = .ok (.goto (-75), 3) := by decide +kernel
theorem dX9_codeAt_90 : decode cX9_codeAt 90 = .ok (.aload_n 0, 1) := by decide +kernel
theorem dX9_codeAt_91 : decode cX9_codeAt 91 = .ok (.getfield 18, 3) := by decide +kernel
theorem dX9_codeAt_94 : decode cX9_codeAt 94 = .ok (.iload_n 3, 1) := by decide +kernel
theorem dX9_codeAt_95 : decode cX9_codeAt 95 = .ok (.iaload, 1) := by decide +kernel
theorem dX9_codeAt_96 : decode cX9_codeAt 96 = .ok (.bipush 16, 2) := by decide +kernel
theorem dX9_codeAt_98 : decode cX9_codeAt 98 = .ok (.ishr, 1) := by decide +kernel
theorem dX9_codeAt_99 : decode cX9_codeAt 99 = .ok (.ireturn, 1) := by decide +kernel
theorem dX9_worthOf_0 : decode cX9_worthOf 0 = .ok (.iconst 0, 1) := by decide +kernel
theorem dX9_worthOf_1 : decode cX9_worthOf 1 = .ok (.istore_n 2, 1) := by decide +kernel
theorem dX9_worthOf_2 : decode cX9_worthOf 2 = .ok (.iconst 0, 1) := by decide +kernel
theorem dX9_worthOf_3 : decode cX9_worthOf 3 = .ok (.istore_n 3, 1) := by decide +kernel
theorem dX9_worthOf_4 : decode cX9_worthOf 4 = .ok (.iload_n 3, 1) := by decide +kernel
theorem dX9_worthOf_5 : decode cX9_worthOf 5 = .ok (.iload_n 1, 1) := by decide +kernel
theorem dX9_worthOf_6 : decode cX9_worthOf 6 = .ok (.if_icmp .ge 41, 3) := by decide +kernel
theorem dX9_worthOf_9 : decode cX9_worthOf 9 = .ok (.iload_n 3, 1) := by decide +kernel
theorem dX9_worthOf_10 : decode cX9_worthOf 10 = .ok (.bipush 8, 2) := by decide +kernel
theorem dX9_worthOf_12 : decode cX9_worthOf 12 = .ok (.if_icmp .ge 35, 3) := by decide +kernel
end
section
theorem dX9_worthOf_15 : decode cX9_worthOf 15 = .ok (.iload_n 2, 1) := by decide +kernel
theorem dX9_worthOf_16 : decode cX9_worthOf 16 = .ok (.aload_n 0, 1) := by decide +kernel
theorem dX9_worthOf_17 : decode cX9_worthOf 17 = .ok (.iconst 1, 1) := by decide +kernel
theorem dX9_worthOf_18 : decode cX9_worthOf 18 = .ok (.iload_n 3, 1) := by decide +kernel
theorem dX9_worthOf_19 : decode cX9_worthOf 19 = .ok (.ishl, 1) := by decide +kernel
theorem dX9_worthOf_20 : decode cX9_worthOf 20 = .ok (.invokevirtual 38, 3) := by decide +kernel
theorem dX9_worthOf_23 : decode cX9_worthOf 23 = .ok (.ifCond .eq 14, 3) := by decide +kernel
theorem dX9_worthOf_26 : decode cX9_worthOf 26 = .ok (.aload_n 0, 1) := by decide +kernel
theorem dX9_worthOf_27 : decode cX9_worthOf 27 = .ok (.getfield 9, 3) := by decide +kernel
theorem dX9_worthOf_30 : decode cX9_worthOf 30 = .ok (.iconst 1, 1) := by decide +kernel
theorem dX9_worthOf_31 : decode cX9_worthOf 31 = .ok (.iload_n 3, 1) := by decide +kernel
theorem dX9_worthOf_32 : decode cX9_worthOf 32 = .ok (.ishl, 1) := by decide +kernel
theorem dX9_worthOf_33 : decode cX9_worthOf 33 = .ok (.iaload, 1) := by decide +kernel
theorem dX9_worthOf_34 : decode cX9_worthOf 34 = .ok (.goto 5, 3) := by decide +kernel
theorem dX9_worthOf_37 : decode cX9_worthOf 37 = .ok (.bipush 50, 2) := by decide +kernel
theorem dX9_worthOf_39 : decode cX9_worthOf 39 = .ok (.iadd, 1) := by decide +kernel
theorem dX9_worthOf_40 : decode cX9_worthOf 40 = .ok (.istore_n 2, 1) := by decide +kernel
theorem dX9_worthOf_41 : decode cX9_worthOf 41 = .ok (.iinc 3 1, 3) := by decide +kernel
theorem dX9_worthOf_44 : decode cX9_worthOf 44 = .ok (.goto (-40), 3) := by decide +kernel
theorem dX9_worthOf_47 : decode cX9_worthOf 47 = .ok (.iload_n 2, 1) := by decide +kernel
theorem dX9_worthOf_48 : decode cX9_worthOf 48 = .ok (.ireturn, 1) := by decide +kernel
theorem dX9_fill_0 : decode cX9_fill 0 = .ok (.aload_n 0, 1) := by decide +kernel
theorem dX9_fill_1 : decode cX9_fill 1 = .ok (.iload_n 3, 1) := by decide +kernel
theorem dX9_fill_2 : decode cX9_fill 2 = .ok (.putfield 42, 3) := by decide +kernel
theorem dX9_fill_5 : decode cX9_fill 5 = .ok (.aload_n 0, 1) := by decide +kernel
theorem dX9_fill_6 : decode cX9_fill 6 = .ok (.iload 4, 2) := by decide +kernel
theorem dX9_fill_8 : decode cX9_fill 8 = .ok (.putfield 45, 3) := by decide +kernel
theorem dX9_fill_11 : decode cX9_fill 11 = .ok (.aload_n 0, 1) := by decide +kernel
theorem dX9_fill_12 : decode cX9_fill 12 = .ok (.aload_n 1, 1) := by decide +kernel
theorem dX9_fill_13 : decode cX9_fill 13 = .ok (.aload_n 2, 1) := by decide +kernel
theorem dX9_fill_14 : decode cX9_fill 14 = .ok (.invokevirtual 49, 3) := by decide +kernel
theorem dX9_fill_17 : decode cX9_fill 17 = .ok (.aload_n 1, 1) := by decide +kernel
theorem dX9_fill_18 : decode cX9_fill 18 = .ok (.invokevirtual 53, 3) := by decide +kernel
theorem dX9_fill_21 : decode cX9_fill 21 = .ok (.istore 5, 2) := by decide +kernel
theorem dX9_fill_23 : decode cX9_fill 23 = .ok (.iconst 0, 1) := by decide +kernel
theorem dX9_fill_24 : decode cX9_fill 24 = .ok (.istore 6, 2) := by decide +kernel
theorem dX9_fill_26 : decode cX9_fill 26 = .ok (.iload 6, 2) := by decide +kernel
theorem dX9_fill_28 : decode cX9_fill 28 = .ok (.iload 5, 2) := by decide +kernel
theorem dX9_fill_30 : decode cX9_fill 30 = .ok (.if_icmp .gt 45, 3) := by decide +kernel
theorem dX9_fill_33 : decode cX9_fill 33 = .ok (.aload_n 0, 1) := by decide +kernel
theorem dX9_fill_34 : decode cX9_fill 34 = .ok (.iload 5, 2) := by decide +kernel
theorem dX9_fill_36 : decode cX9_fill 36 = .ok (.invokevirtual 59, 3) := by decide +kernel
theorem dX9_fill_39 : decode cX9_fill 39 = .ok (.istore 7, 2) := by decide +kernel
theorem dX9_fill_41 : decode cX9_fill 41 = .ok (.iload 7, 2) := by decide +kernel
theorem dX9_fill_43 : decode cX9_fill 43 = .ok (.iconst (-1), 1) := by decide +kernel
theorem dX9_fill_44 : decode cX9_fill 44 = .ok (.if_icmp .ne 4, 3) := by decide +kernel
theorem dX9_fill_47 : decode cX9_fill 47 = .ok (.return_, 1) := by decide +kernel
theorem dX9_fill_48 : decode cX9_fill 48 = .ok (.aload_n 0, 1) := by decide +kernel
theorem dX9_fill_49 : decode cX9_fill 49 = .ok (.iload 7, 2) := by decide +kernel
theorem dX9_fill_51 : decode cX9_fill 51 = .ok (.invokevirtual 63, 3) := by decide +kernel
theorem dX9_fill_54 : decode cX9_fill 54 = .ok (.aload_n 0, 1) := by decide +kernel
theorem dX9_fill_55 : decode cX9_fill 55 = .ok (.aload_n 1, 1) := by decide +kernel
theorem dX9_fill_56 : decode cX9_fill 56 = .ok (.aload_n 2, 1) := by decide +kernel
theorem dX9_fill_57 : decode cX9_fill 57 = .ok (.iload 7, 2) := by decide +kernel
theorem dX9_fill_59 : decode cX9_fill 59 = .ok (.invokevirtual 67, 3) := by decide +kernel
theorem dX9_fill_62 : decode cX9_fill 62 = .ok (.aload_n 0, 1) := by decide +kernel
theorem dX9_fill_63 : decode cX9_fill 63 = .ok (.aload_n 2, 1) := by decide +kernel
theorem dX9_fill_64 : decode cX9_fill 64 = .ok (.iload 7, 2) := by decide +kernel
theorem dX9_fill_66 : decode cX9_fill 66 = .ok (.invokevirtual 71, 3) := by decide +kernel
theorem dX9_fill_69 : decode cX9_fill 69 = .ok (.iinc 6 1, 3) := by decide +kernel
theorem dX9_fill_72 : decode cX9_fill 72 = .ok (.goto (-46), 3) := by decide +kernel
theorem dX9_fill_75 : decode cX9_fill 75 = .ok (.return_, 1) := by decide +kernel
theorem dX9_start_0 : decode cX9_start 0 = .ok (.aload_n 0, 1) := by decide +kernel
theorem dX9_start_1 : decode cX9_start 1 = .ok (.iconst 0, 1) := by decide +kernel
theorem dX9_start_2 : decode cX9_start 2 = .ok (.putfield 75, 3) := by decide +kernel
theorem dX9_start_5 : decode cX9_start 5 = .ok (.aload_n 0, 1) := by decide +kernel
theorem dX9_start_6 : decode cX9_start 6 = .ok (.getfield 9, 3) := by decide +kernel
theorem dX9_start_9 : decode cX9_start 9 = .ok (.sipush 1000, 3) := by decide +kernel
theorem dX9_start_12 : decode cX9_start 12 = .ok (.invokestatic 78, 3) := by decide +kernel
theorem dX9_start_15 : decode cX9_start 15 = .ok (.aload_n 0, 1) := by decide +kernel
theorem dX9_start_16 : decode cX9_start 16 = .ok (.getfield 21, 3) := by decide +kernel
theorem dX9_start_19 : decode cX9_start 19 = .ok (.iconst (-1), 1) := by decide +kernel
theorem dX9_start_20 : decode cX9_start 20 = .ok (.invokestatic 78, 3) := by decide +kernel
theorem dX9_start_23 : decode cX9_start 23 = .ok (.aload_n 0, 1) := by decide +kernel
theorem dX9_start_24 : decode cX9_start 24 = .ok (.sipush 1000, 3) := by decide +kernel
theorem dX9_start_27 : decode cX9_start 27 = .ok (.putfield 83, 3) := by decide +kernel
theorem dX9_start_30 : decode cX9_start 30 = .ok (.iconst 0, 1) := by decide +kernel
theorem dX9_start_31 : decode cX9_start 31 = .ok (.istore_n 3, 1) := by decide +kernel
theorem dX9_start_32 : decode cX9_start 32 = .ok (.iload_n 3, 1) := by decide +kernel
theorem dX9_start_33 : decode cX9_start 33 = .ok (.bipush 15, 2) := by decide +kernel
theorem dX9_start_35 : decode cX9_start 35 = .ok (.if_icmp .ge 70, 3) := by decide +kernel
theorem dX9_start_38 : decode cX9_start 38 = .ok (.iload_n 3, 1) := by decide +kernel
theorem dX9_start_39 : decode cX9_start 39 = .ok (.aload_n 2, 1) := by decide +kernel
theorem dX9_start_40 : decode cX9_start 40 = .ok (.arraylength, 1) := by decide +kernel
theorem dX9_start_41 : decode cX9_start 41 = .ok (.if_icmp .ge 64, 3) := by decide +kernel
theorem dX9_start_44 : decode cX9_start 44 = .ok (.aload_n 0, 1) := by decide +kernel
theorem dX9_start_45 : decode cX9_start 45 = .ok (.getfield 42, 3) := by decide +kernel
theorem dX9_start_48 : decode cX9_start 48 = .ok (.iload_n 3, 1) := by decide +kernel
theorem dX9_start_49 : decode cX9_start 49 = .ok (.invokestatic 88, 3) := by decide +kernel
theorem dX9_start_52 : decode cX9_start 52 = .ok (.ifCond .ne 6, 3) := by decide +kernel
theorem dX9_start_55 : decode cX9_start 55 = .ok (.goto 44, 3) := by decide +kernel
theorem dX9_start_58 : decode cX9_start 58 = .ok (.iload_n 3, 1) := by decide +kernel
theorem dX9_start_59 : decode cX9_start 59 = .ok (.invokestatic 91, 3) := by decide +kernel
theorem dX9_start_62 : decode cX9_start 62 = .ok (.ifCond .ne 15, 3) := by decide +kernel
theorem dX9_start_65 : decode cX9_start 65 = .ok (.aload_n 0, 1) := by decide +kernel
theorem dX9_start_66 : decode cX9_start 66 = .ok (.aload_n 1, 1) := by decide +kernel
theorem dX9_start_67 : decode cX9_start 67 = .ok (.aload_n 2, 1) := by decide +kernel
theorem dX9_start_68 : decode cX9_start 68 = .ok (.iload_n 3, 1) := by decide +kernel
theorem dX9_start_69 : decode cX9_start 69 = .ok (.iaload, 1) := by decide +kernel
theorem dX9_start_70 : decode cX9_start 70 = .ok (.iload_n 3, 1) := by decide +kernel
theorem dX9_start_71 : decode cX9_start 71 = .ok (.invokevirtual 94, 3) := by decide +kernel
theorem dX9_start_74 : decode cX9_start 74 = .ok (.goto 25, 3) := by decide +kernel
theorem dX9_start_77 : decode cX9_start 77 = .ok (.iload_n 3, 1) := by decide +kernel
theorem dX9_start_78 : decode cX9_start 78 = .ok (.invokestatic 91, 3) := by decide +kernel
theorem dX9_start_81 : decode cX9_start 81 = .ok (.iconst 2, 1) := by decide +kernel
theorem dX9_start_82 : decode cX9_start 82 = .ok (.if_icmp .ne 17, 3) := by decide +kernel
theorem dX9_start_85 : decode cX9_start 85 = .ok (.aload_n 0, 1) := by decide +kernel
theorem dX9_start_86 : decode cX9_start 86 = .ok (.aload_n 0, 1) := by decide +kernel
theorem dX9_start_87 : decode cX9_start 87 = .ok (.getfield 83, 3) := by decide +kernel
theorem dX9_start_90 : decode cX9_start 90 = .ok (.aload_n 2, 1) := by decide +kernel
theorem dX9_start_91 : decode cX9_start 91 = .ok (.iload_n 3, 1) := by decide +kernel
theorem dX9_start_92 : decode cX9_start 92 = .ok (.iaload, 1) := by decide +kernel
theorem dX9_start_93 : decode cX9_start 93 = .ok (.invokestatic 98, 3) := by decide +kernel
theorem dX9_start_96 : decode cX9_start 96 = .ok (.putfield 83, 3) := by decide +kernel
theorem dX9_start_99 : decode cX9_start 99 = .ok (.iinc 3 1, 3) := by decide +kernel
theorem dX9_start_102 : decode cX9_start 102 = .ok (.goto (-70), 3) := by decide +kernel
theorem dX9_start_105 : decode cX9_start 105 = .ok (.return_, 1) := by decide +kernel
theorem dX9_offerNamed_0 : decode cX9_offerNamed 0 = .ok (.iconst 1, 1) := by decide +kernel
theorem dX9_offerNamed_1 : decode cX9_offerNamed 1 = .ok (.iload_n 3, 1) := by decide +kernel
theorem dX9_offerNamed_2 : decode cX9_offerNamed 2 = .ok (.invokestatic 104, 3) := by decide +kernel
theorem dX9_offerNamed_5 : decode cX9_offerNamed 5 = .ok (.invokestatic 107, 3) := by decide +kernel
theorem dX9_offerNamed_8 : decode cX9_offerNamed 8 = .ok (.istore 4, 2) := by decide +kernel
theorem dX9_offerNamed_10 : decode cX9_offerNamed 10 = .ok (.iconst 0, 1) := by decide +kernel
theorem dX9_offerNamed_11 : decode cX9_offerNamed 11 = .ok (.istore 5, 2) := by decide +kernel
theorem dX9_offerNamed_13 : decode cX9_offerNamed 13 = .ok (.iload 5, 2) := by decide +kernel
theorem dX9_offerNamed_15 : decode cX9_offerNamed 15 = .ok (.iload 4, 2) := by decide +kernel
theorem dX9_offerNamed_17 : decode cX9_offerNamed 17 = .ok (.if_icmp .ge 34, 3) := by decide +kernel
theorem dX9_offerNamed_20 : decode cX9_offerNamed 20 = .ok (.bipush 8, 2) := by decide +kernel
theorem dX9_offerNamed_22 : decode cX9_offerNamed 22 = .ok (.iload_n 3, 1) := by decide +kernel
theorem dX9_offerNamed_23 : decode cX9_offerNamed 23 = .ok (.imul, 1) := by decide +kernel
theorem dX9_offerNamed_24 : decode cX9_offerNamed 24 = .ok (.iload 5, 2) := by decide +kernel
theorem dX9_offerNamed_26 : decode cX9_offerNamed 26 = .ok (.iadd, 1) := by decide +kernel
theorem dX9_offerNamed_27 : decode cX9_offerNamed 27 = .ok (.istore 6, 2) := by decide +kernel
theorem dX9_offerNamed_29 : decode cX9_offerNamed 29 = .ok (.aload_n 0, 1) := by decide +kernel
theorem dX9_offerNamed_30 : decode cX9_offerNamed 30 = .ok (.aload_n 1, 1) := by decide +kernel
theorem dX9_offerNamed_31 : decode cX9_offerNamed 31 = .ok (.iload 6, 2) := by decide +kernel
theorem dX9_offerNamed_33 : decode cX9_offerNamed 33 = .ok (.invokevirtual 110, 3) := by decide +kernel
theorem dX9_offerNamed_36 : decode cX9_offerNamed 36 = .ok (.iload_n 2, 1) := by decide +kernel
theorem dX9_offerNamed_37 : decode cX9_offerNamed 37 = .ok (.iload 6, 2) := by decide +kernel
theorem dX9_offerNamed_39 : decode cX9_offerNamed 39 = .ok (.bipush 16, 2) := by decide +kernel
theorem dX9_offerNamed_41 : decode cX9_offerNamed 41 = .ok (.ishl, 1) := by decide +kernel
theorem dX9_offerNamed_42 : decode cX9_offerNamed 42 = .ok (.invokevirtual 113, 3) := by decide +kernel
theorem dX9_offerNamed_45 : decode cX9_offerNamed 45 = .ok (.iinc 5 1, 3) := by decide +kernel
theorem dX9_offerNamed_48 : decode cX9_offerNamed 48 = .ok (.goto (-35), 3) := by decide +kernel
theorem dX9_offerNamed_51 : decode cX9_offerNamed 51 = .ok (.return_, 1) := by decide +kernel
theorem dX9_nearest_0 : decode cX9_nearest 0 = .ok (.iconst (-1), 1) := by decide +kernel
theorem dX9_nearest_1 : decode cX9_nearest 1 = .ok (.istore_n 2, 1) := by decide +kernel
theorem dX9_nearest_2 : decode cX9_nearest 2 = .ok (.sipush 1000, 3) := by decide +kernel
theorem dX9_nearest_5 : decode cX9_nearest 5 = .ok (.istore_n 3, 1) := by decide +kernel
theorem dX9_nearest_6 : decode cX9_nearest 6 = .ok (.aload_n 0, 1) := by decide +kernel
theorem dX9_nearest_7 : decode cX9_nearest 7 = .ok (.iconst (-1), 1) := by decide +kernel
theorem dX9_nearest_8 : decode cX9_nearest 8 = .ok (.putfield 117, 3) := by decide +kernel
theorem dX9_nearest_11 : decode cX9_nearest 11 = .ok (.iconst 0, 1) := by decide +kernel
theorem dX9_nearest_12 : decode cX9_nearest 12 = .ok (.istore 4, 2) := by decide +kernel
theorem dX9_nearest_14 : decode cX9_nearest 14 = .ok (.iload 4, 2) := by decide +kernel
theorem dX9_nearest_16 : decode cX9_nearest 16 = .ok (.iload_n 1, 1) := by decide +kernel
theorem dX9_nearest_17 : decode cX9_nearest 17 = .ok (.if_icmp .gt 94, 3) := by decide +kernel
theorem dX9_nearest_20 : decode cX9_nearest 20 = .ok (.iload 4, 2) := by decide +kernel
theorem dX9_nearest_22 : decode cX9_nearest 22 = .ok (.sipush 256, 3) := by decide +kernel
theorem dX9_nearest_25 : decode cX9_nearest 25 = .ok (.if_icmp .ge 86, 3) := by decide +kernel
theorem dX9_nearest_28 : decode cX9_nearest 28 = .ok (.aload_n 0, 1) := by decide +kernel
theorem dX9_nearest_29 : decode cX9_nearest 29 = .ok (.getfield 21, 3) := by decide +kernel
theorem dX9_nearest_32 : decode cX9_nearest 32 = .ok (.iload 4, 2) := by decide +kernel
theorem dX9_nearest_34 : decode cX9_nearest 34 = .ok (.iaload, 1) := by decide +kernel
theorem dX9_nearest_35 : decode cX9_nearest 35 = .ok (.iconst (-1), 1) := by decide +kernel
theorem dX9_nearest_36 : decode cX9_nearest 36 = .ok (.if_icmp .eq 6, 3) := by decide +kernel
theorem dX9_nearest_39 : decode cX9_nearest 39 = .ok (.goto 66, 3) := by decide +kernel
theorem dX9_nearest_42 : decode cX9_nearest 42 = .ok (.aload_n 0, 1) := by decide +kernel
theorem dX9_nearest_43 : decode cX9_nearest 43 = .ok (.getfield 9, 3) := by decide +kernel
theorem dX9_nearest_46 : decode cX9_nearest 46 = .ok (.iload 4, 2) := by decide +kernel
theorem dX9_nearest_48 : decode cX9_nearest 48 = .ok (.iaload, 1) := by decide +kernel
theorem dX9_nearest_49 : decode cX9_nearest 49 = .ok (.iload_n 3, 1) := by decide +kernel
theorem dX9_nearest_50 : decode cX9_nearest 50 = .ok (.if_icmp .ge 14, 3) := by decide +kernel
theorem dX9_nearest_53 : decode cX9_nearest 53 = .ok (.aload_n 0, 1) := by decide +kernel
theorem dX9_nearest_54 : decode cX9_nearest 54 = .ok (.getfield 9, 3) := by decide +kernel
theorem dX9_nearest_57 : decode cX9_nearest 57 = .ok (.iload 4, 2) := by decide +kernel
theorem dX9_nearest_59 : decode cX9_nearest 59 = .ok (.iaload, 1) := by decide +kernel
theorem dX9_nearest_60 : decode cX9_nearest 60 = .ok (.istore_n 3, 1) := by decide +kernel
theorem dX9_nearest_61 : decode cX9_nearest 61 = .ok (.iload 4, 2) := by decide +kernel
theorem dX9_nearest_63 : decode cX9_nearest 63 = .ok (.istore_n 2, 1) := by decide +kernel
theorem dX9_nearest_64 : decode cX9_nearest 64 = .ok (.aload_n 0, 1) := by decide +kernel
theorem dX9_nearest_65 : decode cX9_nearest 65 = .ok (.getfield 9, 3) := by decide +kernel
theorem dX9_nearest_68 : decode cX9_nearest 68 = .ok (.iload 4, 2) := by decide +kernel
theorem dX9_nearest_70 : decode cX9_nearest 70 = .ok (.iaload, 1) := by decide +kernel
theorem dX9_nearest_71 : decode cX9_nearest 71 = .ok (.aload_n 0, 1) := by decide +kernel
theorem dX9_nearest_72 : decode cX9_nearest 72 = .ok (.getfield 117, 3) := by decide +kernel
theorem dX9_nearest_75 : decode cX9_nearest 75 = .ok (.if_icmp .le 30, 3) := by decide +kernel
theorem dX9_nearest_78 : decode cX9_nearest 78 = .ok (.aload_n 0, 1) := by decide +kernel
theorem dX9_nearest_79 : decode cX9_nearest 79 = .ok (.getfield 45, 3) := by decide +kernel
theorem dX9_nearest_82 : decode cX9_nearest 82 = .ok (.ifCond .eq 12, 3) := by decide +kernel
theorem dX9_nearest_85 : decode cX9_nearest 85 = .ok (.iload 4, 2) := by decide +kernel
theorem dX9_nearest_87 : decode cX9_nearest 87 = .ok (.invokestatic 120, 3) := by decide +kernel
theorem dX9_nearest_90 : decode cX9_nearest 90 = .ok (.iconst 1, 1) := by decide +kernel
theorem dX9_nearest_91 : decode cX9_nearest 91 = .ok (.if_icmp .ne 14, 3) := by decide +kernel
theorem dX9_nearest_94 : decode cX9_nearest 94 = .ok (.aload_n 0, 1) := by decide +kernel
theorem dX9_nearest_95 : decode cX9_nearest 95 = .ok (.aload_n 0, 1) := by decide +kernel
theorem dX9_nearest_96 : decode cX9_nearest 96 = .ok (.getfield 9, 3) := by decide +kernel
theorem dX9_nearest_99 : decode cX9_nearest 99 = .ok (.iload 4, 2) := by decide +kernel
theorem dX9_nearest_101 : decode cX9_nearest 101 = .ok (.iaload, 1) := by decide +kernel
theorem dX9_nearest_102 : decode cX9_nearest 102 = .ok (.putfield 117, 3) := by decide +kernel
theorem dX9_nearest_105 : decode cX9_nearest 105 = .ok (.iinc 4 1, 3) := by decide +kernel
theorem dX9_nearest_108 : decode cX9_nearest 108 = .ok (.goto (-94), 3) := by decide +kernel
theorem dX9_nearest_111 : decode cX9_nearest 111 = .ok (.aload_n 0, 1) := by decide +kernel
theorem dX9_nearest_112 : decode cX9_nearest 112 = .ok (.getfield 117, 3) := by decide +kernel
theorem dX9_nearest_115 : decode cX9_nearest 115 = .ok (.iconst (-1), 1) := by decide +kernel
theorem dX9_nearest_116 : decode cX9_nearest 116 = .ok (.if_icmp .ne 7, 3) := by decide +kernel
theorem dX9_nearest_119 : decode cX9_nearest 119 = .ok (.iconst (-1), 1) := by decide +kernel
theorem dX9_nearest_120 : decode cX9_nearest 120 = .ok (.goto 4, 3) := by decide +kernel
theorem dX9_nearest_123 : decode cX9_nearest 123 = .ok (.iload_n 2, 1) := by decide +kernel
theorem dX9_nearest_124 : decode cX9_nearest 124 = .ok (.ireturn, 1) := by decide +kernel
theorem dX9_reach_0 : decode cX9_reach 0 = .ok (.aload_n 0, 1) := by decide +kernel
theorem dX9_reach_1 : decode cX9_reach 1 = .ok (.getfield 75, 3) := by decide +kernel
theorem dX9_reach_4 : decode cX9_reach 4 = .ok (.sipush 256, 3) := by decide +kernel
theorem dX9_reach_7 : decode cX9_reach 7 = .ok (.if_icmp .ge 13, 3) := by decide +kernel
theorem dX9_reach_10 : decode cX9_reach 10 = .ok (.iload_n 1, 1) := by decide +kernel
theorem dX9_reach_11 : decode cX9_reach 11 = .ok (.sipush 256, 3) := by decide +kernel
theorem dX9_reach_14 : decode cX9_reach 14 = .ok (.invokestatic 34, 3) := by decide +kernel
theorem dX9_reach_17 : decode cX9_reach 17 = .ok (.ifCond .ne 4, 3) := by decide +kernel
theorem dX9_reach_20 : decode cX9_reach 20 = .ok (.return_, 1) := by decide +kernel
theorem dX9_reach_21 : decode cX9_reach 21 = .ok (.aload_n 0, 1) := by decide +kernel
theorem dX9_reach_22 : decode cX9_reach 22 = .ok (.getfield 18, 3) := by decide +kernel
theorem dX9_reach_25 : decode cX9_reach 25 = .ok (.iload_n 1, 1) := by decide +kernel
theorem dX9_reach_26 : decode cX9_reach 26 = .ok (.iaload, 1) := by decide +kernel
theorem dX9_reach_27 : decode cX9_reach 27 = .ok (.istore_n 2, 1) := by decide +kernel
theorem dX9_reach_28 : decode cX9_reach 28 = .ok (.iload_n 2, 1) := by decide +kernel
theorem dX9_reach_29 : decode cX9_reach 29 = .ok (.bipush 19, 2) := by decide +kernel
theorem dX9_reach_31 : decode cX9_reach 31 = .ok (.ishr, 1) := by decide +kernel
theorem dX9_reach_32 : decode cX9_reach 32 = .ok (.invokestatic 91, 3) := by decide +kernel
theorem dX9_reach_35 : decode cX9_reach 35 = .ok (.istore_n 3, 1) := by decide +kernel
theorem dX9_reach_36 : decode cX9_reach 36 = .ok (.aload_n 0, 1) := by decide +kernel
theorem dX9_reach_37 : decode cX9_reach 37 = .ok (.getfield 15, 3) := by decide +kernel
theorem dX9_reach_40 : decode cX9_reach 40 = .ok (.iload_n 1, 1) := by decide +kernel
theorem dX9_reach_41 : decode cX9_reach 41 = .ok (.iconst 1, 1) := by decide +kernel
theorem dX9_reach_42 : decode cX9_reach 42 = .ok (.iload_n 3, 1) := by decide +kernel
theorem dX9_reach_43 : decode cX9_reach 43 = .ok (.ifCond .le 19, 3) := by decide +kernel
theorem dX9_reach_46 : decode cX9_reach 46 = .ok (.aload_n 0, 1) := by decide +kernel
theorem dX9_reach_47 : decode cX9_reach 47 = .ok (.getfield 15, 3) := by decide +kernel
theorem dX9_reach_50 : decode cX9_reach 50 = .ok (.iload_n 2, 1) := by decide +kernel
theorem dX9_reach_51 : decode cX9_reach 51 = .ok (.bipush 8, 2) := by decide +kernel
theorem dX9_reach_53 : decode cX9_reach 53 = .ok (.ishr, 1) := by decide +kernel
theorem dX9_reach_54 : decode cX9_reach 54 = .ok (.sipush 255, 3) := by decide +kernel
theorem dX9_reach_57 : decode cX9_reach 57 = .ok (.iand, 1) := by decide +kernel
theorem dX9_reach_58 : decode cX9_reach 58 = .ok (.iaload, 1) := by decide +kernel
theorem dX9_reach_59 : decode cX9_reach 59 = .ok (.goto 4, 3) := by decide +kernel
theorem dX9_reach_62 : decode cX9_reach 62 = .ok (.iconst 0, 1) := by decide +kernel
theorem dX9_reach_63 : decode cX9_reach 63 = .ok (.iadd, 1) := by decide +kernel
theorem dX9_reach_64 : decode cX9_reach 64 = .ok (.iload_n 3, 1) := by decide +kernel
theorem dX9_reach_65 : decode cX9_reach 65 = .ok (.iconst 1, 1) := by decide +kernel
theorem dX9_reach_66 : decode cX9_reach 66 = .ok (.if_icmp .le 16, 3) := by decide +kernel
theorem dX9_reach_69 : decode cX9_reach 69 = .ok (.aload_n 0, 1) := by decide +kernel
theorem dX9_reach_70 : decode cX9_reach 70 = .ok (.getfield 15, 3) := by decide +kernel
theorem dX9_reach_73 : decode cX9_reach 73 = .ok (.iload_n 2, 1) := by decide +kernel
theorem dX9_reach_74 : decode cX9_reach 74 = .ok (.sipush 255, 3) := by decide +kernel
theorem dX9_reach_77 : decode cX9_reach 77 = .ok (.iand, 1) := by decide +kernel
theorem dX9_reach_78 : decode cX9_reach 78 = .ok (.iaload, 1) := by decide +kernel
theorem dX9_reach_79 : decode cX9_reach 79 = .ok (.goto 4, 3) := by decide +kernel
theorem dX9_reach_82 : decode cX9_reach 82 = .ok (.iconst 0, 1) := by decide +kernel
theorem dX9_reach_83 : decode cX9_reach 83 = .ok (.iadd, 1) := by decide +kernel
theorem dX9_reach_84 : decode cX9_reach 84 = .ok (.iastore, 1) := by decide +kernel
theorem dX9_reach_85 : decode cX9_reach 85 = .ok (.aload_n 0, 1) := by decide +kernel
theorem dX9_reach_86 : decode cX9_reach 86 = .ok (.getfield 75, 3) := by decide +kernel
theorem dX9_reach_89 : decode cX9_reach 89 = .ok (.istore 4, 2) := by decide +kernel
theorem dX9_reach_91 : decode cX9_reach 91 = .ok (.iload 4, 2) := by decide +kernel
theorem dX9_reach_93 : decode cX9_reach 93 = .ok (.ifCond .le 69, 3) := by decide +kernel
theorem dX9_reach_96 : decode cX9_reach 96 = .ok (.aload_n 0, 1) := by decide +kernel
theorem dX9_reach_97 : decode cX9_reach 97 = .ok (.iload_n 2, 1) := by decide +kernel
theorem dX9_reach_98 : decode cX9_reach 98 = .ok (.aload_n 0, 1) := by decide +kernel
theorem dX9_reach_99 : decode cX9_reach 99 = .ok (.getfield 18, 3) := by decide +kernel
theorem dX9_reach_102 : decode cX9_reach 102 = .ok (.aload_n 0, 1) := by decide +kernel
theorem dX9_reach_103 : decode cX9_reach 103 = .ok (.getfield 24, 3) := by decide +kernel
theorem dX9_reach_106 : decode cX9_reach 106 = .ok (.iload 4, 2) := by decide +kernel
theorem dX9_reach_108 : decode cX9_reach 108 = .ok (.iconst 1, 1) := by decide +kernel
theorem dX9_reach_109 : decode cX9_reach 109 = .ok (.isub, 1) := by decide +kernel
theorem dX9_reach_110 : decode cX9_reach 110 = .ok (.iaload, 1) := by decide +kernel
theorem dX9_reach_111 : decode cX9_reach 111 = .ok (.sipush 255, 3) := by decide +kernel
theorem dX9_reach_114 : decode cX9_reach 114 = .ok (.iand, 1) := by decide +kernel
theorem dX9_reach_115 : decode cX9_reach 115 = .ok (.iaload, 1) := by decide +kernel
theorem dX9_reach_116 : decode cX9_reach 116 = .ok (.invokevirtual 125, 3) := by decide +kernel
theorem dX9_reach_119 : decode cX9_reach 119 = .ok (.ifCond .eq 43, 3) := by decide +kernel
theorem dX9_reach_122 : decode cX9_reach 122 = .ok (.aload_n 0, 1) := by decide +kernel
theorem dX9_reach_123 : decode cX9_reach 123 = .ok (.getfield 24, 3) := by decide +kernel
theorem dX9_reach_126 : decode cX9_reach 126 = .ok (.iload 4, 2) := by decide +kernel
theorem dX9_reach_128 : decode cX9_reach 128 = .ok (.aload_n 0, 1) := by decide +kernel
theorem dX9_reach_129 : decode cX9_reach 129 = .ok (.getfield 24, 3) := by decide +kernel
theorem dX9_reach_132 : decode cX9_reach 132 = .ok (.iload 4, 2) := by decide +kernel
theorem dX9_reach_134 : decode cX9_reach 134 = .ok (.iconst 1, 1) := by decide +kernel
theorem dX9_reach_135 : decode cX9_reach 135 = .ok (.isub, 1) := by decide +kernel
theorem dX9_reach_136 : decode cX9_reach 136 = .ok (.iaload, 1) := by decide +kernel
theorem dX9_reach_137 : decode cX9_reach 137 = .ok (.iastore, 1) := by decide +kernel
theorem dX9_reach_138 : decode cX9_reach 138 = .ok (.aload_n 0, 1) := by decide +kernel
theorem dX9_reach_139 : decode cX9_reach 139 = .ok (.getfield 21, 3) := by decide +kernel
theorem dX9_reach_142 : decode cX9_reach 142 = .ok (.aload_n 0, 1) := by decide +kernel
theorem dX9_reach_143 : decode cX9_reach 143 = .ok (.getfield 24, 3) := by decide +kernel
theorem dX9_reach_146 : decode cX9_reach 146 = .ok (.iload 4, 2) := by decide +kernel
theorem dX9_reach_148 : decode cX9_reach 148 = .ok (.iaload, 1) := by decide +kernel
theorem dX9_reach_149 : decode cX9_reach 149 = .ok (.sipush 255, 3) := by decide +kernel
theorem dX9_reach_152 : decode cX9_reach 152 = .ok (.iand, 1) := by decide +kernel
theorem dX9_reach_153 : decode cX9_reach 153 = .ok (.iload 4, 2) := by decide +kernel
theorem dX9_reach_155 : decode cX9_reach 155 = .ok (.iastore, 1) := by decide +kernel
theorem dX9_reach_156 : decode cX9_reach 156 = .ok (.iinc 4 (-1), 3) := by decide +kernel
theorem dX9_reach_159 : decode cX9_reach 159 = .ok (.goto (-68), 3) := by decide +kernel
theorem dX9_reach_162 : decode cX9_reach 162 = .ok (.aload_n 0, 1) := by decide +kernel
theorem dX9_reach_163 : decode cX9_reach 163 = .ok (.getfield 24, 3) := by decide +kernel
theorem dX9_reach_166 : decode cX9_reach 166 = .ok (.iload 4, 2) := by decide +kernel
theorem dX9_reach_168 : decode cX9_reach 168 = .ok (.iload_n 1, 1) := by decide +kernel
theorem dX9_reach_169 : decode cX9_reach 169 = .ok (.iastore, 1) := by decide +kernel
theorem dX9_reach_170 : decode cX9_reach 170 = .ok (.aload_n 0, 1) := by decide +kernel
theorem dX9_reach_171 : decode cX9_reach 171 = .ok (.getfield 21, 3) := by decide +kernel
theorem dX9_reach_174 : decode cX9_reach 174 = .ok (.iload_n 1, 1) := by decide +kernel
theorem dX9_reach_175 : decode cX9_reach 175 = .ok (.iload 4, 2) := by decide +kernel
theorem dX9_reach_177 : decode cX9_reach 177 = .ok (.iastore, 1) := by decide +kernel
theorem dX9_reach_178 : decode cX9_reach 178 = .ok (.aload_n 0, 1) := by decide +kernel
theorem dX9_reach_179 : decode cX9_reach 179 = .ok (.getfield 27, 3) := by decide +kernel
theorem dX9_reach_182 : decode cX9_reach 182 = .ok (.aload_n 0, 1) := by decide +kernel
theorem dX9_reach_183 : decode cX9_reach 183 = .ok (.dup, 1) := by decide +kernel
theorem dX9_reach_184 : decode cX9_reach 184 = .ok (.getfield 75, 3) := by decide +kernel
theorem dX9_reach_187 : decode cX9_reach 187 = .ok (.dup_x1, 1) := by decide +kernel
theorem dX9_reach_188 : decode cX9_reach 188 = .ok (.iconst 1, 1) := by decide +kernel
theorem dX9_reach_189 : decode cX9_reach 189 = .ok (.iadd, 1) := by decide +kernel
theorem dX9_reach_190 : decode cX9_reach 190 = .ok (.putfield 75, 3) := by decide +kernel
theorem dX9_reach_193 : decode cX9_reach 193 = .ok (.iload_n 1, 1) := by decide +kernel
theorem dX9_reach_194 : decode cX9_reach 194 = .ok (.iastore, 1) := by decide +kernel
theorem dX9_reach_195 : decode cX9_reach 195 = .ok (.return_, 1) := by decide +kernel
theorem dX9_turn_0 : decode cX9_turn 0 = .ok (.iconst 4, 1) := by decide +kernel
theorem dX9_turn_1 : decode cX9_turn 1 = .ok (.istore 4, 2) := by decide +kernel
theorem dX9_turn_3 : decode cX9_turn 3 = .ok (.iload 4, 2) := by decide +kernel
theorem dX9_turn_5 : decode cX9_turn 5 = .ok (.bipush 15, 2) := by decide +kernel
theorem dX9_turn_7 : decode cX9_turn 7 = .ok (.if_icmp .ge 82, 3) := by decide +kernel
theorem dX9_turn_10 : decode cX9_turn 10 = .ok (.iload 4, 2) := by decide +kernel
theorem dX9_turn_12 : decode cX9_turn 12 = .ok (.aload_n 2, 1) := by decide +kernel
theorem dX9_turn_13 : decode cX9_turn 13 = .ok (.arraylength, 1) := by decide +kernel
theorem dX9_turn_14 : decode cX9_turn 14 = .ok (.if_icmp .ge 75, 3) := by decide +kernel
theorem dX9_turn_17 : decode cX9_turn 17 = .ok (.iload 4, 2) := by decide +kernel
theorem dX9_turn_19 : decode cX9_turn 19 = .ok (.invokestatic 91, 3) := by decide +kernel
theorem dX9_turn_22 : decode cX9_turn 22 = .ok (.iconst 1, 1) := by decide +kernel
theorem dX9_turn_23 : decode cX9_turn 23 = .ok (.if_icmp .ne 60, 3) := by decide +kernel
theorem dX9_turn_26 : decode cX9_turn 26 = .ok (.aload_n 0, 1) := by decide +kernel
theorem dX9_turn_27 : decode cX9_turn 27 = .ok (.getfield 42, 3) := by decide +kernel
theorem dX9_turn_30 : decode cX9_turn 30 = .ok (.iload 4, 2) := by decide +kernel
theorem dX9_turn_32 : decode cX9_turn 32 = .ok (.invokestatic 88, 3) := by decide +kernel
theorem dX9_turn_35 : decode cX9_turn 35 = .ok (.ifCond .eq 48, 3) := by decide +kernel
theorem dX9_turn_38 : decode cX9_turn 38 = .ok (.aload_n 0, 1) := by decide +kernel
theorem dX9_turn_39 : decode cX9_turn 39 = .ok (.getfield 9, 3) := by decide +kernel
theorem dX9_turn_42 : decode cX9_turn 42 = .ok (.iload_n 3, 1) := by decide +kernel
theorem dX9_turn_43 : decode cX9_turn 43 = .ok (.iaload, 1) := by decide +kernel
theorem dX9_turn_44 : decode cX9_turn 44 = .ok (.aload_n 2, 1) := by decide +kernel
theorem dX9_turn_45 : decode cX9_turn 45 = .ok (.iload 4, 2) := by decide +kernel
theorem dX9_turn_47 : decode cX9_turn 47 = .ok (.iaload, 1) := by decide +kernel
theorem dX9_turn_48 : decode cX9_turn 48 = .ok (.iadd, 1) := by decide +kernel
theorem dX9_turn_49 : decode cX9_turn 49 = .ok (.istore 5, 2) := by decide +kernel
theorem dX9_turn_51 : decode cX9_turn 51 = .ok (.iload 5, 2) := by decide +kernel
theorem dX9_turn_53 : decode cX9_turn 53 = .ok (.aload_n 0, 1) := by decide +kernel
theorem dX9_turn_54 : decode cX9_turn 54 = .ok (.getfield 117, 3) := by decide +kernel
theorem dX9_turn_57 : decode cX9_turn 57 = .ok (.if_icmp .gt 26, 3) := by decide +kernel
theorem dX9_turn_60 : decode cX9_turn 60 = .ok (.aload_n 0, 1) := by decide +kernel
theorem dX9_turn_61 : decode cX9_turn 61 = .ok (.aload_n 1, 1) := by decide +kernel
theorem dX9_turn_62 : decode cX9_turn 62 = .ok (.iload 4, 2) := by decide +kernel
theorem dX9_turn_64 : decode cX9_turn 64 = .ok (.iload_n 3, 1) := by decide +kernel
theorem dX9_turn_65 : decode cX9_turn 65 = .ok (.invokevirtual 128, 3) := by decide +kernel
theorem dX9_turn_68 : decode cX9_turn 68 = .ok (.iload 5, 2) := by decide +kernel
theorem dX9_turn_70 : decode cX9_turn 70 = .ok (.iload 4, 2) := by decide +kernel
theorem dX9_turn_72 : decode cX9_turn 72 = .ok (.bipush 19, 2) := by decide +kernel
theorem dX9_turn_74 : decode cX9_turn 74 = .ok (.ishl, 1) := by decide +kernel
theorem dX9_turn_75 : decode cX9_turn 75 = .ok (.iload_n 3, 1) := by decide +kernel
theorem dX9_turn_76 : decode cX9_turn 76 = .ok (.bipush 8, 2) := by decide +kernel
theorem dX9_turn_78 : decode cX9_turn 78 = .ok (.ishl, 1) := by decide +kernel
theorem dX9_turn_79 : decode cX9_turn 79 = .ok (.ior, 1) := by decide +kernel
theorem dX9_turn_80 : decode cX9_turn 80 = .ok (.invokevirtual 113, 3) := by decide +kernel
theorem dX9_turn_83 : decode cX9_turn 83 = .ok (.iinc 4 1, 3) := by decide +kernel
theorem dX9_turn_86 : decode cX9_turn 86 = .ok (.goto (-83), 3) := by decide +kernel
theorem dX9_turn_89 : decode cX9_turn 89 = .ok (.return_, 1) := by decide +kernel
theorem dX9_joinAll_0 : decode cX9_joinAll 0 = .ok (.iconst 0, 1) := by decide +kernel
theorem dX9_joinAll_1 : decode cX9_joinAll 1 = .ok (.istore_n 3, 1) := by decide +kernel
theorem dX9_joinAll_2 : decode cX9_joinAll 2 = .ok (.iload_n 3, 1) := by decide +kernel
theorem dX9_joinAll_3 : decode cX9_joinAll 3 = .ok (.aload_n 0, 1) := by decide +kernel
theorem dX9_joinAll_4 : decode cX9_joinAll 4 = .ok (.getfield 75, 3) := by decide +kernel
theorem dX9_joinAll_7 : decode cX9_joinAll 7 = .ok (.if_icmp .ge 90, 3) := by decide +kernel
theorem dX9_joinAll_10 : decode cX9_joinAll 10 = .ok (.iload_n 3, 1) := by decide +kernel
theorem dX9_joinAll_11 : decode cX9_joinAll 11 = .ok (.sipush 256, 3) := by decide +kernel
theorem dX9_joinAll_14 : decode cX9_joinAll 14 = .ok (.if_icmp .ge 83, 3) := by decide +kernel
theorem dX9_joinAll_17 : decode cX9_joinAll 17 = .ok (.aload_n 0, 1) := by decide +kernel
theorem dX9_joinAll_18 : decode cX9_joinAll 18 = .ok (.getfield 27, 3) := by decide +kernel
theorem dX9_joinAll_21 : decode cX9_joinAll 21 = .ok (.iload_n 3, 1) := by decide +kernel
theorem dX9_joinAll_22 : decode cX9_joinAll 22 = .ok (.iaload, 1) := by decide +kernel
theorem dX9_joinAll_23 : decode cX9_joinAll 23 = .ok (.sipush 255, 3) := by decide +kernel
theorem dX9_joinAll_26 : decode cX9_joinAll 26 = .ok (.iand, 1) := by decide +kernel
theorem dX9_joinAll_27 : decode cX9_joinAll 27 = .ok (.istore 4, 2) := by decide +kernel
theorem dX9_joinAll_29 : decode cX9_joinAll 29 = .ok (.aload_n 0, 1) := by decide +kernel
theorem dX9_joinAll_30 : decode cX9_joinAll 30 = .ok (.getfield 9, 3) := by decide +kernel
theorem dX9_joinAll_33 : decode cX9_joinAll 33 = .ok (.iload_n 2, 1) := by decide +kernel
theorem dX9_joinAll_34 : decode cX9_joinAll 34 = .ok (.iaload, 1) := by decide +kernel
theorem dX9_joinAll_35 : decode cX9_joinAll 35 = .ok (.aload_n 0, 1) := by decide +kernel
theorem dX9_joinAll_36 : decode cX9_joinAll 36 = .ok (.getfield 9, 3) := by decide +kernel
theorem dX9_joinAll_39 : decode cX9_joinAll 39 = .ok (.iload 4, 2) := by decide +kernel
theorem dX9_joinAll_41 : decode cX9_joinAll 41 = .ok (.iaload, 1) := by decide +kernel
theorem dX9_joinAll_42 : decode cX9_joinAll 42 = .ok (.iadd, 1) := by decide +kernel
theorem dX9_joinAll_43 : decode cX9_joinAll 43 = .ok (.aload_n 0, 1) := by decide +kernel
theorem dX9_joinAll_44 : decode cX9_joinAll 44 = .ok (.getfield 83, 3) := by decide +kernel
theorem dX9_joinAll_47 : decode cX9_joinAll 47 = .ok (.iadd, 1) := by decide +kernel
theorem dX9_joinAll_48 : decode cX9_joinAll 48 = .ok (.aload_n 0, 1) := by decide +kernel
theorem dX9_joinAll_49 : decode cX9_joinAll 49 = .ok (.getfield 117, 3) := by decide +kernel
theorem dX9_joinAll_52 : decode cX9_joinAll 52 = .ok (.if_icmp .le 4, 3) := by decide +kernel
theorem dX9_joinAll_55 : decode cX9_joinAll 55 = .ok (.return_, 1) := by decide +kernel
theorem dX9_joinAll_56 : decode cX9_joinAll 56 = .ok (.aload_n 0, 1) := by decide +kernel
theorem dX9_joinAll_57 : decode cX9_joinAll 57 = .ok (.getfield 21, 3) := by decide +kernel
theorem dX9_joinAll_60 : decode cX9_joinAll 60 = .ok (.iload_n 2, 1) := by decide +kernel
theorem dX9_joinAll_61 : decode cX9_joinAll 61 = .ok (.iaload, 1) := by decide +kernel
theorem dX9_joinAll_62 : decode cX9_joinAll 62 = .ok (.aload_n 0, 1) := by decide +kernel
theorem dX9_joinAll_63 : decode cX9_joinAll 63 = .ok (.getfield 21, 3) := by decide +kernel
theorem dX9_joinAll_66 : decode cX9_joinAll 66 = .ok (.iload 4, 2) := by decide +kernel
theorem dX9_joinAll_68 : decode cX9_joinAll 68 = .ok (.iaload, 1) := by decide +kernel
theorem dX9_joinAll_69 : decode cX9_joinAll 69 = .ok (.if_icmp .ge 14, 3) := by decide +kernel
theorem dX9_joinAll_72 : decode cX9_joinAll 72 = .ok (.aload_n 0, 1) := by decide +kernel
theorem dX9_joinAll_73 : decode cX9_joinAll 73 = .ok (.aload_n 1, 1) := by decide +kernel
theorem dX9_joinAll_74 : decode cX9_joinAll 74 = .ok (.iload_n 2, 1) := by decide +kernel
theorem dX9_joinAll_75 : decode cX9_joinAll 75 = .ok (.iload 4, 2) := by decide +kernel
theorem dX9_joinAll_77 : decode cX9_joinAll 77 = .ok (.invokevirtual 131, 3) := by decide +kernel
theorem dX9_joinAll_80 : decode cX9_joinAll 80 = .ok (.goto 11, 3) := by decide +kernel
theorem dX9_joinAll_83 : decode cX9_joinAll 83 = .ok (.aload_n 0, 1) := by decide +kernel
theorem dX9_joinAll_84 : decode cX9_joinAll 84 = .ok (.aload_n 1, 1) := by decide +kernel
theorem dX9_joinAll_85 : decode cX9_joinAll 85 = .ok (.iload 4, 2) := by decide +kernel
theorem dX9_joinAll_87 : decode cX9_joinAll 87 = .ok (.iload_n 2, 1) := by decide +kernel
theorem dX9_joinAll_88 : decode cX9_joinAll 88 = .ok (.invokevirtual 131, 3) := by decide +kernel
theorem dX9_joinAll_91 : decode cX9_joinAll 91 = .ok (.iinc 3 1, 3) := by decide +kernel
theorem dX9_joinAll_94 : decode cX9_joinAll 94 = .ok (.goto (-92), 3) := by decide +kernel
theorem dX9_joinAll_97 : decode cX9_joinAll 97 = .ok (.return_, 1) := by decide +kernel
theorem dX9_joinTwo_0 : decode cX9_joinTwo 0 = .ok (.aload_n 0, 1) := by decide +kernel
theorem dX9_joinTwo_1 : decode cX9_joinTwo 1 = .ok (.getfield 42, 3) := by decide +kernel
theorem dX9_joinTwo_4 : decode cX9_joinTwo 4 = .ok (.iconst 5, 1) := by decide +kernel
theorem dX9_joinTwo_5 : decode cX9_joinTwo 5 = .ok (.invokestatic 88, 3) := by decide +kernel
theorem dX9_joinTwo_8 : decode cX9_joinTwo 8 = .ok (.ifCond .eq 13, 3) := by decide +kernel
theorem dX9_joinTwo_11 : decode cX9_joinTwo 11 = .ok (.aload_n 0, 1) := by decide +kernel
theorem dX9_joinTwo_12 : decode cX9_joinTwo 12 = .ok (.iconst 5, 1) := by decide +kernel
theorem dX9_joinTwo_13 : decode cX9_joinTwo 13 = .ok (.aload_n 1, 1) := by decide +kernel
theorem dX9_joinTwo_14 : decode cX9_joinTwo 14 = .ok (.iconst 5, 1) := by decide +kernel
theorem dX9_joinTwo_15 : decode cX9_joinTwo 15 = .ok (.iaload, 1) := by decide +kernel
theorem dX9_joinTwo_16 : decode cX9_joinTwo 16 = .ok (.iload_n 2, 1) := by decide +kernel
theorem dX9_joinTwo_17 : decode cX9_joinTwo 17 = .ok (.iload_n 3, 1) := by decide +kernel
theorem dX9_joinTwo_18 : decode cX9_joinTwo 18 = .ok (.invokevirtual 135, 3) := by decide +kernel
theorem dX9_joinTwo_21 : decode cX9_joinTwo 21 = .ok (.aload_n 0, 1) := by decide +kernel
theorem dX9_joinTwo_22 : decode cX9_joinTwo 22 = .ok (.getfield 42, 3) := by decide +kernel
theorem dX9_joinTwo_25 : decode cX9_joinTwo 25 = .ok (.bipush 6, 2) := by decide +kernel
theorem dX9_joinTwo_27 : decode cX9_joinTwo 27 = .ok (.invokestatic 88, 3) := by decide +kernel
theorem dX9_joinTwo_30 : decode cX9_joinTwo 30 = .ok (.ifCond .eq 15, 3) := by decide +kernel
theorem dX9_joinTwo_33 : decode cX9_joinTwo 33 = .ok (.aload_n 0, 1) := by decide +kernel
theorem dX9_joinTwo_34 : decode cX9_joinTwo 34 = .ok (.bipush 6, 2) := by decide +kernel
theorem dX9_joinTwo_36 : decode cX9_joinTwo 36 = .ok (.aload_n 1, 1) := by decide +kernel
theorem dX9_joinTwo_37 : decode cX9_joinTwo 37 = .ok (.bipush 6, 2) := by decide +kernel
theorem dX9_joinTwo_39 : decode cX9_joinTwo 39 = .ok (.iaload, 1) := by decide +kernel
theorem dX9_joinTwo_40 : decode cX9_joinTwo 40 = .ok (.iload_n 2, 1) := by decide +kernel
theorem dX9_joinTwo_41 : decode cX9_joinTwo 41 = .ok (.iload_n 3, 1) := by decide +kernel
theorem dX9_joinTwo_42 : decode cX9_joinTwo 42 = .ok (.invokevirtual 135, 3) := by decide +kernel
theorem dX9_joinTwo_45 : decode cX9_joinTwo 45 = .ok (.aload_n 0, 1) := by decide +kernel
theorem dX9_joinTwo_46 : decode cX9_joinTwo 46 = .ok (.getfield 42, 3) := by decide +kernel
theorem dX9_joinTwo_49 : decode cX9_joinTwo 49 = .ok (.bipush 7, 2) := by decide +kernel
theorem dX9_joinTwo_51 : decode cX9_joinTwo 51 = .ok (.invokestatic 88, 3) := by decide +kernel
theorem dX9_joinTwo_54 : decode cX9_joinTwo 54 = .ok (.ifCond .eq 27, 3) := by decide +kernel
theorem dX9_joinTwo_57 : decode cX9_joinTwo 57 = .ok (.aload_n 0, 1) := by decide +kernel
theorem dX9_joinTwo_58 : decode cX9_joinTwo 58 = .ok (.bipush 7, 2) := by decide +kernel
theorem dX9_joinTwo_60 : decode cX9_joinTwo 60 = .ok (.aload_n 1, 1) := by decide +kernel
theorem dX9_joinTwo_61 : decode cX9_joinTwo 61 = .ok (.bipush 7, 2) := by decide +kernel
theorem dX9_joinTwo_63 : decode cX9_joinTwo 63 = .ok (.iaload, 1) := by decide +kernel
theorem dX9_joinTwo_64 : decode cX9_joinTwo 64 = .ok (.iload_n 2, 1) := by decide +kernel
theorem dX9_joinTwo_65 : decode cX9_joinTwo 65 = .ok (.iload_n 3, 1) := by decide +kernel
theorem dX9_joinTwo_66 : decode cX9_joinTwo 66 = .ok (.invokevirtual 135, 3) := by decide +kernel
theorem dX9_joinTwo_69 : decode cX9_joinTwo 69 = .ok (.aload_n 0, 1) := by decide +kernel
theorem dX9_joinTwo_70 : decode cX9_joinTwo 70 = .ok (.bipush 7, 2) := by decide +kernel
theorem dX9_joinTwo_72 : decode cX9_joinTwo 72 = .ok (.aload_n 1, 1) := by decide +kernel
theorem dX9_joinTwo_73 : decode cX9_joinTwo 73 = .ok (.bipush 7, 2) := by decide +kernel
theorem dX9_joinTwo_75 : decode cX9_joinTwo 75 = .ok (.iaload, 1) := by decide +kernel
theorem dX9_joinTwo_76 : decode cX9_joinTwo 76 = .ok (.iload_n 3, 1) := by decide +kernel
theorem dX9_joinTwo_77 : decode cX9_joinTwo 77 = .ok (.iload_n 2, 1) := by decide +kernel
theorem dX9_joinTwo_78 : decode cX9_joinTwo 78 = .ok (.invokevirtual 135, 3) := by decide +kernel
theorem dX9_joinTwo_81 : decode cX9_joinTwo 81 = .ok (.return_, 1) := by decide +kernel
theorem dX9_offerJoin_0 : decode cX9_offerJoin 0 = .ok (.iload_n 2, 1) := by decide +kernel
theorem dX9_offerJoin_1 : decode cX9_offerJoin 1 = .ok (.aload_n 0, 1) := by decide +kernel
theorem dX9_offerJoin_2 : decode cX9_offerJoin 2 = .ok (.getfield 9, 3) := by decide +kernel
theorem dX9_offerJoin_5 : decode cX9_offerJoin 5 = .ok (.iload_n 3, 1) := by decide +kernel
theorem dX9_offerJoin_6 : decode cX9_offerJoin 6 = .ok (.iaload, 1) := by decide +kernel
theorem dX9_offerJoin_7 : decode cX9_offerJoin 7 = .ok (.iadd, 1) := by decide +kernel
theorem dX9_offerJoin_8 : decode cX9_offerJoin 8 = .ok (.aload_n 0, 1) := by decide +kernel
theorem dX9_offerJoin_9 : decode cX9_offerJoin 9 = .ok (.getfield 9, 3) := by decide +kernel
theorem dX9_offerJoin_12 : decode cX9_offerJoin 12 = .ok (.iload 4, 2) := by decide +kernel
theorem dX9_offerJoin_14 : decode cX9_offerJoin 14 = .ok (.iaload, 1) := by decide +kernel
theorem dX9_offerJoin_15 : decode cX9_offerJoin 15 = .ok (.iadd, 1) := by decide +kernel
theorem dX9_offerJoin_16 : decode cX9_offerJoin 16 = .ok (.istore 5, 2) := by decide +kernel
theorem dX9_offerJoin_18 : decode cX9_offerJoin 18 = .ok (.aload_n 0, 1) := by decide +kernel
theorem dX9_offerJoin_19 : decode cX9_offerJoin 19 = .ok (.iload_n 1, 1) := by decide +kernel
theorem dX9_offerJoin_20 : decode cX9_offerJoin 20 = .ok (.iload_n 3, 1) := by decide +kernel
theorem dX9_offerJoin_21 : decode cX9_offerJoin 21 = .ok (.iload 4, 2) := by decide +kernel
theorem dX9_offerJoin_23 : decode cX9_offerJoin 23 = .ok (.invokestatic 139, 3) := by decide +kernel
theorem dX9_offerJoin_26 : decode cX9_offerJoin 26 = .ok (.iload 5, 2) := by decide +kernel
theorem dX9_offerJoin_28 : decode cX9_offerJoin 28 = .ok (.iload_n 1, 1) := by decide +kernel
theorem dX9_offerJoin_29 : decode cX9_offerJoin 29 = .ok (.bipush 19, 2) := by decide +kernel
theorem dX9_offerJoin_31 : decode cX9_offerJoin 31 = .ok (.ishl, 1) := by decide +kernel
theorem dX9_offerJoin_32 : decode cX9_offerJoin 32 = .ok (.iload_n 3, 1) := by decide +kernel
theorem dX9_offerJoin_33 : decode cX9_offerJoin 33 = .ok (.bipush 8, 2) := by decide +kernel
theorem dX9_offerJoin_35 : decode cX9_offerJoin 35 = .ok (.ishl, 1) := by decide +kernel
theorem dX9_offerJoin_36 : decode cX9_offerJoin 36 = .ok (.ior, 1) := by decide +kernel
theorem dX9_offerJoin_37 : decode cX9_offerJoin 37 = .ok (.iload 4, 2) := by decide +kernel
theorem dX9_offerJoin_39 : decode cX9_offerJoin 39 = .ok (.ior, 1) := by decide +kernel
theorem dX9_offerJoin_40 : decode cX9_offerJoin 40 = .ok (.invokevirtual 113, 3) := by decide +kernel
theorem dX9_offerJoin_43 : decode cX9_offerJoin 43 = .ok (.return_, 1) := by decide +kernel
theorem dX9_offer_0 : decode cX9_offer 0 = .ok (.iload_n 1, 1) := by decide +kernel
theorem dX9_offer_1 : decode cX9_offer 1 = .ok (.sipush 255, 3) := by decide +kernel
theorem dX9_offer_4 : decode cX9_offer 4 = .ok (.iand, 1) := by decide +kernel
theorem dX9_offer_5 : decode cX9_offer 5 = .ok (.istore 4, 2) := by decide +kernel
theorem dX9_offer_7 : decode cX9_offer 7 = .ok (.aload_n 0, 1) := by decide +kernel
theorem dX9_offer_8 : decode cX9_offer 8 = .ok (.getfield 21, 3) := by decide +kernel
theorem dX9_offer_11 : decode cX9_offer 11 = .ok (.iload 4, 2) := by decide +kernel
theorem dX9_offer_13 : decode cX9_offer 13 = .ok (.iaload, 1) := by decide +kernel
theorem dX9_offer_14 : decode cX9_offer 14 = .ok (.iconst (-1), 1) := by decide +kernel
theorem dX9_offer_15 : decode cX9_offer 15 = .ok (.if_icmp .ne 21, 3) := by decide +kernel
theorem dX9_offer_18 : decode cX9_offer 18 = .ok (.iload_n 2, 1) := by decide +kernel
theorem dX9_offer_19 : decode cX9_offer 19 = .ok (.aload_n 0, 1) := by decide +kernel
theorem dX9_offer_20 : decode cX9_offer 20 = .ok (.getfield 9, 3) := by decide +kernel
theorem dX9_offer_23 : decode cX9_offer 23 = .ok (.iload 4, 2) := by decide +kernel
theorem dX9_offer_25 : decode cX9_offer 25 = .ok (.iaload, 1) := by decide +kernel
theorem dX9_offer_26 : decode cX9_offer 26 = .ok (.if_icmp .gt 10, 3) := by decide +kernel
theorem dX9_offer_29 : decode cX9_offer 29 = .ok (.iload_n 2, 1) := by decide +kernel
theorem dX9_offer_30 : decode cX9_offer 30 = .ok (.sipush 1000, 3) := by decide +kernel
theorem dX9_offer_33 : decode cX9_offer 33 = .ok (.if_icmp .lt 4, 3) := by decide +kernel
theorem dX9_offer_36 : decode cX9_offer 36 = .ok (.return_, 1) := by decide +kernel
theorem dX9_offer_37 : decode cX9_offer 37 = .ok (.iload_n 2, 1) := by decide +kernel
theorem dX9_offer_38 : decode cX9_offer 38 = .ok (.aload_n 0, 1) := by decide +kernel
theorem dX9_offer_39 : decode cX9_offer 39 = .ok (.getfield 9, 3) := by decide +kernel
theorem dX9_offer_42 : decode cX9_offer 42 = .ok (.iload 4, 2) := by decide +kernel
theorem dX9_offer_44 : decode cX9_offer 44 = .ok (.iaload, 1) := by decide +kernel
theorem dX9_offer_45 : decode cX9_offer 45 = .ok (.if_icmp .lt 18, 3) := by decide +kernel
theorem dX9_offer_48 : decode cX9_offer 48 = .ok (.aload_n 0, 1) := by decide +kernel
theorem dX9_offer_49 : decode cX9_offer 49 = .ok (.iload_n 3, 1) := by decide +kernel
theorem dX9_offer_50 : decode cX9_offer 50 = .ok (.aload_n 0, 1) := by decide +kernel
theorem dX9_offer_51 : decode cX9_offer 51 = .ok (.getfield 18, 3) := by decide +kernel
theorem dX9_offer_54 : decode cX9_offer 54 = .ok (.iload 4, 2) := by decide +kernel
theorem dX9_offer_56 : decode cX9_offer 56 = .ok (.iaload, 1) := by decide +kernel
theorem dX9_offer_57 : decode cX9_offer 57 = .ok (.invokevirtual 125, 3) := by decide +kernel
theorem dX9_offer_60 : decode cX9_offer 60 = .ok (.ifCond .eq 19, 3) := by decide +kernel
theorem dX9_offer_63 : decode cX9_offer 63 = .ok (.aload_n 0, 1) := by decide +kernel
theorem dX9_offer_64 : decode cX9_offer 64 = .ok (.getfield 9, 3) := by decide +kernel
theorem dX9_offer_67 : decode cX9_offer 67 = .ok (.iload 4, 2) := by decide +kernel
theorem dX9_offer_69 : decode cX9_offer 69 = .ok (.iload_n 2, 1) := by decide +kernel
theorem dX9_offer_70 : decode cX9_offer 70 = .ok (.iastore, 1) := by decide +kernel
theorem dX9_offer_71 : decode cX9_offer 71 = .ok (.aload_n 0, 1) := by decide +kernel
theorem dX9_offer_72 : decode cX9_offer 72 = .ok (.getfield 18, 3) := by decide +kernel
theorem dX9_offer_75 : decode cX9_offer 75 = .ok (.iload 4, 2) := by decide +kernel
theorem dX9_offer_77 : decode cX9_offer 77 = .ok (.iload_n 3, 1) := by decide +kernel
theorem dX9_offer_78 : decode cX9_offer 78 = .ok (.iastore, 1) := by decide +kernel
theorem dX9_offer_79 : decode cX9_offer 79 = .ok (.return_, 1) := by decide +kernel
theorem dX9_isAhead_0 : decode cX9_isAhead 0 = .ok (.iload_n 1, 1) := by decide +kernel
theorem dX9_isAhead_1 : decode cX9_isAhead 1 = .ok (.bipush 16, 2) := by decide +kernel
theorem dX9_isAhead_3 : decode cX9_isAhead 3 = .ok (.ishr, 1) := by decide +kernel
theorem dX9_isAhead_4 : decode cX9_isAhead 4 = .ok (.iload_n 2, 1) := by decide +kernel
theorem dX9_isAhead_5 : decode cX9_isAhead 5 = .ok (.bipush 16, 2) := by decide +kernel
theorem dX9_isAhead_7 : decode cX9_isAhead 7 = .ok (.ishr, 1) := by decide +kernel
theorem dX9_isAhead_8 : decode cX9_isAhead 8 = .ok (.if_icmp .eq 20, 3) := by decide +kernel
theorem dX9_isAhead_11 : decode cX9_isAhead 11 = .ok (.iload_n 1, 1) := by decide +kernel
theorem dX9_isAhead_12 : decode cX9_isAhead 12 = .ok (.bipush 16, 2) := by decide +kernel
theorem dX9_isAhead_14 : decode cX9_isAhead 14 = .ok (.ishr, 1) := by decide +kernel
theorem dX9_isAhead_15 : decode cX9_isAhead 15 = .ok (.iload_n 2, 1) := by decide +kernel
theorem dX9_isAhead_16 : decode cX9_isAhead 16 = .ok (.bipush 16, 2) := by decide +kernel
theorem dX9_isAhead_18 : decode cX9_isAhead 18 = .ok (.ishr, 1) := by decide +kernel
theorem dX9_isAhead_19 : decode cX9_isAhead 19 = .ok (.if_icmp .ge 7, 3) := by decide +kernel
theorem dX9_isAhead_22 : decode cX9_isAhead 22 = .ok (.iconst 1, 1) := by decide +kernel
theorem dX9_isAhead_23 : decode cX9_isAhead 23 = .ok (.goto 4, 3) := by decide +kernel
theorem dX9_isAhead_26 : decode cX9_isAhead 26 = .ok (.iconst 0, 1) := by decide +kernel
theorem dX9_isAhead_27 : decode cX9_isAhead 27 = .ok (.ireturn, 1) := by decide +kernel
theorem dX9_isAhead_28 : decode cX9_isAhead 28 = .ok (.aload_n 0, 1) := by decide +kernel
theorem dX9_isAhead_29 : decode cX9_isAhead 29 = .ok (.getfield 21, 3) := by decide +kernel
theorem dX9_isAhead_32 : decode cX9_isAhead 32 = .ok (.iload_n 1, 1) := by decide +kernel
theorem dX9_isAhead_33 : decode cX9_isAhead 33 = .ok (.bipush 8, 2) := by decide +kernel
theorem dX9_isAhead_35 : decode cX9_isAhead 35 = .ok (.ishr, 1) := by decide +kernel
theorem dX9_isAhead_36 : decode cX9_isAhead 36 = .ok (.sipush 255, 3) := by decide +kernel
theorem dX9_isAhead_39 : decode cX9_isAhead 39 = .ok (.iand, 1) := by decide +kernel
theorem dX9_isAhead_40 : decode cX9_isAhead 40 = .ok (.iaload, 1) := by decide +kernel
theorem dX9_isAhead_41 : decode cX9_isAhead 41 = .ok (.istore_n 3, 1) := by decide +kernel
theorem dX9_isAhead_42 : decode cX9_isAhead 42 = .ok (.aload_n 0, 1) := by decide +kernel
theorem dX9_isAhead_43 : decode cX9_isAhead 43 = .ok (.getfield 21, 3) := by decide +kernel
theorem dX9_isAhead_46 : decode cX9_isAhead 46 = .ok (.iload_n 2, 1) := by decide +kernel
theorem dX9_isAhead_47 : decode cX9_isAhead 47 = .ok (.bipush 8, 2) := by decide +kernel
theorem dX9_isAhead_49 : decode cX9_isAhead 49 = .ok (.ishr, 1) := by decide +kernel
theorem dX9_isAhead_50 : decode cX9_isAhead 50 = .ok (.sipush 255, 3) := by decide +kernel
theorem dX9_isAhead_53 : decode cX9_isAhead 53 = .ok (.iand, 1) := by decide +kernel
theorem dX9_isAhead_54 : decode cX9_isAhead 54 = .ok (.iaload, 1) := by decide +kernel
theorem dX9_isAhead_55 : decode cX9_isAhead 55 = .ok (.istore 4, 2) := by decide +kernel
theorem dX9_isAhead_57 : decode cX9_isAhead 57 = .ok (.iload_n 3, 1) := by decide +kernel
theorem dX9_isAhead_58 : decode cX9_isAhead 58 = .ok (.iload 4, 2) := by decide +kernel
theorem dX9_isAhead_60 : decode cX9_isAhead 60 = .ok (.if_icmp .eq 17, 3) := by decide +kernel
theorem dX9_isAhead_63 : decode cX9_isAhead 63 = .ok (.iload_n 3, 1) := by decide +kernel
theorem dX9_isAhead_64 : decode cX9_isAhead 64 = .ok (.iload 4, 2) := by decide +kernel
theorem dX9_isAhead_66 : decode cX9_isAhead 66 = .ok (.if_icmp .ge 7, 3) := by decide +kernel
theorem dX9_isAhead_69 : decode cX9_isAhead 69 = .ok (.iconst 1, 1) := by decide +kernel
theorem dX9_isAhead_70 : decode cX9_isAhead 70 = .ok (.goto 35, 3) := by decide +kernel
theorem dX9_isAhead_73 : decode cX9_isAhead 73 = .ok (.iconst 0, 1) := by decide +kernel
theorem dX9_isAhead_74 : decode cX9_isAhead 74 = .ok (.goto 31, 3) := by decide +kernel
theorem dX9_isAhead_77 : decode cX9_isAhead 77 = .ok (.aload_n 0, 1) := by decide +kernel
theorem dX9_isAhead_78 : decode cX9_isAhead 78 = .ok (.getfield 21, 3) := by decide +kernel
theorem dX9_isAhead_81 : decode cX9_isAhead 81 = .ok (.iload_n 1, 1) := by decide +kernel
theorem dX9_isAhead_82 : decode cX9_isAhead 82 = .ok (.sipush 255, 3) := by decide +kernel
theorem dX9_isAhead_85 : decode cX9_isAhead 85 = .ok (.iand, 1) := by decide +kernel
theorem dX9_isAhead_86 : decode cX9_isAhead 86 = .ok (.iaload, 1) := by decide +kernel
theorem dX9_isAhead_87 : decode cX9_isAhead 87 = .ok (.aload_n 0, 1) := by decide +kernel
theorem dX9_isAhead_88 : decode cX9_isAhead 88 = .ok (.getfield 21, 3) := by decide +kernel
theorem dX9_isAhead_91 : decode cX9_isAhead 91 = .ok (.iload_n 2, 1) := by decide +kernel
theorem dX9_isAhead_92 : decode cX9_isAhead 92 = .ok (.sipush 255, 3) := by decide +kernel
theorem dX9_isAhead_95 : decode cX9_isAhead 95 = .ok (.iand, 1) := by decide +kernel
theorem dX9_isAhead_96 : decode cX9_isAhead 96 = .ok (.iaload, 1) := by decide +kernel
theorem dX9_isAhead_97 : decode cX9_isAhead 97 = .ok (.if_icmp .ge 7, 3) := by decide +kernel
theorem dX9_isAhead_100 : decode cX9_isAhead 100 = .ok (.iconst 1, 1) := by decide +kernel
theorem dX9_isAhead_101 : decode cX9_isAhead 101 = .ok (.goto 4, 3) := by decide +kernel
theorem dX9_isAhead_104 : decode cX9_isAhead 104 = .ok (.iconst 0, 1) := by decide +kernel
theorem dX9_isAhead_105 : decode cX9_isAhead 105 = .ok (.ireturn, 1) := by decide +kernel
theorem dX10_areWords_0 : decode cX10_areWords 0 = .ok (.iload_n 0, 1) := by decide +kernel
theorem dX10_areWords_1 : decode cX10_areWords 1 = .ok (.ldc 11, 2) := by decide +kernel
theorem dX10_areWords_3 : decode cX10_areWords 3 = .ok (.invokestatic 12, 3) := by decide +kernel
theorem dX10_areWords_6 : decode cX10_areWords 6 = .ok (.ireturn, 1) := by decide +kernel
theorem dX10_isKnown_0 : decode cX10_isKnown 0 = .ok (.iload_n 0, 1) := by decide +kernel
theorem dX10_isKnown_1 : decode cX10_isKnown 1 = .ok (.iload_n 1, 1) := by decide +kernel
theorem dX10_isKnown_2 : decode cX10_isKnown 2 = .ok (.ishr, 1) := by decide +kernel
theorem dX10_isKnown_3 : decode cX10_isKnown 3 = .ok (.iconst 1, 1) := by decide +kernel
theorem dX10_isKnown_4 : decode cX10_isKnown 4 = .ok (.iand, 1) := by decide +kernel
theorem dX10_isKnown_5 : decode cX10_isKnown 5 = .ok (.iconst 1, 1) := by decide +kernel
theorem dX10_isKnown_6 : decode cX10_isKnown 6 = .ok (.if_icmp .ne 7, 3) := by decide +kernel
theorem dX10_isKnown_9 : decode cX10_isKnown 9 = .ok (.iconst 1, 1) := by decide +kernel
theorem dX10_isKnown_10 : decode cX10_isKnown 10 = .ok (.goto 4, 3) := by decide +kernel
theorem dX10_isKnown_13 : decode cX10_isKnown 13 = .ok (.iconst 0, 1) := by decide +kernel
theorem dX10_isKnown_14 : decode cX10_isKnown 14 = .ok (.ireturn, 1) := by decide +kernel
theorem dX10_numbers_0 : decode cX10_numbers 0 = .ok (.iload_n 0, 1) := by decide +kernel
theorem dX10_numbers_1 : decode cX10_numbers 1 = .ok (.bipush 15, 2) := by decide +kernel
theorem dX10_numbers_3 : decode cX10_numbers 3 = .ok (.invokestatic 12, 3) := by decide +kernel
theorem dX10_numbers_6 : decode cX10_numbers 6 = .ok (.ifCond .eq 11, 3) := by decide +kernel
theorem dX10_numbers_9 : decode cX10_numbers 9 = .ok (.getstatic 16, 3) := by decide +kernel
theorem dX10_numbers_12 : decode cX10_numbers 12 = .ok (.iload_n 0, 1) := by decide +kernel
theorem dX10_numbers_13 : decode cX10_numbers 13 = .ok (.baload, 1) := by decide +kernel
theorem dX10_numbers_14 : decode cX10_numbers 14 = .ok (.goto 4, 3) := by decide +kernel
theorem dX10_numbers_17 : decode cX10_numbers 17 = .ok (.iconst 0, 1) := by decide +kernel
theorem dX10_numbers_18 : decode cX10_numbers 18 = .ok (.ireturn, 1) := by decide +kernel
theorem dX10_parts_0 : decode cX10_parts 0 = .ok (.iload_n 0, 1) := by decide +kernel
theorem dX10_parts_1 : decode cX10_parts 1 = .ok (.bipush 15, 2) := by decide +kernel
theorem dX10_parts_3 : decode cX10_parts 3 = .ok (.invokestatic 12, 3) := by decide +kernel
theorem dX10_parts_6 : decode cX10_parts 6 = .ok (.ifCond .eq 11, 3) := by decide +kernel
theorem dX10_parts_9 : decode cX10_parts 9 = .ok (.getstatic 20, 3) := by decide +kernel
theorem dX10_parts_12 : decode cX10_parts 12 = .ok (.iload_n 0, 1) := by decide +kernel
theorem dX10_parts_13 : decode cX10_parts 13 = .ok (.baload, 1) := by decide +kernel
theorem dX10_parts_14 : decode cX10_parts 14 = .ok (.goto 4, 3) := by decide +kernel
theorem dX10_parts_17 : decode cX10_parts 17 = .ok (.iconst 0, 1) := by decide +kernel
theorem dX10_parts_18 : decode cX10_parts 18 = .ok (.ireturn, 1) := by decide +kernel
theorem dX10_firstLike_0 : decode cX10_firstLike 0 = .ok (.iload_n 0, 1) := by decide +kernel
theorem dX10_firstLike_1 : decode cX10_firstLike 1 = .ok (.bipush 15, 2) := by decide +kernel
theorem dX10_firstLike_3 : decode cX10_firstLike 3 = .ok (.invokestatic 12, 3) := by decide +kernel
theorem dX10_firstLike_6 : decode cX10_firstLike 6 = .ok (.ifCond .eq 11, 3) := by decide +kernel
theorem dX10_firstLike_9 : decode cX10_firstLike 9 = .ok (.getstatic 23, 3) := by decide +kernel
theorem dX10_firstLike_12 : decode cX10_firstLike 12 = .ok (.iload_n 0, 1) := by decide +kernel
theorem dX10_firstLike_13 : decode cX10_firstLike 13 = .ok (.baload, 1) := by decide +kernel
theorem dX10_firstLike_14 : decode cX10_firstLike 14 = .ok (.goto 4, 3) := by decide +kernel
theorem dX10_firstLike_17 : decode cX10_firstLike 17 = .ok (.iload_n 0, 1) := by decide +kernel
theorem dX10_firstLike_18 : decode cX10_firstLike 18 = .ok (.ireturn, 1) := by decide +kernel
theorem dX10_lastLike_0 : decode cX10_lastLike 0 = .ok (.iload_n 0, 1) := by decide +kernel
theorem dX10_lastLike_1 : decode cX10_lastLike 1 = .ok (.bipush 15, 2) := by decide +kernel
theorem dX10_lastLike_3 : decode cX10_lastLike 3 = .ok (.invokestatic 12, 3) := by decide +kernel
theorem dX10_lastLike_6 : decode cX10_lastLike 6 = .ok (.ifCond .eq 11, 3) := by decide +kernel
theorem dX10_lastLike_9 : decode cX10_lastLike 9 = .ok (.getstatic 26, 3) := by decide +kernel
theorem dX10_lastLike_12 : decode cX10_lastLike 12 = .ok (.iload_n 0, 1) := by decide +kernel
theorem dX10_lastLike_13 : decode cX10_lastLike 13 = .ok (.baload, 1) := by decide +kernel
theorem dX10_lastLike_14 : decode cX10_lastLike 14 = .ok (.goto 4, 3) := by decide +kernel
theorem dX10_lastLike_17 : decode cX10_lastLike 17 = .ok (.iload_n 0, 1) := by decide +kernel
theorem dX10_lastLike_18 : decode cX10_lastLike 18 = .ok (.ireturn, 1) := by decide +kernel
theorem dX10_spelt_0 : decode cX10_spelt 0 = .ok (.iload_n 1, 1) := by decide +kernel
theorem dX10_spelt_1 : decode cX10_spelt 1 = .ok (.ifCond .lt 17, 3) := by decide +kernel
theorem dX10_spelt_4 : decode cX10_spelt 4 = .ok (.iload_n 2, 1) := by decide +kernel
theorem dX10_spelt_5 : decode cX10_spelt 5 = .ok (.aload_n 0, 1) := by decide +kernel
theorem dX10_spelt_6 : decode cX10_spelt 6 = .ok (.arraylength, 1) := by decide +kernel
theorem dX10_spelt_7 : decode cX10_spelt 7 = .ok (.if_icmp .gt 11, 3) := by decide +kernel
theorem dX10_spelt_10 : decode cX10_spelt 10 = .ok (.iload_n 2, 1) := by decide +kernel
theorem dX10_spelt_11 : decode cX10_spelt 11 = .ok (.iload_n 1, 1) := by decide +kernel
theorem dX10_spelt_12 : decode cX10_spelt 12 = .ok (.isub, 1) := by decide +kernel
theorem dX10_spelt_13 : decode cX10_spelt 13 = .ok (.bipush 8, 2) := by decide +kernel
theorem dX10_spelt_15 : decode cX10_spelt 15 = .ok (.if_icmp .le 5, 3) := by decide +kernel
theorem dX10_spelt_18 : decode cX10_spelt 18 = .ok (.iconst (-1), 1) := by decide +kernel
theorem dX10_spelt_19 : decode cX10_spelt 19 = .ok (.ireturn, 1) := by decide +kernel
theorem dX10_spelt_20 : decode cX10_spelt 20 = .ok (.iconst 0, 1) := by decide +kernel
theorem dX10_spelt_21 : decode cX10_spelt 21 = .ok (.istore_n 3, 1) := by decide +kernel
theorem dX10_spelt_22 : decode cX10_spelt 22 = .ok (.iload_n 3, 1) := by decide +kernel
theorem dX10_spelt_23 : decode cX10_spelt 23 = .ok (.bipush 15, 2) := by decide +kernel
theorem dX10_spelt_25 : decode cX10_spelt 25 = .ok (.if_icmp .ge 21, 3) := by decide +kernel
theorem dX10_spelt_28 : decode cX10_spelt 28 = .ok (.iload_n 3, 1) := by decide +kernel
theorem dX10_spelt_29 : decode cX10_spelt 29 = .ok (.aload_n 0, 1) := by decide +kernel
theorem dX10_spelt_30 : decode cX10_spelt 30 = .ok (.iload_n 1, 1) := by decide +kernel
theorem dX10_spelt_31 : decode cX10_spelt 31 = .ok (.iload_n 2, 1) := by decide +kernel
theorem dX10_spelt_32 : decode cX10_spelt 32 = .ok (.invokestatic 29, 3) := by decide +kernel
theorem dX10_spelt_35 : decode cX10_spelt 35 = .ok (.ifCond .eq 5, 3) := by decide +kernel
theorem dX10_spelt_38 : decode cX10_spelt 38 = .ok (.iload_n 3, 1) := by decide +kernel
theorem dX10_spelt_39 : decode cX10_spelt 39 = .ok (.ireturn, 1) := by decide +kernel
theorem dX10_spelt_40 : decode cX10_spelt 40 = .ok (.iinc 3 1, 3) := by decide +kernel
theorem dX10_spelt_43 : decode cX10_spelt 43 = .ok (.goto (-21), 3) := by decide +kernel
theorem dX10_spelt_46 : decode cX10_spelt 46 = .ok (.iconst (-1), 1) := by decide +kernel
theorem dX10_spelt_47 : decode cX10_spelt 47 = .ok (.ireturn, 1) := by decide +kernel
theorem dX10_isSpelt_0 : decode cX10_isSpelt 0 = .ok (.iconst 0, 1) := by decide +kernel
theorem dX10_isSpelt_1 : decode cX10_isSpelt 1 = .ok (.istore 4, 2) := by decide +kernel
theorem dX10_isSpelt_3 : decode cX10_isSpelt 3 = .ok (.iload 4, 2) := by decide +kernel
theorem dX10_isSpelt_5 : decode cX10_isSpelt 5 = .ok (.bipush 8, 2) := by decide +kernel
theorem dX10_isSpelt_7 : decode cX10_isSpelt 7 = .ok (.if_icmp .ge 49, 3) := by decide +kernel
theorem dX10_isSpelt_10 : decode cX10_isSpelt 10 = .ok (.iload_n 2, 1) := by decide +kernel
theorem dX10_isSpelt_11 : decode cX10_isSpelt 11 = .ok (.iload 4, 2) := by decide +kernel
theorem dX10_isSpelt_13 : decode cX10_isSpelt 13 = .ok (.iadd, 1) := by decide +kernel
theorem dX10_isSpelt_14 : decode cX10_isSpelt 14 = .ok (.iload_n 3, 1) := by decide +kernel
theorem dX10_isSpelt_15 : decode cX10_isSpelt 15 = .ok (.if_icmp .ge 12, 3) := by decide +kernel
theorem dX10_isSpelt_18 : decode cX10_isSpelt 18 = .ok (.aload_n 1, 1) := by decide +kernel
theorem dX10_isSpelt_19 : decode cX10_isSpelt 19 = .ok (.iload_n 2, 1) := by decide +kernel
theorem dX10_isSpelt_20 : decode cX10_isSpelt 20 = .ok (.iload 4, 2) := by decide +kernel
theorem dX10_isSpelt_22 : decode cX10_isSpelt 22 = .ok (.iadd, 1) := by decide +kernel
theorem dX10_isSpelt_23 : decode cX10_isSpelt 23 = .ok (.caload, 1) := by decide +kernel
theorem dX10_isSpelt_24 : decode cX10_isSpelt 24 = .ok (.goto 5, 3) := by decide +kernel
theorem dX10_isSpelt_27 : decode cX10_isSpelt 27 = .ok (.bipush 32, 2) := by decide +kernel
theorem dX10_isSpelt_29 : decode cX10_isSpelt 29 = .ok (.istore 5, 2) := by decide +kernel
theorem dX10_isSpelt_31 : decode cX10_isSpelt 31 = .ok (.ldc 33, 2) := by decide +kernel
theorem dX10_isSpelt_33 : decode cX10_isSpelt 33 = .ok (.bipush 8, 2) := by decide +kernel
theorem dX10_isSpelt_35 : decode cX10_isSpelt 35 = .ok (.iload_n 0, 1) := by decide +kernel
theorem dX10_isSpelt_36 : decode cX10_isSpelt 36 = .ok (.imul, 1) := by decide +kernel
theorem dX10_isSpelt_37 : decode cX10_isSpelt 37 = .ok (.iload 4, 2) := by decide +kernel
theorem dX10_isSpelt_39 : decode cX10_isSpelt 39 = .ok (.iadd, 1) := by decide +kernel
theorem dX10_isSpelt_40 : decode cX10_isSpelt 40 = .ok (.invokevirtual 35, 3) := by decide +kernel
theorem dX10_isSpelt_43 : decode cX10_isSpelt 43 = .ok (.iload 5, 2) := by decide +kernel
theorem dX10_isSpelt_45 : decode cX10_isSpelt 45 = .ok (.if_icmp .eq 5, 3) := by decide +kernel
theorem dX10_isSpelt_48 : decode cX10_isSpelt 48 = .ok (.iconst 0, 1) := by decide +kernel
theorem dX10_isSpelt_49 : decode cX10_isSpelt 49 = .ok (.ireturn, 1) := by decide +kernel
theorem dX10_isSpelt_50 : decode cX10_isSpelt 50 = .ok (.iinc 4 1, 3) := by decide +kernel
theorem dX10_isSpelt_53 : decode cX10_isSpelt 53 = .ok (.goto (-50), 3) := by decide +kernel
theorem dX10_isSpelt_56 : decode cX10_isSpelt 56 = .ok (.iconst 1, 1) := by decide +kernel
theorem dX10_isSpelt_57 : decode cX10_isSpelt 57 = .ok (.ireturn, 1) := by decide +kernel
theorem dX10_join_0 : decode cX10_join 0 = .ok (.iload_n 0, 1) := by decide +kernel
theorem dX10_join_1 : decode cX10_join 1 = .ok (.lookupswitch 35 #[(5, 27), (6, 31)], 27) := by decide +kernel
theorem dX10_join_28 : decode cX10_join 28 = .ok (.iload_n 1, 1) := by decide +kernel
theorem dX10_join_29 : decode cX10_join 29 = .ok (.iload_n 2, 1) := by decide +kernel
theorem dX10_join_30 : decode cX10_join 30 = .ok (.iand, 1) := by decide +kernel
theorem dX10_join_31 : decode cX10_join 31 = .ok (.ireturn, 1) := by decide +kernel
theorem dX10_join_32 : decode cX10_join 32 = .ok (.iload_n 1, 1) := by decide +kernel
theorem dX10_join_33 : decode cX10_join 33 = .ok (.iload_n 2, 1) := by decide +kernel
theorem dX10_join_34 : decode cX10_join 34 = .ok (.ior, 1) := by decide +kernel
theorem dX10_join_35 : decode cX10_join 35 = .ok (.ireturn, 1) := by decide +kernel
theorem dX10_join_36 : decode cX10_join 36 = .ok (.iload_n 1, 1) := by decide +kernel
theorem dX10_join_37 : decode cX10_join 37 = .ok (.iload_n 2, 1) := by decide +kernel
theorem dX10_join_38 : decode cX10_join 38 = .ok (.iconst (-1), 1) := by decide +kernel
theorem dX10_join_39 : decode cX10_join 39 = .ok (.ixor, 1) := by decide +kernel
theorem dX10_join_40 : decode cX10_join 40 = .ok (.iand, 1) := by decide +kernel
theorem dX10_join_41 : decode cX10_join 41 = .ok (.ireturn, 1) := by decide +kernel
theorem dX11_init_0 : decode cX11_init 0 = .ok (.aload_n 0, 1) := by decide +kernel
theorem dX11_init_1 : decode cX11_init 1 = .ok (.invokespecial 1, 3) := by decide +kernel
theorem dX11_init_4 : decode cX11_init 4 = .ok (.aload_n 0, 1) := by decide +kernel
theorem dX11_init_5 : decode cX11_init 5 = .ok (.new 7, 3) := by decide +kernel
theorem dX11_init_8 : decode cX11_init 8 = .ok (.dup, 1) := by decide +kernel
theorem dX11_init_9 : decode cX11_init 9 = .ok (.invokespecial 9, 3) := by decide +kernel
theorem dX11_init_12 : decode cX11_init 12 = .ok (.putfield 10, 3) := by decide +kernel
theorem dX11_init_15 : decode cX11_init 15 = .ok (.aload_n 0, 1) := by decide +kernel
theorem dX11_init_16 : decode cX11_init 16 = .ok (.bipush 15, 2) := by decide +kernel
theorem dX11_init_18 : decode cX11_init 18 = .ok (.newarray .int, 2) := by decide +kernel
theorem dX11_init_20 : decode cX11_init 20 = .ok (.putfield 18, 3) := by decide +kernel
theorem dX11_init_23 : decode cX11_init 23 = .ok (.aload_n 0, 1) := by decide +kernel
theorem dX11_init_24 : decode cX11_init 24 = .ok (.new 22, 3) := by decide +kernel
theorem dX11_init_27 : decode cX11_init 27 = .ok (.dup, 1) := by decide +kernel
theorem dX11_init_28 : decode cX11_init 28 = .ok (.invokespecial 24, 3) := by decide +kernel
theorem dX11_init_31 : decode cX11_init 31 = .ok (.putfield 25, 3) := by decide +kernel
theorem dX11_init_34 : decode cX11_init 34 = .ok (.aload_n 0, 1) := by decide +kernel
theorem dX11_init_35 : decode cX11_init 35 = .ok (.bipush 8, 2) := by decide +kernel
theorem dX11_init_37 : decode cX11_init 37 = .ok (.anewarray 29, 3) := by decide +kernel
theorem dX11_init_40 : decode cX11_init 40 = .ok (.putfield 31, 3) := by decide +kernel
theorem dX11_init_43 : decode cX11_init 43 = .ok (.aload_n 0, 1) := by decide +kernel
theorem dX11_init_44 : decode cX11_init 44 = .ok (.new 35, 3) := by decide +kernel
theorem dX11_init_47 : decode cX11_init 47 = .ok (.dup, 1) := by decide +kernel
theorem dX11_init_48 : decode cX11_init 48 = .ok (.invokespecial 37, 3) := by decide +kernel
theorem dX11_init_51 : decode cX11_init 51 = .ok (.putfield 38, 3) := by decide +kernel
theorem dX11_init_54 : decode cX11_init 54 = .ok (.aload_n 0, 1) := by decide +kernel
theorem dX11_init_55 : decode cX11_init 55 = .ok (.new 42, 3) := by decide +kernel
theorem dX11_init_58 : decode cX11_init 58 = .ok (.dup, 1) := by decide +kernel
theorem dX11_init_59 : decode cX11_init 59 = .ok (.invokespecial 44, 3) := by decide +kernel
theorem dX11_init_62 : decode cX11_init 62 = .ok (.putfield 45, 3) := by decide +kernel
theorem dX11_init_65 : decode cX11_init 65 = .ok (.aload_n 0, 1) := by decide +kernel
theorem dX11_init_66 : decode cX11_init 66 = .ok (.new 49, 3) := by decide +kernel
theorem dX11_init_69 : decode cX11_init 69 = .ok (.dup, 1) := by decide +kernel
theorem dX11_init_70 : decode cX11_init 70 = .ok (.invokespecial 51, 3) := by decide +kernel
theorem dX11_init_73 : decode cX11_init 73 = .ok (.putfield 52, 3) := by decide +kernel
theorem dX11_init_76 : decode cX11_init 76 = .ok (.aload_n 0, 1) := by decide +kernel
theorem dX11_init_77 : decode cX11_init 77 = .ok (.new 56, 3) := by decide +kernel
theorem dX11_init_80 : decode cX11_init 80 = .ok (.dup, 1) := by decide +kernel
theorem dX11_init_81 : decode cX11_init 81 = .ok (.invokespecial 58, 3) := by decide +kernel
theorem dX11_init_84 : decode cX11_init 84 = .ok (.putfield 59, 3) := by decide +kernel
theorem dX11_init_87 : decode cX11_init 87 = .ok (.aload_n 0, 1) := by decide +kernel
theorem dX11_init_88 : decode cX11_init 88 = .ok (.new 63, 3) := by decide +kernel
theorem dX11_init_91 : decode cX11_init 91 = .ok (.dup, 1) := by decide +kernel
theorem dX11_init_92 : decode cX11_init 92 = .ok (.invokespecial 65, 3) := by decide +kernel
theorem dX11_init_95 : decode cX11_init 95 = .ok (.putfield 66, 3) := by decide +kernel
theorem dX11_init_98 : decode cX11_init 98 = .ok (.aload_n 0, 1) := by decide +kernel
theorem dX11_init_99 : decode cX11_init 99 = .ok (.new 70, 3) := by decide +kernel
theorem dX11_init_102 : decode cX11_init 102 = .ok (.dup, 1) := by decide +kernel
theorem dX11_init_103 : decode cX11_init 103 = .ok (.invokespecial 72, 3) := by decide +kernel
theorem dX11_init_106 : decode cX11_init 106 = .ok (.putfield 73, 3) := by decide +kernel
theorem dX11_init_109 : decode cX11_init 109 = .ok (.aload_n 0, 1) := by decide +kernel
theorem dX11_init_110 : decode cX11_init 110 = .ok (.getfield 18, 3) := by decide +kernel
theorem dX11_init_113 : decode cX11_init 113 = .ok (.iconst 1, 1) := by decide +kernel
theorem dX11_init_114 : decode cX11_init 114 = .ok (.invokestatic 77, 3) := by decide +kernel
theorem dX11_init_117 : decode cX11_init 117 = .ok (.iconst 0, 1) := by decide +kernel
theorem dX11_init_118 : decode cX11_init 118 = .ok (.istore_n 1, 1) := by decide +kernel
theorem dX11_init_119 : decode cX11_init 119 = .ok (.iload_n 1, 1) := by decide +kernel
theorem dX11_init_120 : decode cX11_init 120 = .ok (.bipush 8, 2) := by decide +kernel
theorem dX11_init_122 : decode cX11_init 122 = .ok (.if_icmp .ge 22, 3) := by decide +kernel
theorem dX11_init_125 : decode cX11_init 125 = .ok (.aload_n 0, 1) := by decide +kernel
theorem dX11_init_126 : decode cX11_init 126 = .ok (.getfield 31, 3) := by decide +kernel
theorem dX11_init_129 : decode cX11_init 129 = .ok (.iload_n 1, 1) := by decide +kernel
theorem dX11_init_130 : decode cX11_init 130 = .ok (.new 29, 3) := by decide +kernel
theorem dX11_init_133 : decode cX11_init 133 = .ok (.dup, 1) := by decide +kernel
theorem dX11_init_134 : decode cX11_init 134 = .ok (.invokespecial 83, 3) := by decide +kernel
theorem dX11_init_137 : decode cX11_init 137 = .ok (.aastore, 1) := by decide +kernel
theorem dX11_init_138 : decode cX11_init 138 = .ok (.iinc 1 1, 3) := by decide +kernel
theorem dX11_init_141 : decode cX11_init 141 = .ok (.goto (-22), 3) := by decide +kernel
theorem dX11_init_144 : decode cX11_init 144 = .ok (.return_, 1) := by decide +kernel
theorem dX11_thing_0 : decode cX11_thing 0 = .ok (.iconst 0, 1) := by decide +kernel
theorem dX11_thing_1 : decode cX11_thing 1 = .ok (.iload_n 1, 1) := by decide +kernel
theorem dX11_thing_2 : decode cX11_thing 2 = .ok (.invokestatic 84, 3) := by decide +kernel
theorem dX11_thing_5 : decode cX11_thing 5 = .ok (.ifCond .eq 29, 3) := by decide +kernel
theorem dX11_thing_8 : decode cX11_thing 8 = .ok (.iconst 1, 1) := by decide +kernel
theorem dX11_thing_9 : decode cX11_thing 9 = .ok (.iload_n 2, 1) := by decide +kernel
theorem dX11_thing_10 : decode cX11_thing 10 = .ok (.invokestatic 84, 3) := by decide +kernel
theorem dX11_thing_13 : decode cX11_thing 13 = .ok (.ifCond .eq 21, 3) := by decide +kernel
theorem dX11_thing_16 : decode cX11_thing 16 = .ok (.iconst 2, 1) := by decide +kernel
theorem dX11_thing_17 : decode cX11_thing 17 = .ok (.iload_n 3, 1) := by decide +kernel
theorem dX11_thing_18 : decode cX11_thing 18 = .ok (.invokestatic 84, 3) := by decide +kernel
theorem dX11_thing_21 : decode cX11_thing 21 = .ok (.ifCond .eq 13, 3) := by decide +kernel
theorem dX11_thing_24 : decode cX11_thing 24 = .ok (.iload 4, 2) := by decide +kernel
theorem dX11_thing_26 : decode cX11_thing 26 = .ok (.bipush 16, 2) := by decide +kernel
theorem dX11_thing_28 : decode cX11_thing 28 = .ok (.invokestatic 88, 3) := by decide +kernel
theorem dX11_thing_31 : decode cX11_thing 31 = .ok (.ifCond .ne 6, 3) := by decide +kernel
theorem dX11_thing_34 : decode cX11_thing 34 = .ok (.bipush (-3), 2) := by decide +kernel
theorem dX11_thing_36 : decode cX11_thing 36 = .ok (.ireturn, 1) := by decide +kernel
theorem dX11_thing_37 : decode cX11_thing 37 = .ok (.aload_n 0, 1) := by decide +kernel
theorem dX11_thing_38 : decode cX11_thing 38 = .ok (.getfield 10, 3) := by decide +kernel
theorem dX11_thing_41 : decode cX11_thing 41 = .ok (.iload 4, 2) := by decide +kernel
theorem dX11_thing_43 : decode cX11_thing 43 = .ok (.invokevirtual 91, 3) := by decide +kernel
theorem dX11_thing_46 : decode cX11_thing 46 = .ok (.ifCond .eq 6, 3) := by decide +kernel
theorem dX11_thing_49 : decode cX11_thing 49 = .ok (.bipush (-4), 2) := by decide +kernel
theorem dX11_thing_51 : decode cX11_thing 51 = .ok (.ireturn, 1) := by decide +kernel
theorem dX11_thing_52 : decode cX11_thing 52 = .ok (.aload_n 0, 1) := by decide +kernel
theorem dX11_thing_53 : decode cX11_thing 53 = .ok (.getfield 10, 3) := by decide +kernel
theorem dX11_thing_56 : decode cX11_thing 56 = .ok (.getfield 95, 3) := by decide +kernel
theorem dX11_thing_59 : decode cX11_thing 59 = .ok (.bipush 8, 2) := by decide +kernel
theorem dX11_thing_61 : decode cX11_thing 61 = .ok (.if_icmp .lt 6, 3) := by decide +kernel
theorem dX11_thing_64 : decode cX11_thing 64 = .ok (.bipush (-5), 2) := by decide +kernel
theorem dX11_thing_66 : decode cX11_thing 66 = .ok (.ireturn, 1) := by decide +kernel
theorem dX11_thing_67 : decode cX11_thing 67 = .ok (.aload_n 0, 1) := by decide +kernel
theorem dX11_thing_68 : decode cX11_thing 68 = .ok (.dup, 1) := by decide +kernel
theorem dX11_thing_69 : decode cX11_thing 69 = .ok (.getfield 99, 3) := by decide +kernel
theorem dX11_thing_72 : decode cX11_thing 72 = .ok (.iconst 1, 1) := by decide +kernel
theorem dX11_thing_73 : decode cX11_thing 73 = .ok (.iadd, 1) := by decide +kernel
theorem dX11_thing_74 : decode cX11_thing 74 = .ok (.putfield 99, 3) := by decide +kernel
theorem dX11_thing_77 : decode cX11_thing 77 = .ok (.aload_n 0, 1) := by decide +kernel
theorem dX11_thing_78 : decode cX11_thing 78 = .ok (.getfield 10, 3) := by decide +kernel
theorem dX11_thing_81 : decode cX11_thing 81 = .ok (.iload_n 1, 1) := by decide +kernel
theorem dX11_thing_82 : decode cX11_thing 82 = .ok (.iload_n 2, 1) := by decide +kernel
theorem dX11_thing_83 : decode cX11_thing 83 = .ok (.iload_n 3, 1) := by decide +kernel
theorem dX11_thing_84 : decode cX11_thing 84 = .ok (.iload 4, 2) := by decide +kernel
theorem dX11_thing_86 : decode cX11_thing 86 = .ok (.invokevirtual 102, 3) := by decide +kernel
theorem dX11_thing_89 : decode cX11_thing 89 = .ok (.ireturn, 1) := by decide +kernel
theorem dX11_paint_0 : decode cX11_paint 0 = .ok (.aload_n 0, 1) := by decide +kernel
theorem dX11_paint_1 : decode cX11_paint 1 = .ok (.getfield 10, 3) := by decide +kernel
theorem dX11_paint_4 : decode cX11_paint 4 = .ok (.iload_n 1, 1) := by decide +kernel
theorem dX11_paint_5 : decode cX11_paint 5 = .ok (.invokevirtual 106, 3) := by decide +kernel
theorem dX11_paint_8 : decode cX11_paint 8 = .ok (.ifCond .ne 6, 3) := by decide +kernel
theorem dX11_paint_11 : decode cX11_paint 11 = .ok (.bipush (-2), 2) := by decide +kernel
theorem dX11_paint_13 : decode cX11_paint 13 = .ok (.ireturn, 1) := by decide +kernel
theorem dX11_paint_14 : decode cX11_paint 14 = .ok (.iload_n 2, 1) := by decide +kernel
theorem dX11_paint_15 : decode cX11_paint 15 = .ok (.iload_n 3, 1) := by decide +kernel
theorem dX11_paint_16 : decode cX11_paint 16 = .ok (.invokestatic 84, 3) := by decide +kernel
theorem dX11_paint_19 : decode cX11_paint 19 = .ok (.ifCond .ne 6, 3) := by decide +kernel
theorem dX11_paint_22 : decode cX11_paint 22 = .ok (.bipush (-3), 2) := by decide +kernel
theorem dX11_paint_24 : decode cX11_paint 24 = .ok (.ireturn, 1) := by decide +kernel
theorem dX11_paint_25 : decode cX11_paint 25 = .ok (.aload_n 0, 1) := by decide +kernel
theorem dX11_paint_26 : decode cX11_paint 26 = .ok (.getfield 10, 3) := by decide +kernel
theorem dX11_paint_29 : decode cX11_paint 29 = .ok (.getfield 109, 3) := by decide +kernel
theorem dX11_paint_32 : decode cX11_paint 32 = .ok (.iload_n 2, 1) := by decide +kernel
theorem dX11_paint_33 : decode cX11_paint 33 = .ok (.aaload, 1) := by decide +kernel
theorem dX11_paint_34 : decode cX11_paint 34 = .ok (.iload_n 1, 1) := by decide +kernel
theorem dX11_paint_35 : decode cX11_paint 35 = .ok (.iaload, 1) := by decide +kernel
theorem dX11_paint_36 : decode cX11_paint 36 = .ok (.istore 4, 2) := by decide +kernel
theorem dX11_paint_38 : decode cX11_paint 38 = .ok (.aload_n 0, 1) := by decide +kernel
theorem dX11_paint_39 : decode cX11_paint 39 = .ok (.getfield 10, 3) := by decide +kernel
theorem dX11_paint_42 : decode cX11_paint 42 = .ok (.getfield 109, 3) := by decide +kernel
theorem dX11_paint_45 : decode cX11_paint 45 = .ok (.iload_n 2, 1) := by decide +kernel
theorem dX11_paint_46 : decode cX11_paint 46 = .ok (.aaload, 1) := by decide +kernel
theorem dX11_paint_47 : decode cX11_paint 47 = .ok (.iload_n 1, 1) := by decide +kernel
theorem dX11_paint_48 : decode cX11_paint 48 = .ok (.iload_n 3, 1) := by decide +kernel
theorem dX11_paint_49 : decode cX11_paint 49 = .ok (.iastore, 1) := by decide +kernel
theorem dX11_paint_50 : decode cX11_paint 50 = .ok (.aload_n 0, 1) := by decide +kernel
theorem dX11_paint_51 : decode cX11_paint 51 = .ok (.dup, 1) := by decide +kernel
theorem dX11_paint_52 : decode cX11_paint 52 = .ok (.getfield 99, 3) := by decide +kernel
theorem dX11_paint_55 : decode cX11_paint 55 = .ok (.iconst 1, 1) := by decide +kernel
theorem dX11_paint_56 : decode cX11_paint 56 = .ok (.iadd, 1) := by decide +kernel
theorem dX11_paint_57 : decode cX11_paint 57 = .ok (.putfield 99, 3) := by decide +kernel
theorem dX11_paint_60 : decode cX11_paint 60 = .ok (.iload 4, 2) := by decide +kernel
theorem dX11_paint_62 : decode cX11_paint 62 = .ok (.ireturn, 1) := by decide +kernel
theorem dX11_tie_0 : decode cX11_tie 0 = .ok (.aload_n 0, 1) := by decide +kernel
theorem dX11_tie_1 : decode cX11_tie 1 = .ok (.getfield 10, 3) := by decide +kernel
theorem dX11_tie_4 : decode cX11_tie 4 = .ok (.iload_n 1, 1) := by decide +kernel
theorem dX11_tie_5 : decode cX11_tie 5 = .ok (.invokevirtual 106, 3) := by decide +kernel
theorem dX11_tie_8 : decode cX11_tie 8 = .ok (.ifCond .eq 19, 3) := by decide +kernel
theorem dX11_tie_11 : decode cX11_tie 11 = .ok (.aload_n 0, 1) := by decide +kernel
theorem dX11_tie_12 : decode cX11_tie 12 = .ok (.getfield 10, 3) := by decide +kernel
theorem dX11_tie_15 : decode cX11_tie 15 = .ok (.iload_n 2, 1) := by decide +kernel
theorem dX11_tie_16 : decode cX11_tie 16 = .ok (.invokevirtual 106, 3) := by decide +kernel
theorem dX11_tie_19 : decode cX11_tie 19 = .ok (.ifCond .eq 8, 3) := by decide +kernel
theorem dX11_tie_22 : decode cX11_tie 22 = .ok (.iload_n 1, 1) := by decide +kernel
theorem dX11_tie_23 : decode cX11_tie 23 = .ok (.iload_n 2, 1) := by decide +kernel
theorem dX11_tie_24 : decode cX11_tie 24 = .ok (.if_icmp .ne 6, 3) := by decide +kernel
theorem dX11_tie_27 : decode cX11_tie 27 = .ok (.bipush (-2), 2) := by decide +kernel
theorem dX11_tie_29 : decode cX11_tie 29 = .ok (.ireturn, 1) := by decide +kernel
theorem dX11_tie_30 : decode cX11_tie 30 = .ok (.aload_n 0, 1) := by decide +kernel
theorem dX11_tie_31 : decode cX11_tie 31 = .ok (.getfield 10, 3) := by decide +kernel
theorem dX11_tie_34 : decode cX11_tie 34 = .ok (.iload_n 1, 1) := by decide +kernel
theorem dX11_tie_35 : decode cX11_tie 35 = .ok (.iload_n 2, 1) := by decide +kernel
theorem dX11_tie_36 : decode cX11_tie 36 = .ok (.invokevirtual 113, 3) := by decide +kernel
theorem dX11_tie_39 : decode cX11_tie 39 = .ok (.ifCond .eq 6, 3) := by decide +kernel
theorem dX11_tie_42 : decode cX11_tie 42 = .ok (.bipush (-4), 2) := by decide +kernel
theorem dX11_tie_44 : decode cX11_tie 44 = .ok (.ireturn, 1) := by decide +kernel
theorem dX11_tie_45 : decode cX11_tie 45 = .ok (.aload_n 0, 1) := by decide +kernel
theorem dX11_tie_46 : decode cX11_tie 46 = .ok (.dup, 1) := by decide +kernel
theorem dX11_tie_47 : decode cX11_tie 47 = .ok (.getfield 99, 3) := by decide +kernel
theorem dX11_tie_50 : decode cX11_tie 50 = .ok (.iconst 1, 1) := by decide +kernel
theorem dX11_tie_51 : decode cX11_tie 51 = .ok (.iadd, 1) := by decide +kernel
theorem dX11_tie_52 : decode cX11_tie 52 = .ok (.putfield 99, 3) := by decide +kernel
theorem dX11_tie_55 : decode cX11_tie 55 = .ok (.aload_n 0, 1) := by decide +kernel
theorem dX11_tie_56 : decode cX11_tie 56 = .ok (.getfield 10, 3) := by decide +kernel
theorem dX11_tie_59 : decode cX11_tie 59 = .ok (.iload_n 1, 1) := by decide +kernel
theorem dX11_tie_60 : decode cX11_tie 60 = .ok (.iload_n 2, 1) := by decide +kernel
theorem dX11_tie_61 : decode cX11_tie 61 = .ok (.invokevirtual 116, 3) := by decide +kernel
theorem dX11_tie_64 : decode cX11_tie 64 = .ok (.ireturn, 1) := by decide +kernel
theorem dX11_of_0 : decode cX11_of 0 = .ok (.aload_n 0, 1) := by decide +kernel
theorem dX11_of_1 : decode cX11_of 1 = .ok (.getfield 10, 3) := by decide +kernel
theorem dX11_of_4 : decode cX11_of 4 = .ok (.iload_n 1, 1) := by decide +kernel
theorem dX11_of_5 : decode cX11_of 5 = .ok (.invokevirtual 106, 3) := by decide +kernel
theorem dX11_of_8 : decode cX11_of 8 = .ok (.ifCond .ne 6, 3) := by decide +kernel
theorem dX11_of_11 : decode cX11_of 11 = .ok (.bipush (-2), 2) := by decide +kernel
theorem dX11_of_13 : decode cX11_of 13 = .ok (.ireturn, 1) := by decide +kernel
theorem dX11_of_14 : decode cX11_of 14 = .ok (.iload_n 2, 1) := by decide +kernel
theorem dX11_of_15 : decode cX11_of 15 = .ok (.bipush 7, 2) := by decide +kernel
theorem dX11_of_17 : decode cX11_of 17 = .ok (.invokestatic 88, 3) := by decide +kernel
theorem dX11_of_20 : decode cX11_of 20 = .ok (.ifCond .eq 17, 3) := by decide +kernel
theorem dX11_of_23 : decode cX11_of 23 = .ok (.aload_n 0, 1) := by decide +kernel
theorem dX11_of_24 : decode cX11_of 24 = .ok (.getfield 10, 3) := by decide +kernel
theorem dX11_of_27 : decode cX11_of 27 = .ok (.getfield 109, 3) := by decide +kernel
theorem dX11_of_30 : decode cX11_of 30 = .ok (.iload_n 2, 1) := by decide +kernel
theorem dX11_of_31 : decode cX11_of 31 = .ok (.aaload, 1) := by decide +kernel
theorem dX11_of_32 : decode cX11_of 32 = .ok (.iload_n 1, 1) := by decide +kernel
theorem dX11_of_33 : decode cX11_of 33 = .ok (.iaload, 1) := by decide +kernel
theorem dX11_of_34 : decode cX11_of 34 = .ok (.goto 5, 3) := by decide +kernel
theorem dX11_of_37 : decode cX11_of 37 = .ok (.bipush (-3), 2) := by decide +kernel
theorem dX11_of_39 : decode cX11_of 39 = .ok (.ireturn, 1) := by decide +kernel
theorem dX11_price_0 : decode cX11_price 0 = .ok (.iload_n 1, 1) := by decide +kernel
theorem dX11_price_1 : decode cX11_price 1 = .ok (.bipush 15, 2) := by decide +kernel
theorem dX11_price_3 : decode cX11_price 3 = .ok (.invokestatic 88, 3) := by decide +kernel
theorem dX11_price_6 : decode cX11_price 6 = .ok (.ifCond .eq 14, 3) := by decide +kernel
theorem dX11_price_9 : decode cX11_price 9 = .ok (.iload_n 2, 1) := by decide +kernel
theorem dX11_price_10 : decode cX11_price 10 = .ok (.iconst 1, 1) := by decide +kernel
theorem dX11_price_11 : decode cX11_price 11 = .ok (.if_icmp .lt 9, 3) := by decide +kernel
theorem dX11_price_14 : decode cX11_price 14 = .ok (.iload_n 2, 1) := by decide +kernel
theorem dX11_price_15 : decode cX11_price 15 = .ok (.bipush 9, 2) := by decide +kernel
theorem dX11_price_17 : decode cX11_price 17 = .ok (.if_icmp .le 6, 3) := by decide +kernel
theorem dX11_price_20 : decode cX11_price 20 = .ok (.bipush (-3), 2) := by decide +kernel
theorem dX11_price_22 : decode cX11_price 22 = .ok (.ireturn, 1) := by decide +kernel
theorem dX11_price_23 : decode cX11_price 23 = .ok (.aload_n 0, 1) := by decide +kernel
theorem dX11_price_24 : decode cX11_price 24 = .ok (.getfield 18, 3) := by decide +kernel
theorem dX11_price_27 : decode cX11_price 27 = .ok (.iload_n 1, 1) := by decide +kernel
theorem dX11_price_28 : decode cX11_price 28 = .ok (.iaload, 1) := by decide +kernel
theorem dX11_price_29 : decode cX11_price 29 = .ok (.istore_n 3, 1) := by decide +kernel
theorem dX11_price_30 : decode cX11_price 30 = .ok (.aload_n 0, 1) := by decide +kernel
theorem dX11_price_31 : decode cX11_price 31 = .ok (.getfield 18, 3) := by decide +kernel
theorem dX11_price_34 : decode cX11_price 34 = .ok (.iload_n 1, 1) := by decide +kernel
theorem dX11_price_35 : decode cX11_price 35 = .ok (.iload_n 2, 1) := by decide +kernel
theorem dX11_price_36 : decode cX11_price 36 = .ok (.iastore, 1) := by decide +kernel
theorem dX11_price_37 : decode cX11_price 37 = .ok (.aload_n 0, 1) := by decide +kernel
theorem dX11_price_38 : decode cX11_price 38 = .ok (.dup, 1) := by decide +kernel
theorem dX11_price_39 : decode cX11_price 39 = .ok (.getfield 99, 3) := by decide +kernel
theorem dX11_price_42 : decode cX11_price 42 = .ok (.iconst 1, 1) := by decide +kernel
theorem dX11_price_43 : decode cX11_price 43 = .ok (.iadd, 1) := by decide +kernel
theorem dX11_price_44 : decode cX11_price 44 = .ok (.putfield 99, 3) := by decide +kernel
theorem dX11_price_47 : decode cX11_price 47 = .ok (.iload_n 3, 1) := by decide +kernel
theorem dX11_price_48 : decode cX11_price 48 = .ok (.ireturn, 1) := by decide +kernel
theorem dX11_write_0 : decode cX11_write 0 = .ok (.iload_n 3, 1) := by decide +kernel
theorem dX11_write_1 : decode cX11_write 1 = .ok (.iconst 1, 1) := by decide +kernel
theorem dX11_write_2 : decode cX11_write 2 = .ok (.if_icmp .lt 9, 3) := by decide +kernel
theorem dX11_write_5 : decode cX11_write 5 = .ok (.iload_n 3, 1) := by decide +kernel
theorem dX11_write_6 : decode cX11_write 6 = .ok (.bipush 8, 2) := by decide +kernel
theorem dX11_write_8 : decode cX11_write 8 = .ok (.if_icmp .le 6, 3) := by decide +kernel
theorem dX11_write_11 : decode cX11_write 11 = .ok (.bipush (-3), 2) := by decide +kernel
theorem dX11_write_13 : decode cX11_write 13 = .ok (.ireturn, 1) := by decide +kernel
theorem dX11_write_14 : decode cX11_write 14 = .ok (.aload_n 0, 1) := by decide +kernel
theorem dX11_write_15 : decode cX11_write 15 = .ok (.getfield 25, 3) := by decide +kernel
theorem dX11_write_18 : decode cX11_write 18 = .ok (.iload_n 3, 1) := by decide +kernel
theorem dX11_write_19 : decode cX11_write 19 = .ok (.invokevirtual 120, 3) := by decide +kernel
theorem dX11_write_22 : decode cX11_write 22 = .ok (.ifCond .eq 15, 3) := by decide +kernel
theorem dX11_write_25 : decode cX11_write 25 = .ok (.aload_n 0, 1) := by decide +kernel
theorem dX11_write_26 : decode cX11_write 26 = .ok (.getfield 25, 3) := by decide +kernel
theorem dX11_write_29 : decode cX11_write 29 = .ok (.lload_n 1, 1) := by decide +kernel
theorem dX11_write_30 : decode cX11_write 30 = .ok (.iload_n 3, 1) := by decide +kernel
theorem dX11_write_31 : decode cX11_write 31 = .ok (.invokevirtual 123, 3) := by decide +kernel
theorem dX11_write_34 : decode cX11_write 34 = .ok (.goto 5, 3) := by decide +kernel
theorem dX11_write_37 : decode cX11_write 37 = .ok (.bipush (-5), 2) := by decide +kernel
theorem dX11_write_39 : decode cX11_write 39 = .ok (.ireturn, 1) := by decide +kernel
theorem dX11_erase_0 : decode cX11_erase 0 = .ok (.aload_n 0, 1) := by decide +kernel
theorem dX11_erase_1 : decode cX11_erase 1 = .ok (.getfield 25, 3) := by decide +kernel
theorem dX11_erase_4 : decode cX11_erase 4 = .ok (.invokevirtual 127, 3) := by decide +kernel
theorem dX11_erase_7 : decode cX11_erase 7 = .ok (.ireturn, 1) := by decide +kernel
theorem dX11_fault_0 : decode cX11_fault 0 = .ok (.aload_n 0, 1) := by decide +kernel
theorem dX11_fault_1 : decode cX11_fault 1 = .ok (.getfield 25, 3) := by decide +kernel
theorem dX11_fault_4 : decode cX11_fault 4 = .ok (.invokevirtual 131, 3) := by decide +kernel
theorem dX11_fault_7 : decode cX11_fault 7 = .ok (.ireturn, 1) := by decide +kernel
theorem dX11_says_0 : decode cX11_says 0 = .ok (.iload_n 1, 1) := by decide +kernel
theorem dX11_says_1 : decode cX11_says 1 = .ok (.iconst 3, 1) := by decide +kernel
theorem dX11_says_2 : decode cX11_says 2 = .ok (.invokestatic 88, 3) := by decide +kernel
theorem dX11_says_5 : decode cX11_says 5 = .ok (.ifCond .ne 6, 3) := by decide +kernel
theorem dX11_says_8 : decode cX11_says 8 = .ok (.bipush (-3), 2) := by decide +kernel
theorem dX11_says_10 : decode cX11_says 10 = .ok (.ireturn, 1) := by decide +kernel
theorem dX11_says_11 : decode cX11_says 11 = .ok (.aload_n 0, 1) := by decide +kernel
theorem dX11_says_12 : decode cX11_says 12 = .ok (.getfield 25, 3) := by decide +kernel
theorem dX11_says_15 : decode cX11_says 15 = .ok (.invokevirtual 131, 3) := by decide +kernel
theorem dX11_says_18 : decode cX11_says 18 = .ok (.iconst (-1), 1) := by decide +kernel
theorem dX11_says_19 : decode cX11_says 19 = .ok (.if_icmp .ne 18, 3) := by decide +kernel
theorem dX11_says_22 : decode cX11_says 22 = .ok (.aload_n 0, 1) := by decide +kernel
theorem dX11_says_23 : decode cX11_says 23 = .ok (.aload_n 0, 1) := by decide +kernel
theorem dX11_says_24 : decode cX11_says 24 = .ok (.getfield 25, 3) := by decide +kernel
theorem dX11_says_27 : decode cX11_says 27 = .ok (.getfield 134, 3) := by decide +kernel
theorem dX11_says_30 : decode cX11_says 30 = .ok (.iload_n 1, 1) := by decide +kernel
theorem dX11_says_31 : decode cX11_says 31 = .ok (.invokevirtual 138, 3) := by decide +kernel
theorem dX11_says_34 : decode cX11_says 34 = .ok (.goto 5, 3) := by decide +kernel
theorem dX11_says_37 : decode cX11_says 37 = .ok (.bipush (-4), 2) := by decide +kernel
theorem dX11_says_39 : decode cX11_says 39 = .ok (.ireturn, 1) := by decide +kernel
theorem dX11_keep_0 : decode cX11_keep 0 = .ok (.aload_n 0, 1) := by decide +kernel
theorem dX11_keep_1 : decode cX11_keep 1 = .ok (.getfield 25, 3) := by decide +kernel
theorem dX11_keep_4 : decode cX11_keep 4 = .ok (.invokevirtual 131, 3) := by decide +kernel
theorem dX11_keep_7 : decode cX11_keep 7 = .ok (.iconst (-1), 1) := by decide +kernel
theorem dX11_keep_8 : decode cX11_keep 8 = .ok (.if_icmp .eq 6, 3) := by decide +kernel
theorem dX11_keep_11 : decode cX11_keep 11 = .ok (.bipush (-4), 2) := by decide +kernel
theorem dX11_keep_13 : decode cX11_keep 13 = .ok (.ireturn, 1) := by decide +kernel
theorem dX11_keep_14 : decode cX11_keep 14 = .ok (.aload_n 0, 1) := by decide +kernel
theorem dX11_keep_15 : decode cX11_keep 15 = .ok (.getfield 142, 3) := by decide +kernel
theorem dX11_keep_18 : decode cX11_keep 18 = .ok (.bipush 8, 2) := by decide +kernel
theorem dX11_keep_20 : decode cX11_keep 20 = .ok (.if_icmp .lt 6, 3) := by decide +kernel
theorem dX11_keep_23 : decode cX11_keep 23 = .ok (.bipush (-5), 2) := by decide +kernel
theorem dX11_keep_25 : decode cX11_keep 25 = .ok (.ireturn, 1) := by decide +kernel
theorem dX11_keep_26 : decode cX11_keep 26 = .ok (.aload_n 0, 1) := by decide +kernel
theorem dX11_keep_27 : decode cX11_keep 27 = .ok (.getfield 31, 3) := by decide +kernel
theorem dX11_keep_30 : decode cX11_keep 30 = .ok (.aload_n 0, 1) := by decide +kernel
theorem dX11_keep_31 : decode cX11_keep 31 = .ok (.getfield 142, 3) := by decide +kernel
theorem dX11_keep_34 : decode cX11_keep 34 = .ok (.aaload, 1) := by decide +kernel
theorem dX11_keep_35 : decode cX11_keep 35 = .ok (.aload_n 0, 1) := by decide +kernel
theorem dX11_keep_36 : decode cX11_keep 36 = .ok (.getfield 25, 3) := by decide +kernel
theorem dX11_keep_39 : decode cX11_keep 39 = .ok (.getfield 134, 3) := by decide +kernel
theorem dX11_keep_42 : decode cX11_keep 42 = .ok (.invokevirtual 145, 3) := by decide +kernel
theorem dX11_keep_45 : decode cX11_keep 45 = .ok (.aload_n 0, 1) := by decide +kernel
theorem dX11_keep_46 : decode cX11_keep 46 = .ok (.getfield 25, 3) := by decide +kernel
theorem dX11_keep_49 : decode cX11_keep 49 = .ok (.invokevirtual 127, 3) := by decide +kernel
theorem dX11_keep_52 : decode cX11_keep 52 = .ok (.pop, 1) := by decide +kernel
theorem dX11_keep_53 : decode cX11_keep 53 = .ok (.aload_n 0, 1) := by decide +kernel
theorem dX11_keep_54 : decode cX11_keep 54 = .ok (.dup, 1) := by decide +kernel
theorem dX11_keep_55 : decode cX11_keep 55 = .ok (.getfield 142, 3) := by decide +kernel
theorem dX11_keep_58 : decode cX11_keep 58 = .ok (.dup_x1, 1) := by decide +kernel
theorem dX11_keep_59 : decode cX11_keep 59 = .ok (.iconst 1, 1) := by decide +kernel
theorem dX11_keep_60 : decode cX11_keep 60 = .ok (.iadd, 1) := by decide +kernel
theorem dX11_keep_61 : decode cX11_keep 61 = .ok (.putfield 142, 3) := by decide +kernel
theorem dX11_keep_64 : decode cX11_keep 64 = .ok (.ireturn, 1) := by decide +kernel
theorem dX11_kept_0 : decode cX11_kept 0 = .ok (.iload_n 1, 1) := by decide +kernel
theorem dX11_kept_1 : decode cX11_kept 1 = .ok (.aload_n 0, 1) := by decide +kernel
theorem dX11_kept_2 : decode cX11_kept 2 = .ok (.getfield 142, 3) := by decide +kernel
theorem dX11_kept_5 : decode cX11_kept 5 = .ok (.invokestatic 88, 3) := by decide +kernel
theorem dX11_kept_8 : decode cX11_kept 8 = .ok (.ifCond .ne 6, 3) := by decide +kernel
theorem dX11_kept_11 : decode cX11_kept 11 = .ok (.bipush (-2), 2) := by decide +kernel
theorem dX11_kept_13 : decode cX11_kept 13 = .ok (.ireturn, 1) := by decide +kernel
theorem dX11_kept_14 : decode cX11_kept 14 = .ok (.iload_n 2, 1) := by decide +kernel
theorem dX11_kept_15 : decode cX11_kept 15 = .ok (.iconst 3, 1) := by decide +kernel
theorem dX11_kept_16 : decode cX11_kept 16 = .ok (.invokestatic 88, 3) := by decide +kernel
theorem dX11_kept_19 : decode cX11_kept 19 = .ok (.ifCond .eq 17, 3) := by decide +kernel
theorem dX11_kept_22 : decode cX11_kept 22 = .ok (.aload_n 0, 1) := by decide +kernel
theorem dX11_kept_23 : decode cX11_kept 23 = .ok (.aload_n 0, 1) := by decide +kernel
theorem dX11_kept_24 : decode cX11_kept 24 = .ok (.getfield 31, 3) := by decide +kernel
theorem dX11_kept_27 : decode cX11_kept 27 = .ok (.iload_n 1, 1) := by decide +kernel
theorem dX11_kept_28 : decode cX11_kept 28 = .ok (.aaload, 1) := by decide +kernel
theorem dX11_kept_29 : decode cX11_kept 29 = .ok (.iload_n 2, 1) := by decide +kernel
theorem dX11_kept_30 : decode cX11_kept 30 = .ok (.invokevirtual 138, 3) := by decide +kernel
theorem dX11_kept_33 : decode cX11_kept 33 = .ok (.goto 5, 3) := by decide +kernel
theorem dX11_kept_36 : decode cX11_kept 36 = .ok (.bipush (-3), 2) := by decide +kernel
theorem dX11_kept_38 : decode cX11_kept 38 = .ok (.ireturn, 1) := by decide +kernel
theorem dX11_told_0 : decode cX11_told 0 = .ok (.iload_n 2, 1) := by decide +kernel
theorem dX11_told_1 : decode cX11_told 1 = .ok (.lookupswitch 45 #[(0, 27), (1, 36)], 27) := by decide +kernel
theorem dX11_told_28 : decode cX11_told 28 = .ok (.aload_n 1, 1) := by decide +kernel
theorem dX11_told_29 : decode cX11_told 29 = .ok (.aload_n 0, 1) := by decide +kernel
theorem dX11_told_30 : decode cX11_told 30 = .ok (.getfield 10, 3) := by decide +kernel
theorem dX11_told_33 : decode cX11_told 33 = .ok (.invokevirtual 149, 3) := by decide +kernel
theorem dX11_told_36 : decode cX11_told 36 = .ok (.ireturn, 1) := by decide +kernel
theorem dX11_told_37 : decode cX11_told 37 = .ok (.aload_n 1, 1) := by decide +kernel
theorem dX11_told_38 : decode cX11_told 38 = .ok (.aload_n 0, 1) := by decide +kernel
theorem dX11_told_39 : decode cX11_told 39 = .ok (.getfield 18, 3) := by decide +kernel
theorem dX11_told_42 : decode cX11_told 42 = .ok (.invokevirtual 153, 3) := by decide +kernel
theorem dX11_told_45 : decode cX11_told 45 = .ok (.ireturn, 1) := by decide +kernel
theorem dX11_told_46 : decode cX11_told 46 = .ok (.aload_n 1, 1) := by decide +kernel
theorem dX11_told_47 : decode cX11_told 47 = .ok (.getfield 157, 3) := by decide +kernel
theorem dX11_told_50 : decode cX11_told 50 = .ok (.ireturn, 1) := by decide +kernel
theorem dX11_cheapest_0 : decode cX11_cheapest 0 = .ok (.iload_n 1, 1) := by decide +kernel
theorem dX11_cheapest_1 : decode cX11_cheapest 1 = .ok (.aload_n 0, 1) := by decide +kernel
theorem dX11_cheapest_2 : decode cX11_cheapest 2 = .ok (.getfield 10, 3) := by decide +kernel
theorem dX11_cheapest_5 : decode cX11_cheapest 5 = .ok (.invokevirtual 160, 3) := by decide +kernel
theorem dX11_cheapest_8 : decode cX11_cheapest 8 = .ok (.iconst 1, 1) := by decide +kernel
theorem dX11_cheapest_9 : decode cX11_cheapest 9 = .ok (.iadd, 1) := by decide +kernel
theorem dX11_cheapest_10 : decode cX11_cheapest 10 = .ok (.invokestatic 88, 3) := by decide +kernel
theorem dX11_cheapest_13 : decode cX11_cheapest 13 = .ok (.ifCond .eq 16, 3) := by decide +kernel
theorem dX11_cheapest_16 : decode cX11_cheapest 16 = .ok (.iload_n 2, 1) := by decide +kernel
theorem dX11_cheapest_17 : decode cX11_cheapest 17 = .ok (.invokestatic 163, 3) := by decide +kernel
theorem dX11_cheapest_20 : decode cX11_cheapest 20 = .ok (.ifCond .eq 9, 3) := by decide +kernel
theorem dX11_cheapest_23 : decode cX11_cheapest 23 = .ok (.iload_n 3, 1) := by decide +kernel
theorem dX11_cheapest_24 : decode cX11_cheapest 24 = .ok (.bipush (-2), 2) := by decide +kernel
theorem dX11_cheapest_26 : decode cX11_cheapest 26 = .ok (.if_icmp .ge 6, 3) := by decide +kernel
theorem dX11_cheapest_29 : decode cX11_cheapest 29 = .ok (.bipush (-3), 2) := by decide +kernel
theorem dX11_cheapest_31 : decode cX11_cheapest 31 = .ok (.ireturn, 1) := by decide +kernel
theorem dX11_cheapest_32 : decode cX11_cheapest 32 = .ok (.aload_n 0, 1) := by decide +kernel
theorem dX11_cheapest_33 : decode cX11_cheapest 33 = .ok (.iload_n 2, 1) := by decide +kernel
theorem dX11_cheapest_34 : decode cX11_cheapest 34 = .ok (.invokevirtual 166, 3) := by decide +kernel
theorem dX11_cheapest_37 : decode cX11_cheapest 37 = .ok (.astore 4, 2) := by decide +kernel
theorem dX11_cheapest_39 : decode cX11_cheapest 39 = .ok (.aload 4, 2) := by decide +kernel
theorem dX11_cheapest_41 : decode cX11_cheapest 41 = .ok (.iload_n 1, 1) := by decide +kernel
theorem dX11_cheapest_42 : decode cX11_cheapest 42 = .ok (.invokevirtual 170, 3) := by decide +kernel
theorem dX11_cheapest_45 : decode cX11_cheapest 45 = .ok (.ifCond .ne 5, 3) := by decide +kernel
theorem dX11_cheapest_48 : decode cX11_cheapest 48 = .ok (.iconst (-1), 1) := by decide +kernel
theorem dX11_cheapest_49 : decode cX11_cheapest 49 = .ok (.ireturn, 1) := by decide +kernel
theorem dX11_cheapest_50 : decode cX11_cheapest 50 = .ok (.iload_n 3, 1) := by decide +kernel
theorem dX11_cheapest_51 : decode cX11_cheapest 51 = .ok (.lookupswitch 41 #[(-2, 33), (-1, 25)], 25) := by decide +kernel
theorem dX11_cheapest_76 : decode cX11_cheapest 76 = .ok (.aload 4, 2) := by decide +kernel
theorem dX11_cheapest_78 : decode cX11_cheapest 78 = .ok (.getfield 173, 3) := by decide +kernel
theorem dX11_cheapest_81 : decode cX11_cheapest 81 = .ok (.iload_n 1, 1) := by decide +kernel
theorem dX11_cheapest_82 : decode cX11_cheapest 82 = .ok (.iaload, 1) := by decide +kernel
theorem dX11_cheapest_83 : decode cX11_cheapest 83 = .ok (.ireturn, 1) := by decide +kernel
theorem dX11_cheapest_84 : decode cX11_cheapest 84 = .ok (.aload 4, 2) := by decide +kernel
theorem dX11_cheapest_86 : decode cX11_cheapest 86 = .ok (.getfield 176, 3) := by decide +kernel
theorem dX11_cheapest_89 : decode cX11_cheapest 89 = .ok (.iload_n 1, 1) := by decide +kernel
theorem dX11_cheapest_90 : decode cX11_cheapest 90 = .ok (.iaload, 1) := by decide +kernel
theorem dX11_cheapest_91 : decode cX11_cheapest 91 = .ok (.ireturn, 1) := by decide +kernel
theorem dX11_cheapest_92 : decode cX11_cheapest 92 = .ok (.iload_n 3, 1) := by decide +kernel
theorem dX11_cheapest_93 : decode cX11_cheapest 93 = .ok (.aload 4, 2) := by decide +kernel
theorem dX11_cheapest_95 : decode cX11_cheapest 95 = .ok (.getfield 176, 3) := by decide +kernel
theorem dX11_cheapest_98 : decode cX11_cheapest 98 = .ok (.iload_n 1, 1) := by decide +kernel
theorem dX11_cheapest_99 : decode cX11_cheapest 99 = .ok (.iaload, 1) := by decide +kernel
theorem dX11_cheapest_100 : decode cX11_cheapest 100 = .ok (.if_icmp .ge 13, 3) := by decide +kernel
theorem dX11_cheapest_103 : decode cX11_cheapest 103 = .ok (.aload 4, 2) := by decide +kernel
theorem dX11_cheapest_105 : decode cX11_cheapest 105 = .ok (.iload_n 1, 1) := by decide +kernel
theorem dX11_cheapest_106 : decode cX11_cheapest 106 = .ok (.iload_n 3, 1) := by decide +kernel
theorem dX11_cheapest_107 : decode cX11_cheapest 107 = .ok (.invokevirtual 179, 3) := by decide +kernel
theorem dX11_cheapest_110 : decode cX11_cheapest 110 = .ok (.goto 4, 3) := by decide +kernel
theorem dX11_cheapest_113 : decode cX11_cheapest 113 = .ok (.iconst (-1), 1) := by decide +kernel
theorem dX11_cheapest_114 : decode cX11_cheapest 114 = .ok (.ireturn, 1) := by decide +kernel
theorem dX11_sets_0 : decode cX11_sets 0 = .ok (.iload_n 1, 1) := by decide +kernel
theorem dX11_sets_1 : decode cX11_sets 1 = .ok (.invokestatic 163, 3) := by decide +kernel
theorem dX11_sets_4 : decode cX11_sets 4 = .ok (.ifCond .eq 14, 3) := by decide +kernel
theorem dX11_sets_7 : decode cX11_sets 7 = .ok (.aload_n 0, 1) := by decide +kernel
theorem dX11_sets_8 : decode cX11_sets 8 = .ok (.iload_n 1, 1) := by decide +kernel
theorem dX11_sets_9 : decode cX11_sets 9 = .ok (.invokevirtual 166, 3) := by decide +kernel
theorem dX11_sets_12 : decode cX11_sets 12 = .ok (.getfield 182, 3) := by decide +kernel
theorem dX11_sets_15 : decode cX11_sets 15 = .ok (.goto 5, 3) := by decide +kernel
theorem dX11_sets_18 : decode cX11_sets 18 = .ok (.bipush (-3), 2) := by decide +kernel
theorem dX11_sets_20 : decode cX11_sets 20 = .ok (.ireturn, 1) := by decide +kernel
theorem dX11_quick_0 : decode cX11_quick 0 = .ok (.aload_n 0, 1) := by decide +kernel
theorem dX11_quick_1 : decode cX11_quick 1 = .ok (.getfield 10, 3) := by decide +kernel
theorem dX11_quick_4 : decode cX11_quick 4 = .ok (.iload_n 1, 1) := by decide +kernel
theorem dX11_quick_5 : decode cX11_quick 5 = .ok (.invokevirtual 106, 3) := by decide +kernel
theorem dX11_quick_8 : decode cX11_quick 8 = .ok (.ifCond .eq 18, 3) := by decide +kernel
theorem dX11_quick_11 : decode cX11_quick 11 = .ok (.aload_n 0, 1) := by decide +kernel
theorem dX11_quick_12 : decode cX11_quick 12 = .ok (.getfield 10, 3) := by decide +kernel
theorem dX11_quick_15 : decode cX11_quick 15 = .ok (.aload_n 0, 1) := by decide +kernel
theorem dX11_quick_16 : decode cX11_quick 16 = .ok (.getfield 18, 3) := by decide +kernel
theorem dX11_quick_19 : decode cX11_quick 19 = .ok (.iload_n 1, 1) := by decide +kernel
theorem dX11_quick_20 : decode cX11_quick 20 = .ok (.invokestatic 185, 3) := by decide +kernel
theorem dX11_quick_23 : decode cX11_quick 23 = .ok (.goto 5, 3) := by decide +kernel
theorem dX11_quick_26 : decode cX11_quick 26 = .ok (.bipush (-2), 2) := by decide +kernel
theorem dX11_quick_28 : decode cX11_quick 28 = .ok (.ireturn, 1) := by decide +kernel
theorem dX11_twin_0 : decode cX11_twin 0 = .ok (.aload_n 0, 1) := by decide +kernel
theorem dX11_twin_1 : decode cX11_twin 1 = .ok (.getfield 10, 3) := by decide +kernel
theorem dX11_twin_4 : decode cX11_twin 4 = .ok (.iload_n 1, 1) := by decide +kernel
theorem dX11_twin_5 : decode cX11_twin 5 = .ok (.invokevirtual 106, 3) := by decide +kernel
theorem dX11_twin_8 : decode cX11_twin 8 = .ok (.ifCond .ne 6, 3) := by decide +kernel
theorem dX11_twin_11 : decode cX11_twin 11 = .ok (.bipush (-2), 2) := by decide +kernel
theorem dX11_twin_13 : decode cX11_twin 13 = .ok (.ireturn, 1) := by decide +kernel
theorem dX11_twin_14 : decode cX11_twin 14 = .ok (.iload_n 2, 1) := by decide +kernel
theorem dX11_twin_15 : decode cX11_twin 15 = .ok (.iconst 3, 1) := by decide +kernel
theorem dX11_twin_16 : decode cX11_twin 16 = .ok (.invokestatic 88, 3) := by decide +kernel
theorem dX11_twin_19 : decode cX11_twin 19 = .ok (.ifCond .ne 6, 3) := by decide +kernel
theorem dX11_twin_22 : decode cX11_twin 22 = .ok (.bipush (-3), 2) := by decide +kernel
theorem dX11_twin_24 : decode cX11_twin 24 = .ok (.ireturn, 1) := by decide +kernel
theorem dX11_twin_25 : decode cX11_twin 25 = .ok (.aload_n 0, 1) := by decide +kernel
theorem dX11_twin_26 : decode cX11_twin 26 = .ok (.getfield 52, 3) := by decide +kernel
theorem dX11_twin_29 : decode cX11_twin 29 = .ok (.aload_n 0, 1) := by decide +kernel
theorem dX11_twin_30 : decode cX11_twin 30 = .ok (.getfield 10, 3) := by decide +kernel
theorem dX11_twin_33 : decode cX11_twin 33 = .ok (.invokevirtual 190, 3) := by decide +kernel
theorem dX11_twin_36 : decode cX11_twin 36 = .ok (.iload_n 2, 1) := by decide +kernel
theorem dX11_twin_37 : decode cX11_twin 37 = .ok (.lookupswitch 50 #[(0, 27), (1, 40)], 27) := by decide +kernel
theorem dX11_twin_64 : decode cX11_twin 64 = .ok (.aload_n 0, 1) := by decide +kernel
theorem dX11_twin_65 : decode cX11_twin 65 = .ok (.getfield 52, 3) := by decide +kernel
theorem dX11_twin_68 : decode cX11_twin 68 = .ok (.getfield 194, 3) := by decide +kernel
theorem dX11_twin_71 : decode cX11_twin 71 = .ok (.iload_n 1, 1) := by decide +kernel
theorem dX11_twin_72 : decode cX11_twin 72 = .ok (.iaload, 1) := by decide +kernel
theorem dX11_twin_73 : decode cX11_twin 73 = .ok (.invokestatic 197, 3) := by decide +kernel
theorem dX11_twin_76 : decode cX11_twin 76 = .ok (.ireturn, 1) := by decide +kernel
theorem dX11_twin_77 : decode cX11_twin 77 = .ok (.aload_n 0, 1) := by decide +kernel
theorem dX11_twin_78 : decode cX11_twin 78 = .ok (.getfield 52, 3) := by decide +kernel
theorem dX11_twin_81 : decode cX11_twin 81 = .ok (.getfield 203, 3) := by decide +kernel
theorem dX11_twin_84 : decode cX11_twin 84 = .ok (.iload_n 1, 1) := by decide +kernel
theorem dX11_twin_85 : decode cX11_twin 85 = .ok (.iaload, 1) := by decide +kernel
theorem dX11_twin_86 : decode cX11_twin 86 = .ok (.ireturn, 1) := by decide +kernel
theorem dX11_twin_87 : decode cX11_twin 87 = .ok (.aload_n 0, 1) := by decide +kernel
theorem dX11_twin_88 : decode cX11_twin 88 = .ok (.getfield 52, 3) := by decide +kernel
theorem dX11_twin_91 : decode cX11_twin 91 = .ok (.aload_n 0, 1) := by decide +kernel
theorem dX11_twin_92 : decode cX11_twin 92 = .ok (.getfield 10, 3) := by decide +kernel
theorem dX11_twin_95 : decode cX11_twin 95 = .ok (.getfield 95, 3) := by decide +kernel
theorem dX11_twin_98 : decode cX11_twin 98 = .ok (.invokevirtual 206, 3) := by decide +kernel
theorem dX11_twin_101 : decode cX11_twin 101 = .ok (.ireturn, 1) := by decide +kernel
theorem dX11_waysWith_0 : decode cX11_waysWith 0 = .ok (.aload_n 0, 1) := by decide +kernel
theorem dX11_waysWith_1 : decode cX11_waysWith 1 = .ok (.getfield 38, 3) := by decide +kernel
theorem dX11_waysWith_4 : decode cX11_waysWith 4 = .ok (.getfield 209, 3) := by decide +kernel
theorem dX11_waysWith_7 : decode cX11_waysWith 7 = .ok (.aload_n 0, 1) := by decide +kernel
theorem dX11_waysWith_8 : decode cX11_waysWith 8 = .ok (.getfield 99, 3) := by decide +kernel
theorem dX11_waysWith_11 : decode cX11_waysWith 11 = .ok (.if_icmp .ne 14, 3) := by decide +kernel
theorem dX11_waysWith_14 : decode cX11_waysWith 14 = .ok (.aload_n 0, 1) := by decide +kernel
theorem dX11_waysWith_15 : decode cX11_waysWith 15 = .ok (.getfield 38, 3) := by decide +kernel
theorem dX11_waysWith_18 : decode cX11_waysWith 18 = .ok (.getfield 212, 3) := by decide +kernel
theorem dX11_waysWith_21 : decode cX11_waysWith 21 = .ok (.iload_n 1, 1) := by decide +kernel
theorem dX11_waysWith_22 : decode cX11_waysWith 22 = .ok (.if_icmp .eq 31, 3) := by decide +kernel
theorem dX11_waysWith_25 : decode cX11_waysWith 25 = .ok (.aload_n 0, 1) := by decide +kernel
theorem dX11_waysWith_26 : decode cX11_waysWith 26 = .ok (.getfield 38, 3) := by decide +kernel
theorem dX11_waysWith_29 : decode cX11_waysWith 29 = .ok (.aload_n 0, 1) := by decide +kernel
theorem dX11_waysWith_30 : decode cX11_waysWith 30 = .ok (.getfield 10, 3) := by decide +kernel
theorem dX11_waysWith_33 : decode cX11_waysWith 33 = .ok (.aload_n 0, 1) := by decide +kernel
theorem dX11_waysWith_34 : decode cX11_waysWith 34 = .ok (.getfield 18, 3) := by decide +kernel
theorem dX11_waysWith_37 : decode cX11_waysWith 37 = .ok (.iload_n 1, 1) := by decide +kernel
theorem dX11_waysWith_38 : decode cX11_waysWith 38 = .ok (.iconst 0, 1) := by decide +kernel
theorem dX11_waysWith_39 : decode cX11_waysWith 39 = .ok (.invokevirtual 215, 3) := by decide +kernel
theorem dX11_waysWith_42 : decode cX11_waysWith 42 = .ok (.aload_n 0, 1) := by decide +kernel
theorem dX11_waysWith_43 : decode cX11_waysWith 43 = .ok (.getfield 38, 3) := by decide +kernel
theorem dX11_waysWith_46 : decode cX11_waysWith 46 = .ok (.aload_n 0, 1) := by decide +kernel
theorem dX11_waysWith_47 : decode cX11_waysWith 47 = .ok (.getfield 99, 3) := by decide +kernel
theorem dX11_waysWith_50 : decode cX11_waysWith 50 = .ok (.putfield 209, 3) := by decide +kernel
theorem dX11_waysWith_53 : decode cX11_waysWith 53 = .ok (.aload_n 0, 1) := by decide +kernel
theorem dX11_waysWith_54 : decode cX11_waysWith 54 = .ok (.getfield 38, 3) := by decide +kernel
theorem dX11_waysWith_57 : decode cX11_waysWith 57 = .ok (.areturn, 1) := by decide +kernel
theorem dX11_breaks_0 : decode cX11_breaks 0 = .ok (.aload_n 0, 1) := by decide +kernel
theorem dX11_breaks_1 : decode cX11_breaks 1 = .ok (.getfield 25, 3) := by decide +kernel
theorem dX11_breaks_4 : decode cX11_breaks 4 = .ok (.invokevirtual 131, 3) := by decide +kernel
theorem dX11_breaks_7 : decode cX11_breaks 7 = .ok (.iconst (-1), 1) := by decide +kernel
theorem dX11_breaks_8 : decode cX11_breaks 8 = .ok (.if_icmp .ne 17, 3) := by decide +kernel
theorem dX11_breaks_11 : decode cX11_breaks 11 = .ok (.aload_n 0, 1) := by decide +kernel
theorem dX11_breaks_12 : decode cX11_breaks 12 = .ok (.aload_n 0, 1) := by decide +kernel
theorem dX11_breaks_13 : decode cX11_breaks 13 = .ok (.getfield 25, 3) := by decide +kernel
theorem dX11_breaks_16 : decode cX11_breaks 16 = .ok (.getfield 134, 3) := by decide +kernel
theorem dX11_breaks_19 : decode cX11_breaks 19 = .ok (.invokevirtual 218, 3) := by decide +kernel
theorem dX11_breaks_22 : decode cX11_breaks 22 = .ok (.goto 5, 3) := by decide +kernel
theorem dX11_breaks_25 : decode cX11_breaks 25 = .ok (.bipush (-4), 2) := by decide +kernel
theorem dX11_breaks_27 : decode cX11_breaks 27 = .ok (.ireturn, 1) := by decide +kernel
theorem dX11_firstBreak_0 : decode cX11_firstBreak 0 = .ok (.aload_n 1, 1) := by decide +kernel
theorem dX11_firstBreak_1 : decode cX11_firstBreak 1 = .ok (.aload_n 0, 1) := by decide +kernel
theorem dX11_firstBreak_2 : decode cX11_firstBreak 2 = .ok (.getfield 10, 3) := by decide +kernel
theorem dX11_firstBreak_5 : decode cX11_firstBreak 5 = .ok (.invokevirtual 149, 3) := by decide +kernel
theorem dX11_firstBreak_8 : decode cX11_firstBreak 8 = .ok (.istore_n 2, 1) := by decide +kernel
theorem dX11_firstBreak_9 : decode cX11_firstBreak 9 = .ok (.aload_n 0, 1) := by decide +kernel
theorem dX11_firstBreak_10 : decode cX11_firstBreak 10 = .ok (.getfield 10, 3) := by decide +kernel
theorem dX11_firstBreak_13 : decode cX11_firstBreak 13 = .ok (.getfield 109, 3) := by decide +kernel
theorem dX11_firstBreak_16 : decode cX11_firstBreak 16 = .ok (.iconst 1, 1) := by decide +kernel
theorem dX11_firstBreak_17 : decode cX11_firstBreak 17 = .ok (.aaload, 1) := by decide +kernel
theorem dX11_firstBreak_18 : decode cX11_firstBreak 18 = .ok (.astore_n 3, 1) := by decide +kernel
theorem dX11_firstBreak_19 : decode cX11_firstBreak 19 = .ok (.iconst 0, 1) := by decide +kernel
theorem dX11_firstBreak_20 : decode cX11_firstBreak 20 = .ok (.istore 4, 2) := by decide +kernel
theorem dX11_firstBreak_22 : decode cX11_firstBreak 22 = .ok (.iload 4, 2) := by decide +kernel
theorem dX11_firstBreak_24 : decode cX11_firstBreak 24 = .ok (.aload_n 0, 1) := by decide +kernel
theorem dX11_firstBreak_25 : decode cX11_firstBreak 25 = .ok (.getfield 10, 3) := by decide +kernel
theorem dX11_firstBreak_28 : decode cX11_firstBreak 28 = .ok (.getfield 95, 3) := by decide +kernel
theorem dX11_firstBreak_31 : decode cX11_firstBreak 31 = .ok (.if_icmp .ge 73, 3) := by decide +kernel
theorem dX11_firstBreak_34 : decode cX11_firstBreak 34 = .ok (.iload 4, 2) := by decide +kernel
theorem dX11_firstBreak_36 : decode cX11_firstBreak 36 = .ok (.bipush 8, 2) := by decide +kernel
theorem dX11_firstBreak_38 : decode cX11_firstBreak 38 = .ok (.if_icmp .ge 66, 3) := by decide +kernel
theorem dX11_firstBreak_41 : decode cX11_firstBreak 41 = .ok (.aload_n 3, 1) := by decide +kernel
theorem dX11_firstBreak_42 : decode cX11_firstBreak 42 = .ok (.iload 4, 2) := by decide +kernel
theorem dX11_firstBreak_44 : decode cX11_firstBreak 44 = .ok (.iaload, 1) := by decide +kernel
theorem dX11_firstBreak_45 : decode cX11_firstBreak 45 = .ok (.istore 5, 2) := by decide +kernel
theorem dX11_firstBreak_47 : decode cX11_firstBreak 47 = .ok (.iconst 0, 1) := by decide +kernel
theorem dX11_firstBreak_48 : decode cX11_firstBreak 48 = .ok (.istore 6, 2) := by decide +kernel
theorem dX11_firstBreak_50 : decode cX11_firstBreak 50 = .ok (.iload 6, 2) := by decide +kernel
theorem dX11_firstBreak_52 : decode cX11_firstBreak 52 = .ok (.iconst 4, 1) := by decide +kernel
theorem dX11_firstBreak_53 : decode cX11_firstBreak 53 = .ok (.if_icmp .ge 45, 3) := by decide +kernel
theorem dX11_firstBreak_56 : decode cX11_firstBreak 56 = .ok (.aload_n 3, 1) := by decide +kernel
theorem dX11_firstBreak_57 : decode cX11_firstBreak 57 = .ok (.iload 4, 2) := by decide +kernel
theorem dX11_firstBreak_59 : decode cX11_firstBreak 59 = .ok (.iload 6, 2) := by decide +kernel
theorem dX11_firstBreak_61 : decode cX11_firstBreak 61 = .ok (.iastore, 1) := by decide +kernel
theorem dX11_firstBreak_62 : decode cX11_firstBreak 62 = .ok (.aload_n 1, 1) := by decide +kernel
theorem dX11_firstBreak_63 : decode cX11_firstBreak 63 = .ok (.aload_n 0, 1) := by decide +kernel
theorem dX11_firstBreak_64 : decode cX11_firstBreak 64 = .ok (.getfield 10, 3) := by decide +kernel
theorem dX11_firstBreak_67 : decode cX11_firstBreak 67 = .ok (.invokevirtual 149, 3) := by decide +kernel
theorem dX11_firstBreak_70 : decode cX11_firstBreak 70 = .ok (.istore 7, 2) := by decide +kernel
theorem dX11_firstBreak_72 : decode cX11_firstBreak 72 = .ok (.aload_n 3, 1) := by decide +kernel
theorem dX11_firstBreak_73 : decode cX11_firstBreak 73 = .ok (.iload 4, 2) := by decide +kernel
theorem dX11_firstBreak_75 : decode cX11_firstBreak 75 = .ok (.iload 5, 2) := by decide +kernel
theorem dX11_firstBreak_77 : decode cX11_firstBreak 77 = .ok (.iastore, 1) := by decide +kernel
theorem dX11_firstBreak_78 : decode cX11_firstBreak 78 = .ok (.iload 7, 2) := by decide +kernel
theorem dX11_firstBreak_80 : decode cX11_firstBreak 80 = .ok (.iload_n 2, 1) := by decide +kernel
theorem dX11_firstBreak_81 : decode cX11_firstBreak 81 = .ok (.if_icmp .eq 11, 3) := by decide +kernel
theorem dX11_firstBreak_84 : decode cX11_firstBreak 84 = .ok (.iconst 4, 1) := by decide +kernel
theorem dX11_firstBreak_85 : decode cX11_firstBreak 85 = .ok (.iload 4, 2) := by decide +kernel
theorem dX11_firstBreak_87 : decode cX11_firstBreak 87 = .ok (.imul, 1) := by decide +kernel
theorem dX11_firstBreak_88 : decode cX11_firstBreak 88 = .ok (.iload 6, 2) := by decide +kernel
theorem dX11_firstBreak_90 : decode cX11_firstBreak 90 = .ok (.iadd, 1) := by decide +kernel
theorem dX11_firstBreak_91 : decode cX11_firstBreak 91 = .ok (.ireturn, 1) := by decide +kernel
theorem dX11_firstBreak_92 : decode cX11_firstBreak 92 = .ok (.iinc 6 1, 3) := by decide +kernel
theorem dX11_firstBreak_95 : decode cX11_firstBreak 95 = .ok (.goto (-45), 3) := by decide +kernel
theorem dX11_firstBreak_98 : decode cX11_firstBreak 98 = .ok (.iinc 4 1, 3) := by decide +kernel
theorem dX11_firstBreak_101 : decode cX11_firstBreak 101 = .ok (.goto (-79), 3) := by decide +kernel
theorem dX11_firstBreak_104 : decode cX11_firstBreak 104 = .ok (.iconst (-1), 1) := by decide +kernel
theorem dX11_firstBreak_105 : decode cX11_firstBreak 105 = .ok (.ireturn, 1) := by decide +kernel
theorem dX11_hears_0 : decode cX11_hears 0 = .ok (.iload_n 1, 1) := by decide +kernel
theorem dX11_hears_1 : decode cX11_hears 1 = .ok (.aload_n 0, 1) := by decide +kernel
theorem dX11_hears_2 : decode cX11_hears 2 = .ok (.getfield 142, 3) := by decide +kernel
theorem dX11_hears_5 : decode cX11_hears 5 = .ok (.invokestatic 88, 3) := by decide +kernel
theorem dX11_hears_8 : decode cX11_hears 8 = .ok (.ifCond .ne 6, 3) := by decide +kernel
theorem dX11_hears_11 : decode cX11_hears 11 = .ok (.bipush (-2), 2) := by decide +kernel
theorem dX11_hears_13 : decode cX11_hears 13 = .ok (.ireturn, 1) := by decide +kernel
theorem dX11_hears_14 : decode cX11_hears 14 = .ok (.iload_n 2, 1) := by decide +kernel
theorem dX11_hears_15 : decode cX11_hears 15 = .ok (.bipush 21, 2) := by decide +kernel
theorem dX11_hears_17 : decode cX11_hears 17 = .ok (.invokestatic 88, 3) := by decide +kernel
theorem dX11_hears_20 : decode cX11_hears 20 = .ok (.ifCond .ne 6, 3) := by decide +kernel
theorem dX11_hears_23 : decode cX11_hears 23 = .ok (.bipush (-3), 2) := by decide +kernel
theorem dX11_hears_25 : decode cX11_hears 25 = .ok (.ireturn, 1) := by decide +kernel
theorem dX11_hears_26 : decode cX11_hears 26 = .ok (.aload_n 0, 1) := by decide +kernel
theorem dX11_hears_27 : decode cX11_hears 27 = .ok (.iload_n 2, 1) := by decide +kernel
theorem dX11_hears_28 : decode cX11_hears 28 = .ok (.invokevirtual 222, 3) := by decide +kernel
theorem dX11_hears_31 : decode cX11_hears 31 = .ok (.aload_n 0, 1) := by decide +kernel
theorem dX11_hears_32 : decode cX11_hears 32 = .ok (.getfield 59, 3) := by decide +kernel
theorem dX11_hears_35 : decode cX11_hears 35 = .ok (.getfield 226, 3) := by decide +kernel
theorem dX11_hears_38 : decode cX11_hears 38 = .ok (.iload_n 1, 1) := by decide +kernel
theorem dX11_hears_39 : decode cX11_hears 39 = .ok (.iaload, 1) := by decide +kernel
theorem dX11_hears_40 : decode cX11_hears 40 = .ok (.ireturn, 1) := by decide +kernel
theorem dX11_tells_0 : decode cX11_tells 0 = .ok (.aload_n 0, 1) := by decide +kernel
theorem dX11_tells_1 : decode cX11_tells 1 = .ok (.getfield 10, 3) := by decide +kernel
theorem dX11_tells_4 : decode cX11_tells 4 = .ok (.iload_n 1, 1) := by decide +kernel
theorem dX11_tells_5 : decode cX11_tells 5 = .ok (.invokevirtual 106, 3) := by decide +kernel
theorem dX11_tells_8 : decode cX11_tells 8 = .ok (.ifCond .ne 6, 3) := by decide +kernel
theorem dX11_tells_11 : decode cX11_tells 11 = .ok (.bipush (-2), 2) := by decide +kernel
theorem dX11_tells_13 : decode cX11_tells 13 = .ok (.ireturn, 1) := by decide +kernel
theorem dX11_tells_14 : decode cX11_tells 14 = .ok (.iload_n 2, 1) := by decide +kernel
theorem dX11_tells_15 : decode cX11_tells 15 = .ok (.bipush 21, 2) := by decide +kernel
theorem dX11_tells_17 : decode cX11_tells 17 = .ok (.invokestatic 88, 3) := by decide +kernel
theorem dX11_tells_20 : decode cX11_tells 20 = .ok (.ifCond .ne 6, 3) := by decide +kernel
theorem dX11_tells_23 : decode cX11_tells 23 = .ok (.bipush (-3), 2) := by decide +kernel
theorem dX11_tells_25 : decode cX11_tells 25 = .ok (.ireturn, 1) := by decide +kernel
theorem dX11_tells_26 : decode cX11_tells 26 = .ok (.aload_n 0, 1) := by decide +kernel
theorem dX11_tells_27 : decode cX11_tells 27 = .ok (.iload_n 2, 1) := by decide +kernel
theorem dX11_tells_28 : decode cX11_tells 28 = .ok (.invokevirtual 222, 3) := by decide +kernel
theorem dX11_tells_31 : decode cX11_tells 31 = .ok (.aload_n 0, 1) := by decide +kernel
theorem dX11_tells_32 : decode cX11_tells 32 = .ok (.getfield 59, 3) := by decide +kernel
theorem dX11_tells_35 : decode cX11_tells 35 = .ok (.iload_n 1, 1) := by decide +kernel
theorem dX11_tells_36 : decode cX11_tells 36 = .ok (.invokevirtual 229, 3) := by decide +kernel
theorem dX11_tells_39 : decode cX11_tells 39 = .ok (.ireturn, 1) := by decide +kernel
theorem dX11_ends_0 : decode cX11_ends 0 = .ok (.aload_n 0, 1) := by decide +kernel
theorem dX11_ends_1 : decode cX11_ends 1 = .ok (.iconst 0, 1) := by decide +kernel
theorem dX11_ends_2 : decode cX11_ends 2 = .ok (.invokevirtual 222, 3) := by decide +kernel
theorem dX11_ends_5 : decode cX11_ends 5 = .ok (.iconst 0, 1) := by decide +kernel
theorem dX11_ends_6 : decode cX11_ends 6 = .ok (.istore_n 1, 1) := by decide +kernel
theorem dX11_ends_7 : decode cX11_ends 7 = .ok (.iload_n 1, 1) := by decide +kernel
theorem dX11_ends_8 : decode cX11_ends 8 = .ok (.bipush 20, 2) := by decide +kernel
theorem dX11_ends_10 : decode cX11_ends 10 = .ok (.if_icmp .gt 28, 3) := by decide +kernel
theorem dX11_ends_13 : decode cX11_ends 13 = .ok (.aload_n 0, 1) := by decide +kernel
theorem dX11_ends_14 : decode cX11_ends 14 = .ok (.getfield 59, 3) := by decide +kernel
theorem dX11_ends_17 : decode cX11_ends 17 = .ok (.aload_n 0, 1) := by decide +kernel
theorem dX11_ends_18 : decode cX11_ends 18 = .ok (.getfield 10, 3) := by decide +kernel
theorem dX11_ends_21 : decode cX11_ends 21 = .ok (.getfield 95, 3) := by decide +kernel
theorem dX11_ends_24 : decode cX11_ends 24 = .ok (.invokevirtual 232, 3) := by decide +kernel
theorem dX11_ends_27 : decode cX11_ends 27 = .ok (.ifCond .ne 5, 3) := by decide +kernel
theorem dX11_ends_30 : decode cX11_ends 30 = .ok (.iload_n 1, 1) := by decide +kernel
theorem dX11_ends_31 : decode cX11_ends 31 = .ok (.ireturn, 1) := by decide +kernel
theorem dX11_ends_32 : decode cX11_ends 32 = .ok (.iinc 1 1, 3) := by decide +kernel
theorem dX11_ends_35 : decode cX11_ends 35 = .ok (.goto (-28), 3) := by decide +kernel
theorem dX11_ends_38 : decode cX11_ends 38 = .ok (.iconst (-1), 1) := by decide +kernel
theorem dX11_ends_39 : decode cX11_ends 39 = .ok (.ireturn, 1) := by decide +kernel
theorem dX11_think_0 : decode cX11_think 0 = .ok (.aload_n 0, 1) := by decide +kernel
theorem dX11_think_1 : decode cX11_think 1 = .ok (.getfield 59, 3) := by decide +kernel
theorem dX11_think_4 : decode cX11_think 4 = .ok (.invokevirtual 235, 3) := by decide +kernel
theorem dX11_think_7 : decode cX11_think 7 = .ok (.iconst 0, 1) := by decide +kernel
theorem dX11_think_8 : decode cX11_think 8 = .ok (.istore_n 2, 1) := by decide +kernel
theorem dX11_think_9 : decode cX11_think 9 = .ok (.iload_n 2, 1) := by decide +kernel
theorem dX11_think_10 : decode cX11_think 10 = .ok (.aload_n 0, 1) := by decide +kernel
theorem dX11_think_11 : decode cX11_think 11 = .ok (.getfield 142, 3) := by decide +kernel
theorem dX11_think_14 : decode cX11_think 14 = .ok (.if_icmp .ge 48, 3) := by decide +kernel
theorem dX11_think_17 : decode cX11_think 17 = .ok (.iload_n 2, 1) := by decide +kernel
theorem dX11_think_18 : decode cX11_think 18 = .ok (.bipush 8, 2) := by decide +kernel
theorem dX11_think_20 : decode cX11_think 20 = .ok (.if_icmp .ge 42, 3) := by decide +kernel
theorem dX11_think_23 : decode cX11_think 23 = .ok (.aload_n 0, 1) := by decide +kernel
theorem dX11_think_24 : decode cX11_think 24 = .ok (.getfield 59, 3) := by decide +kernel
theorem dX11_think_27 : decode cX11_think 27 = .ok (.aload_n 0, 1) := by decide +kernel
theorem dX11_think_28 : decode cX11_think 28 = .ok (.getfield 31, 3) := by decide +kernel
theorem dX11_think_31 : decode cX11_think 31 = .ok (.iload_n 2, 1) := by decide +kernel
theorem dX11_think_32 : decode cX11_think 32 = .ok (.aaload, 1) := by decide +kernel
theorem dX11_think_33 : decode cX11_think 33 = .ok (.aload_n 0, 1) := by decide +kernel
theorem dX11_think_34 : decode cX11_think 34 = .ok (.getfield 10, 3) := by decide +kernel
theorem dX11_think_37 : decode cX11_think 37 = .ok (.invokevirtual 149, 3) := by decide +kernel
theorem dX11_think_40 : decode cX11_think 40 = .ok (.aload_n 0, 1) := by decide +kernel
theorem dX11_think_41 : decode cX11_think 41 = .ok (.getfield 31, 3) := by decide +kernel
theorem dX11_think_44 : decode cX11_think 44 = .ok (.iload_n 2, 1) := by decide +kernel
theorem dX11_think_45 : decode cX11_think 45 = .ok (.aaload, 1) := by decide +kernel
theorem dX11_think_46 : decode cX11_think 46 = .ok (.aload_n 0, 1) := by decide +kernel
theorem dX11_think_47 : decode cX11_think 47 = .ok (.getfield 18, 3) := by decide +kernel
theorem dX11_think_50 : decode cX11_think 50 = .ok (.invokevirtual 153, 3) := by decide +kernel
theorem dX11_think_53 : decode cX11_think 53 = .ok (.invokevirtual 238, 3) := by decide +kernel
theorem dX11_think_56 : decode cX11_think 56 = .ok (.iinc 2 1, 3) := by decide +kernel
theorem dX11_think_59 : decode cX11_think 59 = .ok (.goto (-50), 3) := by decide +kernel
theorem dX11_think_62 : decode cX11_think 62 = .ok (.iconst 0, 1) := by decide +kernel
theorem dX11_think_63 : decode cX11_think 63 = .ok (.istore_n 2, 1) := by decide +kernel
theorem dX11_think_64 : decode cX11_think 64 = .ok (.iload_n 2, 1) := by decide +kernel
theorem dX11_think_65 : decode cX11_think 65 = .ok (.iload_n 1, 1) := by decide +kernel
theorem dX11_think_66 : decode cX11_think 66 = .ok (.if_icmp .ge 24, 3) := by decide +kernel
theorem dX11_think_69 : decode cX11_think 69 = .ok (.aload_n 0, 1) := by decide +kernel
theorem dX11_think_70 : decode cX11_think 70 = .ok (.getfield 59, 3) := by decide +kernel
theorem dX11_think_73 : decode cX11_think 73 = .ok (.aload_n 0, 1) := by decide +kernel
theorem dX11_think_74 : decode cX11_think 74 = .ok (.getfield 10, 3) := by decide +kernel
theorem dX11_think_77 : decode cX11_think 77 = .ok (.getfield 95, 3) := by decide +kernel
theorem dX11_think_80 : decode cX11_think 80 = .ok (.invokevirtual 232, 3) := by decide +kernel
theorem dX11_think_83 : decode cX11_think 83 = .ok (.pop, 1) := by decide +kernel
theorem dX11_think_84 : decode cX11_think 84 = .ok (.iinc 2 1, 3) := by decide +kernel
theorem dX11_think_87 : decode cX11_think 87 = .ok (.goto (-23), 3) := by decide +kernel
theorem dX11_think_90 : decode cX11_think 90 = .ok (.return_, 1) := by decide +kernel
theorem dX11_wrong_0 : decode cX11_wrong 0 = .ok (.iload_n 1, 1) := by decide +kernel
theorem dX11_wrong_1 : decode cX11_wrong 1 = .ok (.iconst 3, 1) := by decide +kernel
theorem dX11_wrong_2 : decode cX11_wrong 2 = .ok (.invokestatic 88, 3) := by decide +kernel
theorem dX11_wrong_5 : decode cX11_wrong 5 = .ok (.ifCond .ne 6, 3) := by decide +kernel
theorem dX11_wrong_8 : decode cX11_wrong 8 = .ok (.bipush (-3), 2) := by decide +kernel
theorem dX11_wrong_10 : decode cX11_wrong 10 = .ok (.ireturn, 1) := by decide +kernel
theorem dX11_wrong_11 : decode cX11_wrong 11 = .ok (.aload_n 0, 1) := by decide +kernel
theorem dX11_wrong_12 : decode cX11_wrong 12 = .ok (.getfield 25, 3) := by decide +kernel
theorem dX11_wrong_15 : decode cX11_wrong 15 = .ok (.invokevirtual 131, 3) := by decide +kernel
theorem dX11_wrong_18 : decode cX11_wrong 18 = .ok (.iconst (-1), 1) := by decide +kernel
theorem dX11_wrong_19 : decode cX11_wrong 19 = .ok (.if_icmp .eq 6, 3) := by decide +kernel
theorem dX11_wrong_22 : decode cX11_wrong 22 = .ok (.bipush (-4), 2) := by decide +kernel
theorem dX11_wrong_24 : decode cX11_wrong 24 = .ok (.ireturn, 1) := by decide +kernel
theorem dX11_wrong_25 : decode cX11_wrong 25 = .ok (.aload_n 0, 1) := by decide +kernel
theorem dX11_wrong_26 : decode cX11_wrong 26 = .ok (.getfield 66, 3) := by decide +kernel
theorem dX11_wrong_29 : decode cX11_wrong 29 = .ok (.aload_n 0, 1) := by decide +kernel
theorem dX11_wrong_30 : decode cX11_wrong 30 = .ok (.getfield 10, 3) := by decide +kernel
theorem dX11_wrong_33 : decode cX11_wrong 33 = .ok (.aload_n 0, 1) := by decide +kernel
theorem dX11_wrong_34 : decode cX11_wrong 34 = .ok (.getfield 25, 3) := by decide +kernel
theorem dX11_wrong_37 : decode cX11_wrong 37 = .ok (.getfield 134, 3) := by decide +kernel
theorem dX11_wrong_40 : decode cX11_wrong 40 = .ok (.invokevirtual 241, 3) := by decide +kernel
theorem dX11_wrong_43 : decode cX11_wrong 43 = .ok (.iload_n 1, 1) := by decide +kernel
theorem dX11_wrong_44 : decode cX11_wrong 44 = .ok (.iconst 2, 1) := by decide +kernel
theorem dX11_wrong_45 : decode cX11_wrong 45 = .ok (.if_icmp .ne 11, 3) := by decide +kernel
theorem dX11_wrong_48 : decode cX11_wrong 48 = .ok (.aload_n 0, 1) := by decide +kernel
theorem dX11_wrong_49 : decode cX11_wrong 49 = .ok (.getfield 66, 3) := by decide +kernel
theorem dX11_wrong_52 : decode cX11_wrong 52 = .ok (.getfield 245, 3) := by decide +kernel
theorem dX11_wrong_55 : decode cX11_wrong 55 = .ok (.ireturn, 1) := by decide +kernel
theorem dX11_wrong_56 : decode cX11_wrong 56 = .ok (.aload_n 0, 1) := by decide +kernel
theorem dX11_wrong_57 : decode cX11_wrong 57 = .ok (.getfield 66, 3) := by decide +kernel
theorem dX11_wrong_60 : decode cX11_wrong 60 = .ok (.getfield 245, 3) := by decide +kernel
theorem dX11_wrong_63 : decode cX11_wrong 63 = .ok (.ifCond .ne 5, 3) := by decide +kernel
theorem dX11_wrong_66 : decode cX11_wrong 66 = .ok (.iconst (-1), 1) := by decide +kernel
theorem dX11_wrong_67 : decode cX11_wrong 67 = .ok (.ireturn, 1) := by decide +kernel
theorem dX11_wrong_68 : decode cX11_wrong 68 = .ok (.iload_n 1, 1) := by decide +kernel
theorem dX11_wrong_69 : decode cX11_wrong 69 = .ok (.ifCond .ne 13, 3) := by decide +kernel
theorem dX11_wrong_72 : decode cX11_wrong 72 = .ok (.aload_n 0, 1) := by decide +kernel
theorem dX11_wrong_73 : decode cX11_wrong 73 = .ok (.getfield 66, 3) := by decide +kernel
theorem dX11_wrong_76 : decode cX11_wrong 76 = .ok (.getfield 248, 3) := by decide +kernel
theorem dX11_wrong_79 : decode cX11_wrong 79 = .ok (.goto 18, 3) := by decide +kernel
theorem dX11_wrong_82 : decode cX11_wrong 82 = .ok (.aload_n 0, 1) := by decide +kernel
theorem dX11_wrong_83 : decode cX11_wrong 83 = .ok (.getfield 66, 3) := by decide +kernel
theorem dX11_wrong_86 : decode cX11_wrong 86 = .ok (.getfield 251, 3) := by decide +kernel
theorem dX11_wrong_89 : decode cX11_wrong 89 = .ok (.aload_n 0, 1) := by decide +kernel
theorem dX11_wrong_90 : decode cX11_wrong 90 = .ok (.getfield 66, 3) := by decide +kernel
theorem dX11_wrong_93 : decode cX11_wrong 93 = .ok (.getfield 248, 3) := by decide +kernel
theorem dX11_wrong_96 : decode cX11_wrong 96 = .ok (.iaload, 1) := by decide +kernel
theorem dX11_wrong_97 : decode cX11_wrong 97 = .ok (.ireturn, 1) := by decide +kernel
theorem dX11_name_0 : decode cX11_name 0 = .ok (.aload_n 0, 1) := by decide +kernel
theorem dX11_name_1 : decode cX11_name 1 = .ok (.getfield 10, 3) := by decide +kernel
theorem dX11_name_4 : decode cX11_name 4 = .ok (.iload_n 1, 1) := by decide +kernel
theorem dX11_name_5 : decode cX11_name 5 = .ok (.invokevirtual 106, 3) := by decide +kernel
theorem dX11_name_8 : decode cX11_name 8 = .ok (.ifCond .ne 6, 3) := by decide +kernel
theorem dX11_name_11 : decode cX11_name 11 = .ok (.bipush (-2), 2) := by decide +kernel
theorem dX11_name_13 : decode cX11_name 13 = .ok (.ireturn, 1) := by decide +kernel
theorem dX11_name_14 : decode cX11_name 14 = .ok (.aload_n 0, 1) := by decide +kernel
theorem dX11_name_15 : decode cX11_name 15 = .ok (.getfield 73, 3) := by decide +kernel
theorem dX11_name_18 : decode cX11_name 18 = .ok (.getfield 254, 3) := by decide +kernel
theorem dX11_name_21 : decode cX11_name 21 = .ok (.bipush 12, 2) := by decide +kernel
theorem dX11_name_23 : decode cX11_name 23 = .ok (.if_icmp .ge 14, 3) := by decide +kernel
theorem dX11_name_26 : decode cX11_name 26 = .ok (.aload_n 0, 1) := by decide +kernel
theorem dX11_name_27 : decode cX11_name 27 = .ok (.getfield 73, 3) := by decide +kernel
theorem dX11_name_30 : decode cX11_name 30 = .ok (.iload_n 1, 1) := by decide +kernel
theorem dX11_name_31 : decode cX11_name 31 = .ok (.invokevirtual 255, 3) := by decide +kernel
theorem dX11_name_34 : decode cX11_name 34 = .ok (.goto 5, 3) := by decide +kernel
theorem dX11_name_37 : decode cX11_name 37 = .ok (.bipush (-5), 2) := by decide +kernel
theorem dX11_name_39 : decode cX11_name 39 = .ok (.ireturn, 1) := by decide +kernel
theorem dX11_hush_0 : decode cX11_hush 0 = .ok (.aload_n 0, 1) := by decide +kernel
theorem dX11_hush_1 : decode cX11_hush 1 = .ok (.getfield 73, 3) := by decide +kernel
theorem dX11_hush_4 : decode cX11_hush 4 = .ok (.getfield 254, 3) := by decide +kernel
theorem dX11_hush_7 : decode cX11_hush 7 = .ok (.istore_n 1, 1) := by decide +kernel
theorem dX11_hush_8 : decode cX11_hush 8 = .ok (.aload_n 0, 1) := by decide +kernel
theorem dX11_hush_9 : decode cX11_hush 9 = .ok (.getfield 73, 3) := by decide +kernel
theorem dX11_hush_12 : decode cX11_hush 12 = .ok (.iconst 0, 1) := by decide +kernel
theorem dX11_hush_13 : decode cX11_hush 13 = .ok (.putfield 254, 3) := by decide +kernel
theorem dX11_hush_16 : decode cX11_hush 16 = .ok (.iload_n 1, 1) := by decide +kernel
theorem dX11_hush_17 : decode cX11_hush 17 = .ok (.ireturn, 1) := by decide +kernel
theorem dX11_talk_0 : decode cX11_talk 0 = .ok (.iload_n 1, 1) := by decide +kernel
theorem dX11_talk_1 : decode cX11_talk 1 = .ok (.invokestatic 163, 3) := by decide +kernel
theorem dX11_talk_4 : decode cX11_talk 4 = .ok (.ifCond .eq 18, 3) := by decide +kernel
theorem dX11_talk_7 : decode cX11_talk 7 = .ok (.aload_n 0, 1) := by decide +kernel
theorem dX11_talk_8 : decode cX11_talk 8 = .ok (.getfield 73, 3) := by decide +kernel
theorem dX11_talk_11 : decode cX11_talk 11 = .ok (.aload_n 0, 1) := by decide +kernel
theorem dX11_talk_12 : decode cX11_talk 12 = .ok (.iload_n 1, 1) := by decide +kernel
theorem dX11_talk_13 : decode cX11_talk 13 = .ok (.invokevirtual 166, 3) := by decide +kernel
theorem dX11_talk_16 : decode cX11_talk 16 = .ok (.invokevirtual 257, 3) := by decide +kernel
theorem dX11_talk_19 : decode cX11_talk 19 = .ok (.goto 5, 3) := by decide +kernel
theorem dX11_talk_22 : decode cX11_talk 22 = .ok (.bipush (-3), 2) := by decide +kernel
theorem dX11_talk_24 : decode cX11_talk 24 = .ok (.ireturn, 1) := by decide +kernel
theorem dX11_worth_0 : decode cX11_worth 0 = .ok (.iload_n 1, 1) := by decide +kernel
theorem dX11_worth_1 : decode cX11_worth 1 = .ok (.invokestatic 163, 3) := by decide +kernel
theorem dX11_worth_4 : decode cX11_worth 4 = .ok (.ifCond .eq 11, 3) := by decide +kernel
theorem dX11_worth_7 : decode cX11_worth 7 = .ok (.iload_n 2, 1) := by decide +kernel
theorem dX11_worth_8 : decode cX11_worth 8 = .ok (.iconst 3, 1) := by decide +kernel
theorem dX11_worth_9 : decode cX11_worth 9 = .ok (.invokestatic 88, 3) := by decide +kernel
theorem dX11_worth_12 : decode cX11_worth 12 = .ok (.ifCond .ne 6, 3) := by decide +kernel
theorem dX11_worth_15 : decode cX11_worth 15 = .ok (.bipush (-3), 2) := by decide +kernel
theorem dX11_worth_17 : decode cX11_worth 17 = .ok (.ireturn, 1) := by decide +kernel
theorem dX11_worth_18 : decode cX11_worth 18 = .ok (.iload_n 2, 1) := by decide +kernel
theorem dX11_worth_19 : decode cX11_worth 19 = .ok (.ifCond .ne 19, 3) := by decide +kernel
theorem dX11_worth_22 : decode cX11_worth 22 = .ok (.aload_n 0, 1) := by decide +kernel
theorem dX11_worth_23 : decode cX11_worth 23 = .ok (.iload_n 1, 1) := by decide +kernel
theorem dX11_worth_24 : decode cX11_worth 24 = .ok (.invokevirtual 166, 3) := by decide +kernel
theorem dX11_worth_27 : decode cX11_worth 27 = .ok (.aload_n 0, 1) := by decide +kernel
theorem dX11_worth_28 : decode cX11_worth 28 = .ok (.getfield 10, 3) := by decide +kernel
theorem dX11_worth_31 : decode cX11_worth 31 = .ok (.getfield 95, 3) := by decide +kernel
theorem dX11_worth_34 : decode cX11_worth 34 = .ok (.invokevirtual 260, 3) := by decide +kernel
theorem dX11_worth_37 : decode cX11_worth 37 = .ok (.ireturn, 1) := by decide +kernel
theorem dX11_worth_38 : decode cX11_worth 38 = .ok (.aload_n 0, 1) := by decide +kernel
theorem dX11_worth_39 : decode cX11_worth 39 = .ok (.getfield 45, 3) := by decide +kernel
theorem dX11_worth_42 : decode cX11_worth 42 = .ok (.getfield 263, 3) := by decide +kernel
theorem dX11_worth_45 : decode cX11_worth 45 = .ok (.aload_n 0, 1) := by decide +kernel
theorem dX11_worth_46 : decode cX11_worth 46 = .ok (.getfield 99, 3) := by decide +kernel
theorem dX11_worth_49 : decode cX11_worth 49 = .ok (.if_icmp .ne 14, 3) := by decide +kernel
theorem dX11_worth_52 : decode cX11_worth 52 = .ok (.aload_n 0, 1) := by decide +kernel
theorem dX11_worth_53 : decode cX11_worth 53 = .ok (.getfield 45, 3) := by decide +kernel
theorem dX11_worth_56 : decode cX11_worth 56 = .ok (.getfield 264, 3) := by decide +kernel
theorem dX11_worth_59 : decode cX11_worth 59 = .ok (.iload_n 1, 1) := by decide +kernel
theorem dX11_worth_60 : decode cX11_worth 60 = .ok (.if_icmp .eq 30, 3) := by decide +kernel
theorem dX11_worth_63 : decode cX11_worth 63 = .ok (.aload_n 0, 1) := by decide +kernel
theorem dX11_worth_64 : decode cX11_worth 64 = .ok (.getfield 45, 3) := by decide +kernel
theorem dX11_worth_67 : decode cX11_worth 67 = .ok (.aload_n 0, 1) := by decide +kernel
theorem dX11_worth_68 : decode cX11_worth 68 = .ok (.getfield 10, 3) := by decide +kernel
theorem dX11_worth_71 : decode cX11_worth 71 = .ok (.aload_n 0, 1) := by decide +kernel
theorem dX11_worth_72 : decode cX11_worth 72 = .ok (.getfield 18, 3) := by decide +kernel
theorem dX11_worth_75 : decode cX11_worth 75 = .ok (.iload_n 1, 1) := by decide +kernel
theorem dX11_worth_76 : decode cX11_worth 76 = .ok (.invokevirtual 265, 3) := by decide +kernel
theorem dX11_worth_79 : decode cX11_worth 79 = .ok (.aload_n 0, 1) := by decide +kernel
theorem dX11_worth_80 : decode cX11_worth 80 = .ok (.getfield 45, 3) := by decide +kernel
theorem dX11_worth_83 : decode cX11_worth 83 = .ok (.aload_n 0, 1) := by decide +kernel
theorem dX11_worth_84 : decode cX11_worth 84 = .ok (.getfield 99, 3) := by decide +kernel
theorem dX11_worth_87 : decode cX11_worth 87 = .ok (.putfield 263, 3) := by decide +kernel
theorem dX11_worth_90 : decode cX11_worth 90 = .ok (.iload_n 2, 1) := by decide +kernel
theorem dX11_worth_91 : decode cX11_worth 91 = .ok (.iconst 1, 1) := by decide +kernel
theorem dX11_worth_92 : decode cX11_worth 92 = .ok (.if_icmp .ne 13, 3) := by decide +kernel
theorem dX11_worth_95 : decode cX11_worth 95 = .ok (.aload_n 0, 1) := by decide +kernel
theorem dX11_worth_96 : decode cX11_worth 96 = .ok (.getfield 45, 3) := by decide +kernel
theorem dX11_worth_99 : decode cX11_worth 99 = .ok (.getfield 268, 3) := by decide +kernel
theorem dX11_worth_102 : decode cX11_worth 102 = .ok (.goto 10, 3) := by decide +kernel
theorem dX11_worth_105 : decode cX11_worth 105 = .ok (.aload_n 0, 1) := by decide +kernel
theorem dX11_worth_106 : decode cX11_worth 106 = .ok (.getfield 45, 3) := by decide +kernel
theorem dX11_worth_109 : decode cX11_worth 109 = .ok (.getfield 271, 3) := by decide +kernel
theorem dX11_worth_112 : decode cX11_worth 112 = .ok (.ireturn, 1) := by decide +kernel
theorem dX11_count_0 : decode cX11_count 0 = .ok (.iload_n 1, 1) := by decide +kernel
theorem dX11_count_1 : decode cX11_count 1 = .ok (.tableswitch 72 0 4 #[35, 43, 51, 59, 64], 35) := by decide +kernel
theorem dX11_count_36 : decode cX11_count 36 = .ok (.aload_n 0, 1) := by decide +kernel
theorem dX11_count_37 : decode cX11_count 37 = .ok (.getfield 10, 3) := by decide +kernel
theorem dX11_count_40 : decode cX11_count 40 = .ok (.getfield 95, 3) := by decide +kernel
theorem dX11_count_43 : decode cX11_count 43 = .ok (.ireturn, 1) := by decide +kernel
theorem dX11_count_44 : decode cX11_count 44 = .ok (.aload_n 0, 1) := by decide +kernel
theorem dX11_count_45 : decode cX11_count 45 = .ok (.getfield 10, 3) := by decide +kernel
theorem dX11_count_48 : decode cX11_count 48 = .ok (.getfield 274, 3) := by decide +kernel
theorem dX11_count_51 : decode cX11_count 51 = .ok (.ireturn, 1) := by decide +kernel
theorem dX11_count_52 : decode cX11_count 52 = .ok (.aload_n 0, 1) := by decide +kernel
theorem dX11_count_53 : decode cX11_count 53 = .ok (.getfield 25, 3) := by decide +kernel
theorem dX11_count_56 : decode cX11_count 56 = .ok (.getfield 277, 3) := by decide +kernel
theorem dX11_count_59 : decode cX11_count 59 = .ok (.ireturn, 1) := by decide +kernel
theorem dX11_count_60 : decode cX11_count 60 = .ok (.aload_n 0, 1) := by decide +kernel
theorem dX11_count_61 : decode cX11_count 61 = .ok (.getfield 142, 3) := by decide +kernel
theorem dX11_count_64 : decode cX11_count 64 = .ok (.ireturn, 1) := by decide +kernel
theorem dX11_count_65 : decode cX11_count 65 = .ok (.aload_n 0, 1) := by decide +kernel
theorem dX11_count_66 : decode cX11_count 66 = .ok (.getfield 73, 3) := by decide +kernel
theorem dX11_count_69 : decode cX11_count 69 = .ok (.getfield 254, 3) := by decide +kernel
theorem dX11_count_72 : decode cX11_count 72 = .ok (.ireturn, 1) := by decide +kernel
theorem dX11_count_73 : decode cX11_count 73 = .ok (.bipush (-3), 2) := by decide +kernel
theorem dX11_count_75 : decode cX11_count 75 = .ok (.ireturn, 1) := by decide +kernel
theorem dX11_isWithin_0 : decode cX11_isWithin 0 = .ok (.iload_n 0, 1) := by decide +kernel
theorem dX11_isWithin_1 : decode cX11_isWithin 1 = .ok (.ifCond .lt 12, 3) := by decide +kernel
theorem dX11_isWithin_4 : decode cX11_isWithin 4 = .ok (.iload_n 0, 1) := by decide +kernel
theorem dX11_isWithin_5 : decode cX11_isWithin 5 = .ok (.iload_n 1, 1) := by decide +kernel
theorem dX11_isWithin_6 : decode cX11_isWithin 6 = .ok (.if_icmp .ge 7, 3) := by decide +kernel
theorem dX11_isWithin_9 : decode cX11_isWithin 9 = .ok (.iconst 1, 1) := by decide +kernel
theorem dX11_isWithin_10 : decode cX11_isWithin 10 = .ok (.goto 4, 3) := by decide +kernel
theorem dX11_isWithin_13 : decode cX11_isWithin 13 = .ok (.iconst 0, 1) := by decide +kernel
theorem dX11_isWithin_14 : decode cX11_isWithin 14 = .ok (.ireturn, 1) := by decide +kernel
theorem dX12_init_0 : decode cX12_init 0 = .ok (.aload_n 0, 1) := by decide +kernel
theorem dX12_init_1 : decode cX12_init 1 = .ok (.invokespecial 1, 3) := by decide +kernel
theorem dX12_init_4 : decode cX12_init 4 = .ok (.aload_n 0, 1) := by decide +kernel
theorem dX12_init_5 : decode cX12_init 5 = .ok (.bipush 8, 2) := by decide +kernel
theorem dX12_init_7 : decode cX12_init 7 = .ok (.newarray .int, 2) := by decide +kernel
theorem dX12_init_9 : decode cX12_init 9 = .ok (.putfield 7, 3) := by decide +kernel
theorem dX12_init_12 : decode cX12_init 12 = .ok (.aload_n 0, 1) := by decide +kernel
theorem dX12_init_13 : decode cX12_init 13 = .ok (.bipush 8, 2) := by decide +kernel
theorem dX12_init_15 : decode cX12_init 15 = .ok (.newarray .int, 2) := by decide +kernel
theorem dX12_init_17 : decode cX12_init 17 = .ok (.putfield 13, 3) := by decide +kernel
theorem dX12_init_20 : decode cX12_init 20 = .ok (.aload_n 0, 1) := by decide +kernel
theorem dX12_init_21 : decode cX12_init 21 = .ok (.bipush 8, 2) := by decide +kernel
theorem dX12_init_23 : decode cX12_init 23 = .ok (.newarray .int, 2) := by decide +kernel
theorem dX12_init_25 : decode cX12_init 25 = .ok (.putfield 16, 3) := by decide +kernel
theorem dX12_init_28 : decode cX12_init 28 = .ok (.aload_n 0, 1) := by decide +kernel
theorem dX12_init_29 : decode cX12_init 29 = .ok (.bipush 8, 2) := by decide +kernel
theorem dX12_init_31 : decode cX12_init 31 = .ok (.newarray .int, 2) := by decide +kernel
theorem dX12_init_33 : decode cX12_init 33 = .ok (.putfield 19, 3) := by decide +kernel
theorem dX12_init_36 : decode cX12_init 36 = .ok (.aload_n 0, 1) := by decide +kernel
theorem dX12_init_37 : decode cX12_init 37 = .ok (.bipush 8, 2) := by decide +kernel
theorem dX12_init_39 : decode cX12_init 39 = .ok (.newarray .int, 2) := by decide +kernel
theorem dX12_init_41 : decode cX12_init 41 = .ok (.putfield 22, 3) := by decide +kernel
theorem dX12_init_44 : decode cX12_init 44 = .ok (.aload_n 0, 1) := by decide +kernel
theorem dX12_init_45 : decode cX12_init 45 = .ok (.bipush 8, 2) := by decide +kernel
theorem dX12_init_47 : decode cX12_init 47 = .ok (.newarray .int, 2) := by decide +kernel
theorem dX12_init_49 : decode cX12_init 49 = .ok (.putfield 25, 3) := by decide +kernel
theorem dX12_init_52 : decode cX12_init 52 = .ok (.aload_n 0, 1) := by decide +kernel
theorem dX12_init_53 : decode cX12_init 53 = .ok (.bipush 15, 2) := by decide +kernel
theorem dX12_init_55 : decode cX12_init 55 = .ok (.newarray .int, 2) := by decide +kernel
theorem dX12_init_57 : decode cX12_init 57 = .ok (.putfield 28, 3) := by decide +kernel
theorem dX12_init_60 : decode cX12_init 60 = .ok (.aload_n 0, 1) := by decide +kernel
theorem dX12_init_61 : decode cX12_init 61 = .ok (.sipush 160, 3) := by decide +kernel
theorem dX12_init_64 : decode cX12_init 64 = .ok (.newarray .int, 2) := by decide +kernel
theorem dX12_init_66 : decode cX12_init 66 = .ok (.putfield 31, 3) := by decide +kernel
theorem dX12_init_69 : decode cX12_init 69 = .ok (.aload_n 0, 1) := by decide +kernel
theorem dX12_init_70 : decode cX12_init 70 = .ok (.bipush 24, 2) := by decide +kernel
theorem dX12_init_72 : decode cX12_init 72 = .ok (.newarray .int, 2) := by decide +kernel
theorem dX12_init_74 : decode cX12_init 74 = .ok (.putfield 34, 3) := by decide +kernel
theorem dX12_init_77 : decode cX12_init 77 = .ok (.aload_n 0, 1) := by decide +kernel
theorem dX12_init_78 : decode cX12_init 78 = .ok (.bipush 24, 2) := by decide +kernel
theorem dX12_init_80 : decode cX12_init 80 = .ok (.newarray .int, 2) := by decide +kernel
theorem dX12_init_82 : decode cX12_init 82 = .ok (.putfield 37, 3) := by decide +kernel
theorem dX12_init_85 : decode cX12_init 85 = .ok (.aload_n 0, 1) := by decide +kernel
theorem dX12_init_86 : decode cX12_init 86 = .ok (.bipush 26, 2) := by decide +kernel
theorem dX12_init_88 : decode cX12_init 88 = .ok (.newarray .int, 2) := by decide +kernel
theorem dX12_init_90 : decode cX12_init 90 = .ok (.putfield 40, 3) := by decide +kernel
theorem dX12_init_93 : decode cX12_init 93 = .ok (.aload_n 0, 1) := by decide +kernel
theorem dX12_init_94 : decode cX12_init 94 = .ok (.bipush 8, 2) := by decide +kernel
theorem dX12_init_96 : decode cX12_init 96 = .ok (.newarray .int, 2) := by decide +kernel
theorem dX12_init_98 : decode cX12_init 98 = .ok (.putfield 43, 3) := by decide +kernel
theorem dX12_init_101 : decode cX12_init 101 = .ok (.aload_n 0, 1) := by decide +kernel
theorem dX12_init_102 : decode cX12_init 102 = .ok (.sipush 192, 3) := by decide +kernel
theorem dX12_init_105 : decode cX12_init 105 = .ok (.newarray .int, 2) := by decide +kernel
theorem dX12_init_107 : decode cX12_init 107 = .ok (.putfield 46, 3) := by decide +kernel
theorem dX12_init_110 : decode cX12_init 110 = .ok (.aload_n 0, 1) := by decide +kernel
theorem dX12_init_111 : decode cX12_init 111 = .ok (.sipush 192, 3) := by decide +kernel
theorem dX12_init_114 : decode cX12_init 114 = .ok (.newarray .int, 2) := by decide +kernel
theorem dX12_init_116 : decode cX12_init 116 = .ok (.putfield 49, 3) := by decide +kernel
theorem dX12_init_119 : decode cX12_init 119 = .ok (.aload_n 0, 1) := by decide +kernel
theorem dX12_init_120 : decode cX12_init 120 = .ok (.sipush 256, 3) := by decide +kernel
theorem dX12_init_123 : decode cX12_init 123 = .ok (.newarray .int, 2) := by decide +kernel
theorem dX12_init_125 : decode cX12_init 125 = .ok (.putfield 52, 3) := by decide +kernel
theorem dX12_init_128 : decode cX12_init 128 = .ok (.aload_n 0, 1) := by decide +kernel
theorem dX12_init_129 : decode cX12_init 129 = .ok (.sipush 256, 3) := by decide +kernel
theorem dX12_init_132 : decode cX12_init 132 = .ok (.newarray .int, 2) := by decide +kernel
theorem dX12_init_134 : decode cX12_init 134 = .ok (.putfield 55, 3) := by decide +kernel
theorem dX12_init_137 : decode cX12_init 137 = .ok (.aload_n 0, 1) := by decide +kernel
theorem dX12_init_138 : decode cX12_init 138 = .ok (.sipush 256, 3) := by decide +kernel
theorem dX12_init_141 : decode cX12_init 141 = .ok (.newarray .int, 2) := by decide +kernel
theorem dX12_init_143 : decode cX12_init 143 = .ok (.putfield 58, 3) := by decide +kernel
theorem dX12_init_146 : decode cX12_init 146 = .ok (.aload_n 0, 1) := by decide +kernel
theorem dX12_init_147 : decode cX12_init 147 = .ok (.sipush 256, 3) := by decide +kernel
theorem dX12_init_150 : decode cX12_init 150 = .ok (.newarray .int, 2) := by decide +kernel
theorem dX12_init_152 : decode cX12_init 152 = .ok (.putfield 61, 3) := by decide +kernel
theorem dX12_init_155 : decode cX12_init 155 = .ok (.aload_n 0, 1) := by decide +kernel
theorem dX12_init_156 : decode cX12_init 156 = .ok (.sipush 256, 3) := by decide +kernel
theorem dX12_init_159 : decode cX12_init 159 = .ok (.newarray .int, 2) := by decide +kernel
theorem dX12_init_161 : decode cX12_init 161 = .ok (.putfield 64, 3) := by decide +kernel
theorem dX12_init_164 : decode cX12_init 164 = .ok (.aload_n 0, 1) := by decide +kernel
theorem dX12_init_165 : decode cX12_init 165 = .ok (.sipush 256, 3) := by decide +kernel
theorem dX12_init_168 : decode cX12_init 168 = .ok (.newarray .int, 2) := by decide +kernel
theorem dX12_init_170 : decode cX12_init 170 = .ok (.putfield 67, 3) := by decide +kernel
theorem dX12_init_173 : decode cX12_init 173 = .ok (.aload_n 0, 1) := by decide +kernel
theorem dX12_init_174 : decode cX12_init 174 = .ok (.sipush 256, 3) := by decide +kernel
theorem dX12_init_177 : decode cX12_init 177 = .ok (.newarray .boolean, 2) := by decide +kernel
theorem dX12_init_179 : decode cX12_init 179 = .ok (.putfield 70, 3) := by decide +kernel
theorem dX12_init_182 : decode cX12_init 182 = .ok (.aload_n 0, 1) := by decide +kernel
theorem dX12_init_183 : decode cX12_init 183 = .ok (.bipush 8, 2) := by decide +kernel
theorem dX12_init_185 : decode cX12_init 185 = .ok (.newarray .int, 2) := by decide +kernel
theorem dX12_init_187 : decode cX12_init 187 = .ok (.putfield 74, 3) := by decide +kernel
theorem dX12_init_190 : decode cX12_init 190 = .ok (.aload_n 0, 1) := by decide +kernel
theorem dX12_init_191 : decode cX12_init 191 = .ok (.bipush 8, 2) := by decide +kernel
theorem dX12_init_193 : decode cX12_init 193 = .ok (.newarray .int, 2) := by decide +kernel
theorem dX12_init_195 : decode cX12_init 195 = .ok (.putfield 77, 3) := by decide +kernel
theorem dX12_init_198 : decode cX12_init 198 = .ok (.aload_n 0, 1) := by decide +kernel
theorem dX12_init_199 : decode cX12_init 199 = .ok (.bipush 8, 2) := by decide +kernel
theorem dX12_init_201 : decode cX12_init 201 = .ok (.newarray .int, 2) := by decide +kernel
theorem dX12_init_203 : decode cX12_init 203 = .ok (.putfield 80, 3) := by decide +kernel
theorem dX12_init_206 : decode cX12_init 206 = .ok (.aload_n 0, 1) := by decide +kernel
theorem dX12_init_207 : decode cX12_init 207 = .ok (.bipush 8, 2) := by decide +kernel
theorem dX12_init_209 : decode cX12_init 209 = .ok (.newarray .int, 2) := by decide +kernel
theorem dX12_init_211 : decode cX12_init 211 = .ok (.putfield 83, 3) := by decide +kernel
theorem dX12_init_214 : decode cX12_init 214 = .ok (.aload_n 0, 1) := by decide +kernel
theorem dX12_init_215 : decode cX12_init 215 = .ok (.bipush 8, 2) := by decide +kernel
theorem dX12_init_217 : decode cX12_init 217 = .ok (.newarray .int, 2) := by decide +kernel
theorem dX12_init_219 : decode cX12_init 219 = .ok (.putfield 86, 3) := by decide +kernel
theorem dX12_init_222 : decode cX12_init 222 = .ok (.aload_n 0, 1) := by decide +kernel
theorem dX12_init_223 : decode cX12_init 223 = .ok (.bipush 8, 2) := by decide +kernel
theorem dX12_init_225 : decode cX12_init 225 = .ok (.newarray .int, 2) := by decide +kernel
theorem dX12_init_227 : decode cX12_init 227 = .ok (.putfield 89, 3) := by decide +kernel
theorem dX12_init_230 : decode cX12_init 230 = .ok (.aload_n 0, 1) := by decide +kernel
theorem dX12_init_231 : decode cX12_init 231 = .ok (.sipush 256, 3) := by decide +kernel
theorem dX12_init_234 : decode cX12_init 234 = .ok (.newarray .int, 2) := by decide +kernel
theorem dX12_init_236 : decode cX12_init 236 = .ok (.putfield 92, 3) := by decide +kernel
theorem dX12_init_239 : decode cX12_init 239 = .ok (.aload_n 0, 1) := by decide +kernel
theorem dX12_init_240 : decode cX12_init 240 = .ok (.bipush 12, 2) := by decide +kernel
theorem dX12_init_242 : decode cX12_init 242 = .ok (.newarray .int, 2) := by decide +kernel
theorem dX12_init_244 : decode cX12_init 244 = .ok (.putfield 95, 3) := by decide +kernel
theorem dX12_init_247 : decode cX12_init 247 = .ok (.iconst 0, 1) := by decide +kernel
theorem dX12_init_248 : decode cX12_init 248 = .ok (.istore_n 1, 1) := by decide +kernel
theorem dX12_init_249 : decode cX12_init 249 = .ok (.iload_n 1, 1) := by decide +kernel
theorem dX12_init_250 : decode cX12_init 250 = .ok (.bipush 15, 2) := by decide +kernel
theorem dX12_init_252 : decode cX12_init 252 = .ok (.if_icmp .ge 16, 3) := by decide +kernel
theorem dX12_init_255 : decode cX12_init 255 = .ok (.aload_n 0, 1) := by decide +kernel
theorem dX12_init_256 : decode cX12_init 256 = .ok (.getfield 28, 3) := by decide +kernel
theorem dX12_init_259 : decode cX12_init 259 = .ok (.iload_n 1, 1) := by decide +kernel
theorem dX12_init_260 : decode cX12_init 260 = .ok (.iconst 1, 1) := by decide +kernel
theorem dX12_init_261 : decode cX12_init 261 = .ok (.iastore, 1) := by decide +kernel
theorem dX12_init_262 : decode cX12_init 262 = .ok (.iinc 1 1, 3) := by decide +kernel
theorem dX12_init_265 : decode cX12_init 265 = .ok (.goto (-16), 3) := by decide +kernel
theorem dX12_init_268 : decode cX12_init 268 = .ok (.return_, 1) := by decide +kernel
theorem dX12_in_0 : decode cX12_in 0 = .ok (.iload_n 0, 1) := by decide +kernel
theorem dX12_in_1 : decode cX12_in 1 = .ok (.iload_n 1, 1) := by decide +kernel
theorem dX12_in_2 : decode cX12_in 2 = .ok (.if_icmp .lt 12, 3) := by decide +kernel
theorem dX12_in_5 : decode cX12_in 5 = .ok (.iload_n 0, 1) := by decide +kernel
theorem dX12_in_6 : decode cX12_in 6 = .ok (.iload_n 2, 1) := by decide +kernel
theorem dX12_in_7 : decode cX12_in 7 = .ok (.if_icmp .gt 7, 3) := by decide +kernel
theorem dX12_in_10 : decode cX12_in 10 = .ok (.iconst 1, 1) := by decide +kernel
theorem dX12_in_11 : decode cX12_in 11 = .ok (.goto 4, 3) := by decide +kernel
theorem dX12_in_14 : decode cX12_in 14 = .ok (.iconst 0, 1) := by decide +kernel
theorem dX12_in_15 : decode cX12_in 15 = .ok (.ireturn, 1) := by decide +kernel
theorem dX12_isThing_0 : decode cX12_isThing 0 = .ok (.iload_n 1, 1) := by decide +kernel
theorem dX12_isThing_1 : decode cX12_isThing 1 = .ok (.iconst 0, 1) := by decide +kernel
theorem dX12_isThing_2 : decode cX12_isThing 2 = .ok (.aload_n 0, 1) := by decide +kernel
theorem dX12_isThing_3 : decode cX12_isThing 3 = .ok (.getfield 98, 3) := by decide +kernel
theorem dX12_isThing_6 : decode cX12_isThing 6 = .ok (.iconst 1, 1) := by decide +kernel
theorem dX12_isThing_7 : decode cX12_isThing 7 = .ok (.isub, 1) := by decide +kernel
theorem dX12_isThing_8 : decode cX12_isThing 8 = .ok (.invokestatic 102, 3) := by decide +kernel
theorem dX12_isThing_11 : decode cX12_isThing 11 = .ok (.ireturn, 1) := by decide +kernel
theorem dX12_bits_0 : decode cX12_bits 0 = .ok (.iconst 0, 1) := by decide +kernel
theorem dX12_bits_1 : decode cX12_bits 1 = .ok (.istore_n 1, 1) := by decide +kernel
theorem dX12_bits_2 : decode cX12_bits 2 = .ok (.iconst 0, 1) := by decide +kernel
theorem dX12_bits_3 : decode cX12_bits 3 = .ok (.istore_n 2, 1) := by decide +kernel
theorem dX12_bits_4 : decode cX12_bits 4 = .ok (.iload_n 2, 1) := by decide +kernel
theorem dX12_bits_5 : decode cX12_bits 5 = .ok (.bipush 8, 2) := by decide +kernel
theorem dX12_bits_7 : decode cX12_bits 7 = .ok (.if_icmp .ge 17, 3) := by decide +kernel
theorem dX12_bits_10 : decode cX12_bits 10 = .ok (.iload_n 1, 1) := by decide +kernel
theorem dX12_bits_11 : decode cX12_bits 11 = .ok (.iload_n 0, 1) := by decide +kernel
theorem dX12_bits_12 : decode cX12_bits 12 = .ok (.iload_n 2, 1) := by decide +kernel
theorem dX12_bits_13 : decode cX12_bits 13 = .ok (.ishr, 1) := by decide +kernel
theorem dX12_bits_14 : decode cX12_bits 14 = .ok (.iconst 1, 1) := by decide +kernel
theorem dX12_bits_15 : decode cX12_bits 15 = .ok (.iand, 1) := by decide +kernel
theorem dX12_bits_16 : decode cX12_bits 16 = .ok (.iadd, 1) := by decide +kernel
theorem dX12_bits_17 : decode cX12_bits 17 = .ok (.istore_n 1, 1) := by decide +kernel
theorem dX12_bits_18 : decode cX12_bits 18 = .ok (.iinc 2 1, 3) := by decide +kernel
theorem dX12_bits_21 : decode cX12_bits 21 = .ok (.goto (-17), 3) := by decide +kernel
theorem dX12_bits_24 : decode cX12_bits 24 = .ok (.iload_n 1, 1) := by decide +kernel
theorem dX12_bits_25 : decode cX12_bits 25 = .ok (.ireturn, 1) := by decide +kernel
theorem dX12_every_0 : decode cX12_every 0 = .ok (.iconst 1, 1) := by decide +kernel
theorem dX12_every_1 : decode cX12_every 1 = .ok (.aload_n 0, 1) := by decide +kernel
theorem dX12_every_2 : decode cX12_every 2 = .ok (.getfield 98, 3) := by decide +kernel
theorem dX12_every_5 : decode cX12_every 5 = .ok (.ishl, 1) := by decide +kernel
theorem dX12_every_6 : decode cX12_every 6 = .ok (.iconst 1, 1) := by decide +kernel
theorem dX12_every_7 : decode cX12_every 7 = .ok (.isub, 1) := by decide +kernel
theorem dX12_every_8 : decode cX12_every 8 = .ok (.ireturn, 1) := by decide +kernel
theorem dX12_thing_0 : decode cX12_thing 0 = .ok (.iload_n 1, 1) := by decide +kernel
theorem dX12_thing_1 : decode cX12_thing 1 = .ok (.iconst 0, 1) := by decide +kernel
theorem dX12_thing_2 : decode cX12_thing 2 = .ok (.iconst 3, 1) := by decide +kernel
theorem dX12_thing_3 : decode cX12_thing 3 = .ok (.invokestatic 102, 3) := by decide +kernel
theorem dX12_thing_6 : decode cX12_thing 6 = .ok (.ifCond .eq 33, 3) := by decide +kernel
theorem dX12_thing_9 : decode cX12_thing 9 = .ok (.iload_n 2, 1) := by decide +kernel
theorem dX12_thing_10 : decode cX12_thing 10 = .ok (.iconst 0, 1) := by decide +kernel
theorem dX12_thing_11 : decode cX12_thing 11 = .ok (.iconst 3, 1) := by decide +kernel
theorem dX12_thing_12 : decode cX12_thing 12 = .ok (.invokestatic 102, 3) := by decide +kernel
theorem dX12_thing_15 : decode cX12_thing 15 = .ok (.ifCond .eq 24, 3) := by decide +kernel
theorem dX12_thing_18 : decode cX12_thing 18 = .ok (.iload_n 3, 1) := by decide +kernel
theorem dX12_thing_19 : decode cX12_thing 19 = .ok (.iconst 1, 1) := by decide +kernel
theorem dX12_thing_20 : decode cX12_thing 20 = .ok (.bipush 9, 2) := by decide +kernel
theorem dX12_thing_22 : decode cX12_thing 22 = .ok (.invokestatic 102, 3) := by decide +kernel
theorem dX12_thing_25 : decode cX12_thing 25 = .ok (.ifCond .eq 14, 3) := by decide +kernel
theorem dX12_thing_28 : decode cX12_thing 28 = .ok (.iload 4, 2) := by decide +kernel
theorem dX12_thing_30 : decode cX12_thing 30 = .ok (.iconst 0, 1) := by decide +kernel
theorem dX12_thing_31 : decode cX12_thing 31 = .ok (.bipush 15, 2) := by decide +kernel
theorem dX12_thing_33 : decode cX12_thing 33 = .ok (.invokestatic 102, 3) := by decide +kernel
theorem dX12_thing_36 : decode cX12_thing 36 = .ok (.ifCond .ne 6, 3) := by decide +kernel
theorem dX12_thing_39 : decode cX12_thing 39 = .ok (.bipush (-3), 2) := by decide +kernel
theorem dX12_thing_41 : decode cX12_thing 41 = .ok (.ireturn, 1) := by decide +kernel
theorem dX12_thing_42 : decode cX12_thing 42 = .ok (.iconst 0, 1) := by decide +kernel
theorem dX12_thing_43 : decode cX12_thing 43 = .ok (.istore 5, 2) := by decide +kernel
theorem dX12_thing_45 : decode cX12_thing 45 = .ok (.iload 5, 2) := by decide +kernel
theorem dX12_thing_47 : decode cX12_thing 47 = .ok (.aload_n 0, 1) := by decide +kernel
theorem dX12_thing_48 : decode cX12_thing 48 = .ok (.getfield 98, 3) := by decide +kernel
theorem dX12_thing_51 : decode cX12_thing 51 = .ok (.if_icmp .ge 24, 3) := by decide +kernel
theorem dX12_thing_54 : decode cX12_thing 54 = .ok (.aload_n 0, 1) := by decide +kernel
theorem dX12_thing_55 : decode cX12_thing 55 = .ok (.getfield 22, 3) := by decide +kernel
theorem dX12_thing_58 : decode cX12_thing 58 = .ok (.iload 5, 2) := by decide +kernel
theorem dX12_thing_60 : decode cX12_thing 60 = .ok (.iaload, 1) := by decide +kernel
theorem dX12_thing_61 : decode cX12_thing 61 = .ok (.iload 4, 2) := by decide +kernel
theorem dX12_thing_63 : decode cX12_thing 63 = .ok (.if_icmp .ne 6, 3) := by decide +kernel
theorem dX12_thing_66 : decode cX12_thing 66 = .ok (.bipush (-4), 2) := by decide +kernel
theorem dX12_thing_68 : decode cX12_thing 68 = .ok (.ireturn, 1) := by decide +kernel
theorem dX12_thing_69 : decode cX12_thing 69 = .ok (.iinc 5 1, 3) := by decide +kernel
theorem dX12_thing_72 : decode cX12_thing 72 = .ok (.goto (-27), 3) := by decide +kernel
theorem dX12_thing_75 : decode cX12_thing 75 = .ok (.aload_n 0, 1) := by decide +kernel
theorem dX12_thing_76 : decode cX12_thing 76 = .ok (.getfield 98, 3) := by decide +kernel
theorem dX12_thing_79 : decode cX12_thing 79 = .ok (.bipush 8, 2) := by decide +kernel
theorem dX12_thing_81 : decode cX12_thing 81 = .ok (.if_icmp .ne 6, 3) := by decide +kernel
theorem dX12_thing_84 : decode cX12_thing 84 = .ok (.bipush (-5), 2) := by decide +kernel
theorem dX12_thing_86 : decode cX12_thing 86 = .ok (.ireturn, 1) := by decide +kernel
theorem dX12_thing_87 : decode cX12_thing 87 = .ok (.aload_n 0, 1) := by decide +kernel
theorem dX12_thing_88 : decode cX12_thing 88 = .ok (.getfield 7, 3) := by decide +kernel
theorem dX12_thing_91 : decode cX12_thing 91 = .ok (.aload_n 0, 1) := by decide +kernel
theorem dX12_thing_92 : decode cX12_thing 92 = .ok (.getfield 98, 3) := by decide +kernel
theorem dX12_thing_95 : decode cX12_thing 95 = .ok (.iload_n 1, 1) := by decide +kernel
theorem dX12_thing_96 : decode cX12_thing 96 = .ok (.iastore, 1) := by decide +kernel
theorem dX12_thing_97 : decode cX12_thing 97 = .ok (.aload_n 0, 1) := by decide +kernel
theorem dX12_thing_98 : decode cX12_thing 98 = .ok (.getfield 13, 3) := by decide +kernel
theorem dX12_thing_101 : decode cX12_thing 101 = .ok (.aload_n 0, 1) := by decide +kernel
theorem dX12_thing_102 : decode cX12_thing 102 = .ok (.getfield 98, 3) := by decide +kernel
theorem dX12_thing_105 : decode cX12_thing 105 = .ok (.iload_n 2, 1) := by decide +kernel
theorem dX12_thing_106 : decode cX12_thing 106 = .ok (.iastore, 1) := by decide +kernel
theorem dX12_thing_107 : decode cX12_thing 107 = .ok (.aload_n 0, 1) := by decide +kernel
theorem dX12_thing_108 : decode cX12_thing 108 = .ok (.getfield 16, 3) := by decide +kernel
theorem dX12_thing_111 : decode cX12_thing 111 = .ok (.aload_n 0, 1) := by decide +kernel
theorem dX12_thing_112 : decode cX12_thing 112 = .ok (.getfield 98, 3) := by decide +kernel
theorem dX12_thing_115 : decode cX12_thing 115 = .ok (.iload_n 3, 1) := by decide +kernel
theorem dX12_thing_116 : decode cX12_thing 116 = .ok (.iastore, 1) := by decide +kernel
theorem dX12_thing_117 : decode cX12_thing 117 = .ok (.aload_n 0, 1) := by decide +kernel
theorem dX12_thing_118 : decode cX12_thing 118 = .ok (.getfield 22, 3) := by decide +kernel
theorem dX12_thing_121 : decode cX12_thing 121 = .ok (.aload_n 0, 1) := by decide +kernel
theorem dX12_thing_122 : decode cX12_thing 122 = .ok (.getfield 98, 3) := by decide +kernel
theorem dX12_thing_125 : decode cX12_thing 125 = .ok (.iload 4, 2) := by decide +kernel
theorem dX12_thing_127 : decode cX12_thing 127 = .ok (.iastore, 1) := by decide +kernel
theorem dX12_thing_128 : decode cX12_thing 128 = .ok (.aload_n 0, 1) := by decide +kernel
theorem dX12_thing_129 : decode cX12_thing 129 = .ok (.dup, 1) := by decide +kernel
theorem dX12_thing_130 : decode cX12_thing 130 = .ok (.getfield 98, 3) := by decide +kernel
theorem dX12_thing_133 : decode cX12_thing 133 = .ok (.iconst 1, 1) := by decide +kernel
theorem dX12_thing_134 : decode cX12_thing 134 = .ok (.iadd, 1) := by decide +kernel
theorem dX12_thing_135 : decode cX12_thing 135 = .ok (.putfield 98, 3) := by decide +kernel
theorem dX12_thing_138 : decode cX12_thing 138 = .ok (.aload_n 0, 1) := by decide +kernel
theorem dX12_thing_139 : decode cX12_thing 139 = .ok (.getfield 98, 3) := by decide +kernel
theorem dX12_thing_142 : decode cX12_thing 142 = .ok (.iconst 1, 1) := by decide +kernel
theorem dX12_thing_143 : decode cX12_thing 143 = .ok (.isub, 1) := by decide +kernel
theorem dX12_thing_144 : decode cX12_thing 144 = .ok (.ireturn, 1) := by decide +kernel
theorem dX12_paint_0 : decode cX12_paint 0 = .ok (.aload_n 0, 1) := by decide +kernel
theorem dX12_paint_1 : decode cX12_paint 1 = .ok (.iload_n 1, 1) := by decide +kernel
theorem dX12_paint_2 : decode cX12_paint 2 = .ok (.invokevirtual 106, 3) := by decide +kernel
theorem dX12_paint_5 : decode cX12_paint 5 = .ok (.ifCond .ne 6, 3) := by decide +kernel
theorem dX12_paint_8 : decode cX12_paint 8 = .ok (.bipush (-2), 2) := by decide +kernel
theorem dX12_paint_10 : decode cX12_paint 10 = .ok (.ireturn, 1) := by decide +kernel
theorem dX12_paint_11 : decode cX12_paint 11 = .ok (.iload_n 2, 1) := by decide +kernel
theorem dX12_paint_12 : decode cX12_paint 12 = .ok (.iconst 0, 1) := by decide +kernel
theorem dX12_paint_13 : decode cX12_paint 13 = .ok (.iconst 3, 1) := by decide +kernel
theorem dX12_paint_14 : decode cX12_paint 14 = .ok (.invokestatic 102, 3) := by decide +kernel
theorem dX12_paint_17 : decode cX12_paint 17 = .ok (.ifCond .eq 41, 3) := by decide +kernel
theorem dX12_paint_20 : decode cX12_paint 20 = .ok (.iload_n 3, 1) := by decide +kernel
theorem dX12_paint_21 : decode cX12_paint 21 = .ok (.iload_n 2, 1) := by decide +kernel
theorem dX12_paint_22 : decode cX12_paint 22 = .ok (.iconst 2, 1) := by decide +kernel
theorem dX12_paint_23 : decode cX12_paint 23 = .ok (.if_icmp .ne 7, 3) := by decide +kernel
theorem dX12_paint_26 : decode cX12_paint 26 = .ok (.iconst 1, 1) := by decide +kernel
theorem dX12_paint_27 : decode cX12_paint 27 = .ok (.goto 4, 3) := by decide +kernel
theorem dX12_paint_30 : decode cX12_paint 30 = .ok (.iconst 0, 1) := by decide +kernel
theorem dX12_paint_31 : decode cX12_paint 31 = .ok (.iload_n 2, 1) := by decide +kernel
theorem dX12_paint_32 : decode cX12_paint 32 = .ok (.iconst 2, 1) := by decide +kernel
theorem dX12_paint_33 : decode cX12_paint 33 = .ok (.if_icmp .ge 7, 3) := by decide +kernel
theorem dX12_paint_36 : decode cX12_paint 36 = .ok (.iconst 3, 1) := by decide +kernel
theorem dX12_paint_37 : decode cX12_paint 37 = .ok (.goto 15, 3) := by decide +kernel
theorem dX12_paint_40 : decode cX12_paint 40 = .ok (.iload_n 2, 1) := by decide +kernel
theorem dX12_paint_41 : decode cX12_paint 41 = .ok (.iconst 2, 1) := by decide +kernel
theorem dX12_paint_42 : decode cX12_paint 42 = .ok (.if_icmp .ne 8, 3) := by decide +kernel
theorem dX12_paint_45 : decode cX12_paint 45 = .ok (.bipush 9, 2) := by decide +kernel
theorem dX12_paint_47 : decode cX12_paint 47 = .ok (.goto 5, 3) := by decide +kernel
theorem dX12_paint_50 : decode cX12_paint 50 = .ok (.bipush 7, 2) := by decide +kernel
theorem dX12_paint_52 : decode cX12_paint 52 = .ok (.invokestatic 102, 3) := by decide +kernel
theorem dX12_paint_55 : decode cX12_paint 55 = .ok (.ifCond .ne 6, 3) := by decide +kernel
theorem dX12_paint_58 : decode cX12_paint 58 = .ok (.bipush (-3), 2) := by decide +kernel
theorem dX12_paint_60 : decode cX12_paint 60 = .ok (.ireturn, 1) := by decide +kernel
theorem dX12_paint_61 : decode cX12_paint 61 = .ok (.iload_n 2, 1) := by decide +kernel
theorem dX12_paint_62 : decode cX12_paint 62 = .ok (.ifCond .ne 12, 3) := by decide +kernel
theorem dX12_paint_65 : decode cX12_paint 65 = .ok (.aload_n 0, 1) := by decide +kernel
theorem dX12_paint_66 : decode cX12_paint 66 = .ok (.getfield 7, 3) := by decide +kernel
theorem dX12_paint_69 : decode cX12_paint 69 = .ok (.iload_n 1, 1) := by decide +kernel
theorem dX12_paint_70 : decode cX12_paint 70 = .ok (.iaload, 1) := by decide +kernel
theorem dX12_paint_71 : decode cX12_paint 71 = .ok (.goto 37, 3) := by decide +kernel
theorem dX12_paint_74 : decode cX12_paint 74 = .ok (.iload_n 2, 1) := by decide +kernel
theorem dX12_paint_75 : decode cX12_paint 75 = .ok (.iconst 1, 1) := by decide +kernel
theorem dX12_paint_76 : decode cX12_paint 76 = .ok (.if_icmp .ne 12, 3) := by decide +kernel
theorem dX12_paint_79 : decode cX12_paint 79 = .ok (.aload_n 0, 1) := by decide +kernel
theorem dX12_paint_80 : decode cX12_paint 80 = .ok (.getfield 13, 3) := by decide +kernel
theorem dX12_paint_83 : decode cX12_paint 83 = .ok (.iload_n 1, 1) := by decide +kernel
theorem dX12_paint_84 : decode cX12_paint 84 = .ok (.iaload, 1) := by decide +kernel
theorem dX12_paint_85 : decode cX12_paint 85 = .ok (.goto 23, 3) := by decide +kernel
theorem dX12_paint_88 : decode cX12_paint 88 = .ok (.iload_n 2, 1) := by decide +kernel
theorem dX12_paint_89 : decode cX12_paint 89 = .ok (.iconst 2, 1) := by decide +kernel
theorem dX12_paint_90 : decode cX12_paint 90 = .ok (.if_icmp .ne 12, 3) := by decide +kernel
theorem dX12_paint_93 : decode cX12_paint 93 = .ok (.aload_n 0, 1) := by decide +kernel
theorem dX12_paint_94 : decode cX12_paint 94 = .ok (.getfield 16, 3) := by decide +kernel
theorem dX12_paint_97 : decode cX12_paint 97 = .ok (.iload_n 1, 1) := by decide +kernel
theorem dX12_paint_98 : decode cX12_paint 98 = .ok (.iaload, 1) := by decide +kernel
theorem dX12_paint_99 : decode cX12_paint 99 = .ok (.goto 9, 3) := by decide +kernel
theorem dX12_paint_102 : decode cX12_paint 102 = .ok (.aload_n 0, 1) := by decide +kernel
theorem dX12_paint_103 : decode cX12_paint 103 = .ok (.getfield 19, 3) := by decide +kernel
theorem dX12_paint_106 : decode cX12_paint 106 = .ok (.iload_n 1, 1) := by decide +kernel
theorem dX12_paint_107 : decode cX12_paint 107 = .ok (.iaload, 1) := by decide +kernel
theorem dX12_paint_108 : decode cX12_paint 108 = .ok (.istore 4, 2) := by decide +kernel
theorem dX12_paint_110 : decode cX12_paint 110 = .ok (.aload_n 0, 1) := by decide +kernel
theorem dX12_paint_111 : decode cX12_paint 111 = .ok (.getfield 7, 3) := by decide +kernel
theorem dX12_paint_114 : decode cX12_paint 114 = .ok (.iload_n 1, 1) := by decide +kernel
theorem dX12_paint_115 : decode cX12_paint 115 = .ok (.iload_n 2, 1) := by decide +kernel
theorem dX12_paint_116 : decode cX12_paint 116 = .ok (.ifCond .ne 7, 3) := by decide +kernel
theorem dX12_paint_119 : decode cX12_paint 119 = .ok (.iload_n 3, 1) := by decide +kernel
theorem dX12_paint_120 : decode cX12_paint 120 = .ok (.goto 9, 3) := by decide +kernel
theorem dX12_paint_123 : decode cX12_paint 123 = .ok (.aload_n 0, 1) := by decide +kernel
theorem dX12_paint_124 : decode cX12_paint 124 = .ok (.getfield 7, 3) := by decide +kernel
theorem dX12_paint_127 : decode cX12_paint 127 = .ok (.iload_n 1, 1) := by decide +kernel
theorem dX12_paint_128 : decode cX12_paint 128 = .ok (.iaload, 1) := by decide +kernel
theorem dX12_paint_129 : decode cX12_paint 129 = .ok (.iastore, 1) := by decide +kernel
theorem dX12_paint_130 : decode cX12_paint 130 = .ok (.aload_n 0, 1) := by decide +kernel
theorem dX12_paint_131 : decode cX12_paint 131 = .ok (.getfield 13, 3) := by decide +kernel
theorem dX12_paint_134 : decode cX12_paint 134 = .ok (.iload_n 1, 1) := by decide +kernel
theorem dX12_paint_135 : decode cX12_paint 135 = .ok (.iload_n 2, 1) := by decide +kernel
theorem dX12_paint_136 : decode cX12_paint 136 = .ok (.iconst 1, 1) := by decide +kernel
theorem dX12_paint_137 : decode cX12_paint 137 = .ok (.if_icmp .ne 7, 3) := by decide +kernel
theorem dX12_paint_140 : decode cX12_paint 140 = .ok (.iload_n 3, 1) := by decide +kernel
theorem dX12_paint_141 : decode cX12_paint 141 = .ok (.goto 9, 3) := by decide +kernel
theorem dX12_paint_144 : decode cX12_paint 144 = .ok (.aload_n 0, 1) := by decide +kernel
theorem dX12_paint_145 : decode cX12_paint 145 = .ok (.getfield 13, 3) := by decide +kernel
theorem dX12_paint_148 : decode cX12_paint 148 = .ok (.iload_n 1, 1) := by decide +kernel
theorem dX12_paint_149 : decode cX12_paint 149 = .ok (.iaload, 1) := by decide +kernel
theorem dX12_paint_150 : decode cX12_paint 150 = .ok (.iastore, 1) := by decide +kernel
theorem dX12_paint_151 : decode cX12_paint 151 = .ok (.aload_n 0, 1) := by decide +kernel
theorem dX12_paint_152 : decode cX12_paint 152 = .ok (.getfield 16, 3) := by decide +kernel
theorem dX12_paint_155 : decode cX12_paint 155 = .ok (.iload_n 1, 1) := by decide +kernel
theorem dX12_paint_156 : decode cX12_paint 156 = .ok (.iload_n 2, 1) := by decide +kernel
theorem dX12_paint_157 : decode cX12_paint 157 = .ok (.iconst 2, 1) := by decide +kernel
theorem dX12_paint_158 : decode cX12_paint 158 = .ok (.if_icmp .ne 7, 3) := by decide +kernel
theorem dX12_paint_161 : decode cX12_paint 161 = .ok (.iload_n 3, 1) := by decide +kernel
theorem dX12_paint_162 : decode cX12_paint 162 = .ok (.goto 9, 3) := by decide +kernel
theorem dX12_paint_165 : decode cX12_paint 165 = .ok (.aload_n 0, 1) := by decide +kernel
theorem dX12_paint_166 : decode cX12_paint 166 = .ok (.getfield 16, 3) := by decide +kernel
theorem dX12_paint_169 : decode cX12_paint 169 = .ok (.iload_n 1, 1) := by decide +kernel
theorem dX12_paint_170 : decode cX12_paint 170 = .ok (.iaload, 1) := by decide +kernel
theorem dX12_paint_171 : decode cX12_paint 171 = .ok (.iastore, 1) := by decide +kernel
theorem dX12_paint_172 : decode cX12_paint 172 = .ok (.aload_n 0, 1) := by decide +kernel
theorem dX12_paint_173 : decode cX12_paint 173 = .ok (.getfield 19, 3) := by decide +kernel
theorem dX12_paint_176 : decode cX12_paint 176 = .ok (.iload_n 1, 1) := by decide +kernel
theorem dX12_paint_177 : decode cX12_paint 177 = .ok (.iload_n 2, 1) := by decide +kernel
theorem dX12_paint_178 : decode cX12_paint 178 = .ok (.iconst 3, 1) := by decide +kernel
theorem dX12_paint_179 : decode cX12_paint 179 = .ok (.if_icmp .ne 7, 3) := by decide +kernel
theorem dX12_paint_182 : decode cX12_paint 182 = .ok (.iload_n 3, 1) := by decide +kernel
theorem dX12_paint_183 : decode cX12_paint 183 = .ok (.goto 9, 3) := by decide +kernel
theorem dX12_paint_186 : decode cX12_paint 186 = .ok (.aload_n 0, 1) := by decide +kernel
theorem dX12_paint_187 : decode cX12_paint 187 = .ok (.getfield 19, 3) := by decide +kernel
theorem dX12_paint_190 : decode cX12_paint 190 = .ok (.iload_n 1, 1) := by decide +kernel
theorem dX12_paint_191 : decode cX12_paint 191 = .ok (.iaload, 1) := by decide +kernel
theorem dX12_paint_192 : decode cX12_paint 192 = .ok (.iastore, 1) := by decide +kernel
theorem dX12_paint_193 : decode cX12_paint 193 = .ok (.iload 4, 2) := by decide +kernel
theorem dX12_paint_195 : decode cX12_paint 195 = .ok (.ireturn, 1) := by decide +kernel
theorem dX12_tieMany_0 : decode cX12_tieMany 0 = .ok (.iconst 0, 1) := by decide +kernel
theorem dX12_tieMany_1 : decode cX12_tieMany 1 = .ok (.istore_n 1, 1) := by decide +kernel
theorem dX12_tieMany_2 : decode cX12_tieMany 2 = .ok (.iconst 0, 1) := by decide +kernel
theorem dX12_tieMany_3 : decode cX12_tieMany 3 = .ok (.istore_n 2, 1) := by decide +kernel
theorem dX12_tieMany_4 : decode cX12_tieMany 4 = .ok (.iload_n 2, 1) := by decide +kernel
theorem dX12_tieMany_5 : decode cX12_tieMany 5 = .ok (.aload_n 0, 1) := by decide +kernel
theorem dX12_tieMany_6 : decode cX12_tieMany 6 = .ok (.getfield 98, 3) := by decide +kernel
theorem dX12_tieMany_9 : decode cX12_tieMany 9 = .ok (.if_icmp .ge 21, 3) := by decide +kernel
theorem dX12_tieMany_12 : decode cX12_tieMany 12 = .ok (.iload_n 1, 1) := by decide +kernel
theorem dX12_tieMany_13 : decode cX12_tieMany 13 = .ok (.aload_n 0, 1) := by decide +kernel
theorem dX12_tieMany_14 : decode cX12_tieMany 14 = .ok (.getfield 25, 3) := by decide +kernel
theorem dX12_tieMany_17 : decode cX12_tieMany 17 = .ok (.iload_n 2, 1) := by decide +kernel
theorem dX12_tieMany_18 : decode cX12_tieMany 18 = .ok (.iaload, 1) := by decide +kernel
theorem dX12_tieMany_19 : decode cX12_tieMany 19 = .ok (.invokestatic 110, 3) := by decide +kernel
theorem dX12_tieMany_22 : decode cX12_tieMany 22 = .ok (.iadd, 1) := by decide +kernel
theorem dX12_tieMany_23 : decode cX12_tieMany 23 = .ok (.istore_n 1, 1) := by decide +kernel
theorem dX12_tieMany_24 : decode cX12_tieMany 24 = .ok (.iinc 2 1, 3) := by decide +kernel
theorem dX12_tieMany_27 : decode cX12_tieMany 27 = .ok (.goto (-23), 3) := by decide +kernel
theorem dX12_tieMany_30 : decode cX12_tieMany 30 = .ok (.iload_n 1, 1) := by decide +kernel
theorem dX12_tieMany_31 : decode cX12_tieMany 31 = .ok (.ireturn, 1) := by decide +kernel
theorem dX12_tie_0 : decode cX12_tie 0 = .ok (.aload_n 0, 1) := by decide +kernel
theorem dX12_tie_1 : decode cX12_tie 1 = .ok (.iload_n 1, 1) := by decide +kernel
theorem dX12_tie_2 : decode cX12_tie 2 = .ok (.invokevirtual 106, 3) := by decide +kernel
theorem dX12_tie_5 : decode cX12_tie 5 = .ok (.ifCond .eq 16, 3) := by decide +kernel
theorem dX12_tie_8 : decode cX12_tie 8 = .ok (.aload_n 0, 1) := by decide +kernel
theorem dX12_tie_9 : decode cX12_tie 9 = .ok (.iload_n 2, 1) := by decide +kernel
theorem dX12_tie_10 : decode cX12_tie 10 = .ok (.invokevirtual 106, 3) := by decide +kernel
theorem dX12_tie_13 : decode cX12_tie 13 = .ok (.ifCond .eq 8, 3) := by decide +kernel
theorem dX12_tie_16 : decode cX12_tie 16 = .ok (.iload_n 1, 1) := by decide +kernel
theorem dX12_tie_17 : decode cX12_tie 17 = .ok (.iload_n 2, 1) := by decide +kernel
theorem dX12_tie_18 : decode cX12_tie 18 = .ok (.if_icmp .ne 6, 3) := by decide +kernel
end
section
theorem dX12_tie_21 : decode cX12_tie 21 = .ok (.bipush (-2), 2) := by decide +kernel
theorem dX12_tie_23 : decode cX12_tie 23 = .ok (.ireturn, 1) := by decide +kernel
theorem dX12_tie_24 : decode cX12_tie 24 = .ok (.aload_n 0, 1) := by decide +kernel
theorem dX12_tie_25 : decode cX12_tie 25 = .ok (.getfield 25, 3) := by decide +kernel
theorem dX12_tie_28 : decode cX12_tie 28 = .ok (.iload_n 1, 1) := by decide +kernel
theorem dX12_tie_29 : decode cX12_tie 29 = .ok (.iaload, 1) := by decide +kernel
theorem dX12_tie_30 : decode cX12_tie 30 = .ok (.iload_n 2, 1) := by decide +kernel
theorem dX12_tie_31 : decode cX12_tie 31 = .ok (.ishr, 1) := by decide +kernel
theorem dX12_tie_32 : decode cX12_tie 32 = .ok (.iconst 1, 1) := by decide +kernel
theorem dX12_tie_33 : decode cX12_tie 33 = .ok (.iand, 1) := by decide +kernel
theorem dX12_tie_34 : decode cX12_tie 34 = .ok (.iconst 1, 1) := by decide +kernel
theorem dX12_tie_35 : decode cX12_tie 35 = .ok (.if_icmp .ne 6, 3) := by decide +kernel
theorem dX12_tie_38 : decode cX12_tie 38 = .ok (.bipush (-4), 2) := by decide +kernel
theorem dX12_tie_40 : decode cX12_tie 40 = .ok (.ireturn, 1) := by decide +kernel
theorem dX12_tie_41 : decode cX12_tie 41 = .ok (.aload_n 0, 1) := by decide +kernel
theorem dX12_tie_42 : decode cX12_tie 42 = .ok (.getfield 25, 3) := by decide +kernel
theorem dX12_tie_45 : decode cX12_tie 45 = .ok (.iload_n 1, 1) := by decide +kernel
theorem dX12_tie_46 : decode cX12_tie 46 = .ok (.aload_n 0, 1) := by decide +kernel
theorem dX12_tie_47 : decode cX12_tie 47 = .ok (.getfield 25, 3) := by decide +kernel
theorem dX12_tie_50 : decode cX12_tie 50 = .ok (.iload_n 1, 1) := by decide +kernel
theorem dX12_tie_51 : decode cX12_tie 51 = .ok (.iaload, 1) := by decide +kernel
theorem dX12_tie_52 : decode cX12_tie 52 = .ok (.iconst 1, 1) := by decide +kernel
theorem dX12_tie_53 : decode cX12_tie 53 = .ok (.iload_n 2, 1) := by decide +kernel
theorem dX12_tie_54 : decode cX12_tie 54 = .ok (.ishl, 1) := by decide +kernel
theorem dX12_tie_55 : decode cX12_tie 55 = .ok (.ior, 1) := by decide +kernel
theorem dX12_tie_56 : decode cX12_tie 56 = .ok (.iastore, 1) := by decide +kernel
theorem dX12_tie_57 : decode cX12_tie 57 = .ok (.aload_n 0, 1) := by decide +kernel
theorem dX12_tie_58 : decode cX12_tie 58 = .ok (.invokevirtual 114, 3) := by decide +kernel
theorem dX12_tie_61 : decode cX12_tie 61 = .ok (.ireturn, 1) := by decide +kernel
theorem dX12_besides_0 : decode cX12_besides 0 = .ok (.iconst 0, 1) := by decide +kernel
theorem dX12_besides_1 : decode cX12_besides 1 = .ok (.istore_n 2, 1) := by decide +kernel
theorem dX12_besides_2 : decode cX12_besides 2 = .ok (.iconst 0, 1) := by decide +kernel
theorem dX12_besides_3 : decode cX12_besides 3 = .ok (.istore_n 3, 1) := by decide +kernel
theorem dX12_besides_4 : decode cX12_besides 4 = .ok (.iload_n 3, 1) := by decide +kernel
theorem dX12_besides_5 : decode cX12_besides 5 = .ok (.aload_n 0, 1) := by decide +kernel
theorem dX12_besides_6 : decode cX12_besides 6 = .ok (.getfield 98, 3) := by decide +kernel
theorem dX12_besides_9 : decode cX12_besides 9 = .ok (.if_icmp .ge 53, 3) := by decide +kernel
theorem dX12_besides_12 : decode cX12_besides 12 = .ok (.iload_n 2, 1) := by decide +kernel
theorem dX12_besides_13 : decode cX12_besides 13 = .ok (.aload_n 0, 1) := by decide +kernel
theorem dX12_besides_14 : decode cX12_besides 14 = .ok (.getfield 22, 3) := by decide +kernel
theorem dX12_besides_17 : decode cX12_besides 17 = .ok (.iload_n 3, 1) := by decide +kernel
theorem dX12_besides_18 : decode cX12_besides 18 = .ok (.iaload, 1) := by decide +kernel
theorem dX12_besides_19 : decode cX12_besides 19 = .ok (.aload_n 0, 1) := by decide +kernel
theorem dX12_besides_20 : decode cX12_besides 20 = .ok (.getfield 22, 3) := by decide +kernel
theorem dX12_besides_23 : decode cX12_besides 23 = .ok (.iload_n 1, 1) := by decide +kernel
theorem dX12_besides_24 : decode cX12_besides 24 = .ok (.iaload, 1) := by decide +kernel
theorem dX12_besides_25 : decode cX12_besides 25 = .ok (.isub, 1) := by decide +kernel
theorem dX12_besides_26 : decode cX12_besides 26 = .ok (.iconst 1, 1) := by decide +kernel
theorem dX12_besides_27 : decode cX12_besides 27 = .ok (.if_icmp .eq 20, 3) := by decide +kernel
theorem dX12_besides_30 : decode cX12_besides 30 = .ok (.aload_n 0, 1) := by decide +kernel
theorem dX12_besides_31 : decode cX12_besides 31 = .ok (.getfield 22, 3) := by decide +kernel
theorem dX12_besides_34 : decode cX12_besides 34 = .ok (.iload_n 1, 1) := by decide +kernel
theorem dX12_besides_35 : decode cX12_besides 35 = .ok (.iaload, 1) := by decide +kernel
theorem dX12_besides_36 : decode cX12_besides 36 = .ok (.aload_n 0, 1) := by decide +kernel
theorem dX12_besides_37 : decode cX12_besides 37 = .ok (.getfield 22, 3) := by decide +kernel
theorem dX12_besides_40 : decode cX12_besides 40 = .ok (.iload_n 3, 1) := by decide +kernel
theorem dX12_besides_41 : decode cX12_besides 41 = .ok (.iaload, 1) := by decide +kernel
theorem dX12_besides_42 : decode cX12_besides 42 = .ok (.isub, 1) := by decide +kernel
theorem dX12_besides_43 : decode cX12_besides 43 = .ok (.iconst 1, 1) := by decide +kernel
theorem dX12_besides_44 : decode cX12_besides 44 = .ok (.if_icmp .ne 9, 3) := by decide +kernel
theorem dX12_besides_47 : decode cX12_besides 47 = .ok (.iconst 1, 1) := by decide +kernel
theorem dX12_besides_48 : decode cX12_besides 48 = .ok (.iload_n 3, 1) := by decide +kernel
theorem dX12_besides_49 : decode cX12_besides 49 = .ok (.ishl, 1) := by decide +kernel
theorem dX12_besides_50 : decode cX12_besides 50 = .ok (.goto 4, 3) := by decide +kernel
theorem dX12_besides_53 : decode cX12_besides 53 = .ok (.iconst 0, 1) := by decide +kernel
theorem dX12_besides_54 : decode cX12_besides 54 = .ok (.ior, 1) := by decide +kernel
theorem dX12_besides_55 : decode cX12_besides 55 = .ok (.istore_n 2, 1) := by decide +kernel
theorem dX12_besides_56 : decode cX12_besides 56 = .ok (.iinc 3 1, 3) := by decide +kernel
theorem dX12_besides_59 : decode cX12_besides 59 = .ok (.goto (-55), 3) := by decide +kernel
theorem dX12_besides_62 : decode cX12_besides 62 = .ok (.iload_n 2, 1) := by decide +kernel
theorem dX12_besides_63 : decode cX12_besides 63 = .ok (.ireturn, 1) := by decide +kernel
theorem dX12_of_0 : decode cX12_of 0 = .ok (.aload_n 0, 1) := by decide +kernel
theorem dX12_of_1 : decode cX12_of 1 = .ok (.iload_n 1, 1) := by decide +kernel
theorem dX12_of_2 : decode cX12_of 2 = .ok (.invokevirtual 106, 3) := by decide +kernel
theorem dX12_of_5 : decode cX12_of 5 = .ok (.ifCond .ne 6, 3) := by decide +kernel
theorem dX12_of_8 : decode cX12_of 8 = .ok (.bipush (-2), 2) := by decide +kernel
theorem dX12_of_10 : decode cX12_of 10 = .ok (.ireturn, 1) := by decide +kernel
theorem dX12_of_11 : decode cX12_of 11 = .ok (.iload_n 2, 1) := by decide +kernel
theorem dX12_of_12 : decode cX12_of 12 = .ok (.tableswitch 92 0 6 #[44, 51, 58, 65, 72, 79, 85], 44) := by decide +kernel
theorem dX12_of_56 : decode cX12_of 56 = .ok (.aload_n 0, 1) := by decide +kernel
theorem dX12_of_57 : decode cX12_of 57 = .ok (.getfield 7, 3) := by decide +kernel
theorem dX12_of_60 : decode cX12_of 60 = .ok (.iload_n 1, 1) := by decide +kernel
theorem dX12_of_61 : decode cX12_of 61 = .ok (.iaload, 1) := by decide +kernel
theorem dX12_of_62 : decode cX12_of 62 = .ok (.ireturn, 1) := by decide +kernel
theorem dX12_of_63 : decode cX12_of 63 = .ok (.aload_n 0, 1) := by decide +kernel
theorem dX12_of_64 : decode cX12_of 64 = .ok (.getfield 13, 3) := by decide +kernel
theorem dX12_of_67 : decode cX12_of 67 = .ok (.iload_n 1, 1) := by decide +kernel
theorem dX12_of_68 : decode cX12_of 68 = .ok (.iaload, 1) := by decide +kernel
theorem dX12_of_69 : decode cX12_of 69 = .ok (.ireturn, 1) := by decide +kernel
theorem dX12_of_70 : decode cX12_of 70 = .ok (.aload_n 0, 1) := by decide +kernel
theorem dX12_of_71 : decode cX12_of 71 = .ok (.getfield 16, 3) := by decide +kernel
theorem dX12_of_74 : decode cX12_of 74 = .ok (.iload_n 1, 1) := by decide +kernel
theorem dX12_of_75 : decode cX12_of 75 = .ok (.iaload, 1) := by decide +kernel
theorem dX12_of_76 : decode cX12_of 76 = .ok (.ireturn, 1) := by decide +kernel
theorem dX12_of_77 : decode cX12_of 77 = .ok (.aload_n 0, 1) := by decide +kernel
theorem dX12_of_78 : decode cX12_of 78 = .ok (.getfield 19, 3) := by decide +kernel
theorem dX12_of_81 : decode cX12_of 81 = .ok (.iload_n 1, 1) := by decide +kernel
theorem dX12_of_82 : decode cX12_of 82 = .ok (.iaload, 1) := by decide +kernel
theorem dX12_of_83 : decode cX12_of 83 = .ok (.ireturn, 1) := by decide +kernel
theorem dX12_of_84 : decode cX12_of 84 = .ok (.aload_n 0, 1) := by decide +kernel
theorem dX12_of_85 : decode cX12_of 85 = .ok (.getfield 22, 3) := by decide +kernel
theorem dX12_of_88 : decode cX12_of 88 = .ok (.iload_n 1, 1) := by decide +kernel
theorem dX12_of_89 : decode cX12_of 89 = .ok (.iaload, 1) := by decide +kernel
theorem dX12_of_90 : decode cX12_of 90 = .ok (.ireturn, 1) := by decide +kernel
theorem dX12_of_91 : decode cX12_of 91 = .ok (.aload_n 0, 1) := by decide +kernel
theorem dX12_of_92 : decode cX12_of 92 = .ok (.iload_n 1, 1) := by decide +kernel
theorem dX12_of_93 : decode cX12_of 93 = .ok (.invokevirtual 118, 3) := by decide +kernel
theorem dX12_of_96 : decode cX12_of 96 = .ok (.ireturn, 1) := by decide +kernel
theorem dX12_of_97 : decode cX12_of 97 = .ok (.aload_n 0, 1) := by decide +kernel
theorem dX12_of_98 : decode cX12_of 98 = .ok (.getfield 25, 3) := by decide +kernel
theorem dX12_of_101 : decode cX12_of 101 = .ok (.iload_n 1, 1) := by decide +kernel
theorem dX12_of_102 : decode cX12_of 102 = .ok (.iaload, 1) := by decide +kernel
theorem dX12_of_103 : decode cX12_of 103 = .ok (.ireturn, 1) := by decide +kernel
theorem dX12_of_104 : decode cX12_of 104 = .ok (.bipush (-3), 2) := by decide +kernel
theorem dX12_of_106 : decode cX12_of 106 = .ok (.ireturn, 1) := by decide +kernel
theorem dX12_price_0 : decode cX12_price 0 = .ok (.iload_n 1, 1) := by decide +kernel
theorem dX12_price_1 : decode cX12_price 1 = .ok (.iconst 0, 1) := by decide +kernel
theorem dX12_price_2 : decode cX12_price 2 = .ok (.bipush 14, 2) := by decide +kernel
theorem dX12_price_4 : decode cX12_price 4 = .ok (.invokestatic 102, 3) := by decide +kernel
theorem dX12_price_7 : decode cX12_price 7 = .ok (.ifCond .eq 13, 3) := by decide +kernel
theorem dX12_price_10 : decode cX12_price 10 = .ok (.iload_n 2, 1) := by decide +kernel
theorem dX12_price_11 : decode cX12_price 11 = .ok (.iconst 1, 1) := by decide +kernel
theorem dX12_price_12 : decode cX12_price 12 = .ok (.bipush 9, 2) := by decide +kernel
theorem dX12_price_14 : decode cX12_price 14 = .ok (.invokestatic 102, 3) := by decide +kernel
theorem dX12_price_17 : decode cX12_price 17 = .ok (.ifCond .ne 6, 3) := by decide +kernel
theorem dX12_price_20 : decode cX12_price 20 = .ok (.bipush (-3), 2) := by decide +kernel
theorem dX12_price_22 : decode cX12_price 22 = .ok (.ireturn, 1) := by decide +kernel
theorem dX12_price_23 : decode cX12_price 23 = .ok (.aload_n 0, 1) := by decide +kernel
theorem dX12_price_24 : decode cX12_price 24 = .ok (.getfield 28, 3) := by decide +kernel
theorem dX12_price_27 : decode cX12_price 27 = .ok (.iload_n 1, 1) := by decide +kernel
theorem dX12_price_28 : decode cX12_price 28 = .ok (.iaload, 1) := by decide +kernel
theorem dX12_price_29 : decode cX12_price 29 = .ok (.istore_n 3, 1) := by decide +kernel
theorem dX12_price_30 : decode cX12_price 30 = .ok (.aload_n 0, 1) := by decide +kernel
theorem dX12_price_31 : decode cX12_price 31 = .ok (.getfield 28, 3) := by decide +kernel
theorem dX12_price_34 : decode cX12_price 34 = .ok (.iload_n 1, 1) := by decide +kernel
theorem dX12_price_35 : decode cX12_price 35 = .ok (.iload_n 2, 1) := by decide +kernel
theorem dX12_price_36 : decode cX12_price 36 = .ok (.iastore, 1) := by decide +kernel
theorem dX12_price_37 : decode cX12_price 37 = .ok (.iload_n 3, 1) := by decide +kernel
theorem dX12_price_38 : decode cX12_price 38 = .ok (.ireturn, 1) := by decide +kernel
theorem dX12_write_0 : decode cX12_write 0 = .ok (.iload_n 3, 1) := by decide +kernel
theorem dX12_write_1 : decode cX12_write 1 = .ok (.iconst 1, 1) := by decide +kernel
theorem dX12_write_2 : decode cX12_write 2 = .ok (.bipush 8, 2) := by decide +kernel
theorem dX12_write_4 : decode cX12_write 4 = .ok (.invokestatic 102, 3) := by decide +kernel
theorem dX12_write_7 : decode cX12_write 7 = .ok (.ifCond .ne 6, 3) := by decide +kernel
theorem dX12_write_10 : decode cX12_write 10 = .ok (.bipush (-3), 2) := by decide +kernel
theorem dX12_write_12 : decode cX12_write 12 = .ok (.ireturn, 1) := by decide +kernel
theorem dX12_write_13 : decode cX12_write 13 = .ok (.aload_n 0, 1) := by decide +kernel
theorem dX12_write_14 : decode cX12_write 14 = .ok (.getfield 121, 3) := by decide +kernel
theorem dX12_write_17 : decode cX12_write 17 = .ok (.iload_n 3, 1) := by decide +kernel
theorem dX12_write_18 : decode cX12_write 18 = .ok (.iadd, 1) := by decide +kernel
theorem dX12_write_19 : decode cX12_write 19 = .ok (.sipush 160, 3) := by decide +kernel
theorem dX12_write_22 : decode cX12_write 22 = .ok (.if_icmp .le 6, 3) := by decide +kernel
theorem dX12_write_25 : decode cX12_write 25 = .ok (.bipush (-5), 2) := by decide +kernel
theorem dX12_write_27 : decode cX12_write 27 = .ok (.ireturn, 1) := by decide +kernel
theorem dX12_write_28 : decode cX12_write 28 = .ok (.iconst 0, 1) := by decide +kernel
theorem dX12_write_29 : decode cX12_write 29 = .ok (.istore 4, 2) := by decide +kernel
theorem dX12_write_31 : decode cX12_write 31 = .ok (.iload 4, 2) := by decide +kernel
theorem dX12_write_33 : decode cX12_write 33 = .ok (.iload_n 3, 1) := by decide +kernel
theorem dX12_write_34 : decode cX12_write 34 = .ok (.if_icmp .ge 33, 3) := by decide +kernel
theorem dX12_write_37 : decode cX12_write 37 = .ok (.aload_n 0, 1) := by decide +kernel
theorem dX12_write_38 : decode cX12_write 38 = .ok (.getfield 31, 3) := by decide +kernel
theorem dX12_write_41 : decode cX12_write 41 = .ok (.aload_n 0, 1) := by decide +kernel
theorem dX12_write_42 : decode cX12_write 42 = .ok (.getfield 121, 3) := by decide +kernel
theorem dX12_write_45 : decode cX12_write 45 = .ok (.iload 4, 2) := by decide +kernel
theorem dX12_write_47 : decode cX12_write 47 = .ok (.iadd, 1) := by decide +kernel
theorem dX12_write_48 : decode cX12_write 48 = .ok (.lload_n 1, 1) := by decide +kernel
theorem dX12_write_49 : decode cX12_write 49 = .ok (.bipush 8, 2) := by decide +kernel
theorem dX12_write_51 : decode cX12_write 51 = .ok (.iload 4, 2) := by decide +kernel
theorem dX12_write_53 : decode cX12_write 53 = .ok (.imul, 1) := by decide +kernel
theorem dX12_write_54 : decode cX12_write 54 = .ok (.lshr, 1) := by decide +kernel
theorem dX12_write_55 : decode cX12_write 55 = .ok (.ldc2_w 124, 3) := by decide +kernel
theorem dX12_write_58 : decode cX12_write 58 = .ok (.land, 1) := by decide +kernel
theorem dX12_write_59 : decode cX12_write 59 = .ok (.l2i, 1) := by decide +kernel
theorem dX12_write_60 : decode cX12_write 60 = .ok (.iastore, 1) := by decide +kernel
theorem dX12_write_61 : decode cX12_write 61 = .ok (.iinc 4 1, 3) := by decide +kernel
theorem dX12_write_64 : decode cX12_write 64 = .ok (.goto (-33), 3) := by decide +kernel
theorem dX12_write_67 : decode cX12_write 67 = .ok (.aload_n 0, 1) := by decide +kernel
theorem dX12_write_68 : decode cX12_write 68 = .ok (.dup, 1) := by decide +kernel
theorem dX12_write_69 : decode cX12_write 69 = .ok (.getfield 121, 3) := by decide +kernel
theorem dX12_write_72 : decode cX12_write 72 = .ok (.iload_n 3, 1) := by decide +kernel
theorem dX12_write_73 : decode cX12_write 73 = .ok (.iadd, 1) := by decide +kernel
theorem dX12_write_74 : decode cX12_write 74 = .ok (.putfield 121, 3) := by decide +kernel
theorem dX12_write_77 : decode cX12_write 77 = .ok (.aload_n 0, 1) := by decide +kernel
theorem dX12_write_78 : decode cX12_write 78 = .ok (.getfield 121, 3) := by decide +kernel
theorem dX12_write_81 : decode cX12_write 81 = .ok (.ireturn, 1) := by decide +kernel
theorem dX12_erase_0 : decode cX12_erase 0 = .ok (.aload_n 0, 1) := by decide +kernel
theorem dX12_erase_1 : decode cX12_erase 1 = .ok (.getfield 121, 3) := by decide +kernel
theorem dX12_erase_4 : decode cX12_erase 4 = .ok (.istore_n 1, 1) := by decide +kernel
theorem dX12_erase_5 : decode cX12_erase 5 = .ok (.aload_n 0, 1) := by decide +kernel
theorem dX12_erase_6 : decode cX12_erase 6 = .ok (.iconst 0, 1) := by decide +kernel
theorem dX12_erase_7 : decode cX12_erase 7 = .ok (.putfield 121, 3) := by decide +kernel
theorem dX12_erase_10 : decode cX12_erase 10 = .ok (.iload_n 1, 1) := by decide +kernel
theorem dX12_erase_11 : decode cX12_erase 11 = .ok (.ireturn, 1) := by decide +kernel
theorem dX12_nextToken_0 : decode cX12_nextToken 0 = .ok (.aload_n 0, 1) := by decide +kernel
theorem dX12_nextToken_1 : decode cX12_nextToken 1 = .ok (.getfield 126, 3) := by decide +kernel
theorem dX12_nextToken_4 : decode cX12_nextToken 4 = .ok (.aload_n 0, 1) := by decide +kernel
theorem dX12_nextToken_5 : decode cX12_nextToken 5 = .ok (.getfield 121, 3) := by decide +kernel
theorem dX12_nextToken_8 : decode cX12_nextToken 8 = .ok (.if_icmp .ge 30, 3) := by decide +kernel
theorem dX12_nextToken_11 : decode cX12_nextToken 11 = .ok (.aload_n 0, 1) := by decide +kernel
theorem dX12_nextToken_12 : decode cX12_nextToken 12 = .ok (.getfield 31, 3) := by decide +kernel
theorem dX12_nextToken_15 : decode cX12_nextToken 15 = .ok (.aload_n 0, 1) := by decide +kernel
theorem dX12_nextToken_16 : decode cX12_nextToken 16 = .ok (.getfield 126, 3) := by decide +kernel
theorem dX12_nextToken_19 : decode cX12_nextToken 19 = .ok (.iaload, 1) := by decide +kernel
theorem dX12_nextToken_20 : decode cX12_nextToken 20 = .ok (.bipush 32, 2) := by decide +kernel
theorem dX12_nextToken_22 : decode cX12_nextToken 22 = .ok (.if_icmp .ne 16, 3) := by decide +kernel
theorem dX12_nextToken_25 : decode cX12_nextToken 25 = .ok (.aload_n 0, 1) := by decide +kernel
theorem dX12_nextToken_26 : decode cX12_nextToken 26 = .ok (.dup, 1) := by decide +kernel
theorem dX12_nextToken_27 : decode cX12_nextToken 27 = .ok (.getfield 126, 3) := by decide +kernel
theorem dX12_nextToken_30 : decode cX12_nextToken 30 = .ok (.iconst 1, 1) := by decide +kernel
theorem dX12_nextToken_31 : decode cX12_nextToken 31 = .ok (.iadd, 1) := by decide +kernel
theorem dX12_nextToken_32 : decode cX12_nextToken 32 = .ok (.putfield 126, 3) := by decide +kernel
theorem dX12_nextToken_35 : decode cX12_nextToken 35 = .ok (.goto (-35), 3) := by decide +kernel
theorem dX12_nextToken_38 : decode cX12_nextToken 38 = .ok (.aload_n 0, 1) := by decide +kernel
theorem dX12_nextToken_39 : decode cX12_nextToken 39 = .ok (.aload_n 0, 1) := by decide +kernel
theorem dX12_nextToken_40 : decode cX12_nextToken 40 = .ok (.getfield 126, 3) := by decide +kernel
theorem dX12_nextToken_43 : decode cX12_nextToken 43 = .ok (.putfield 129, 3) := by decide +kernel
theorem dX12_nextToken_46 : decode cX12_nextToken 46 = .ok (.aload_n 0, 1) := by decide +kernel
theorem dX12_nextToken_47 : decode cX12_nextToken 47 = .ok (.iconst 0, 1) := by decide +kernel
theorem dX12_nextToken_48 : decode cX12_nextToken 48 = .ok (.putfield 132, 3) := by decide +kernel
theorem dX12_nextToken_51 : decode cX12_nextToken 51 = .ok (.aload_n 0, 1) := by decide +kernel
theorem dX12_nextToken_52 : decode cX12_nextToken 52 = .ok (.iconst 0, 1) := by decide +kernel
theorem dX12_nextToken_53 : decode cX12_nextToken 53 = .ok (.putfield 135, 3) := by decide +kernel
theorem dX12_nextToken_56 : decode cX12_nextToken 56 = .ok (.aload_n 0, 1) := by decide +kernel
theorem dX12_nextToken_57 : decode cX12_nextToken 57 = .ok (.getfield 126, 3) := by decide +kernel
theorem dX12_nextToken_60 : decode cX12_nextToken 60 = .ok (.aload_n 0, 1) := by decide +kernel
theorem dX12_nextToken_61 : decode cX12_nextToken 61 = .ok (.getfield 121, 3) := by decide +kernel
theorem dX12_nextToken_64 : decode cX12_nextToken 64 = .ok (.if_icmp .ne 13, 3) := by decide +kernel
theorem dX12_nextToken_67 : decode cX12_nextToken 67 = .ok (.aload_n 0, 1) := by decide +kernel
theorem dX12_nextToken_68 : decode cX12_nextToken 68 = .ok (.ldc2_w 138, 3) := by decide +kernel
theorem dX12_nextToken_71 : decode cX12_nextToken 71 = .ok (.putfield 140, 3) := by decide +kernel
theorem dX12_nextToken_74 : decode cX12_nextToken 74 = .ok (.goto 277, 3) := by decide +kernel
theorem dX12_nextToken_77 : decode cX12_nextToken 77 = .ok (.aload_n 0, 1) := by decide +kernel
theorem dX12_nextToken_78 : decode cX12_nextToken 78 = .ok (.getfield 31, 3) := by decide +kernel
theorem dX12_nextToken_81 : decode cX12_nextToken 81 = .ok (.aload_n 0, 1) := by decide +kernel
theorem dX12_nextToken_82 : decode cX12_nextToken 82 = .ok (.getfield 126, 3) := by decide +kernel
theorem dX12_nextToken_85 : decode cX12_nextToken 85 = .ok (.iaload, 1) := by decide +kernel
theorem dX12_nextToken_86 : decode cX12_nextToken 86 = .ok (.bipush 97, 2) := by decide +kernel
theorem dX12_nextToken_88 : decode cX12_nextToken 88 = .ok (.bipush 122, 2) := by decide +kernel
theorem dX12_nextToken_90 : decode cX12_nextToken 90 = .ok (.invokestatic 102, 3) := by decide +kernel
theorem dX12_nextToken_93 : decode cX12_nextToken 93 = .ok (.ifCond .eq 129, 3) := by decide +kernel
theorem dX12_nextToken_96 : decode cX12_nextToken 96 = .ok (.aload_n 0, 1) := by decide +kernel
theorem dX12_nextToken_97 : decode cX12_nextToken 97 = .ok (.lconst 0, 1) := by decide +kernel
theorem dX12_nextToken_98 : decode cX12_nextToken 98 = .ok (.putfield 140, 3) := by decide +kernel
theorem dX12_nextToken_101 : decode cX12_nextToken 101 = .ok (.aload_n 0, 1) := by decide +kernel
theorem dX12_nextToken_102 : decode cX12_nextToken 102 = .ok (.getfield 126, 3) := by decide +kernel
theorem dX12_nextToken_105 : decode cX12_nextToken 105 = .ok (.aload_n 0, 1) := by decide +kernel
theorem dX12_nextToken_106 : decode cX12_nextToken 106 = .ok (.getfield 121, 3) := by decide +kernel
theorem dX12_nextToken_109 : decode cX12_nextToken 109 = .ok (.if_icmp .ge 82, 3) := by decide +kernel
theorem dX12_nextToken_112 : decode cX12_nextToken 112 = .ok (.aload_n 0, 1) := by decide +kernel
theorem dX12_nextToken_113 : decode cX12_nextToken 113 = .ok (.getfield 31, 3) := by decide +kernel
theorem dX12_nextToken_116 : decode cX12_nextToken 116 = .ok (.aload_n 0, 1) := by decide +kernel
theorem dX12_nextToken_117 : decode cX12_nextToken 117 = .ok (.getfield 126, 3) := by decide +kernel
theorem dX12_nextToken_120 : decode cX12_nextToken 120 = .ok (.iaload, 1) := by decide +kernel
theorem dX12_nextToken_121 : decode cX12_nextToken 121 = .ok (.bipush 97, 2) := by decide +kernel
theorem dX12_nextToken_123 : decode cX12_nextToken 123 = .ok (.bipush 122, 2) := by decide +kernel
theorem dX12_nextToken_125 : decode cX12_nextToken 125 = .ok (.invokestatic 102, 3) := by decide +kernel
theorem dX12_nextToken_128 : decode cX12_nextToken 128 = .ok (.ifCond .eq 63, 3) := by decide +kernel
theorem dX12_nextToken_131 : decode cX12_nextToken 131 = .ok (.aload_n 0, 1) := by decide +kernel
theorem dX12_nextToken_132 : decode cX12_nextToken 132 = .ok (.aload_n 0, 1) := by decide +kernel
theorem dX12_nextToken_133 : decode cX12_nextToken 133 = .ok (.getfield 126, 3) := by decide +kernel
theorem dX12_nextToken_136 : decode cX12_nextToken 136 = .ok (.aload_n 0, 1) := by decide +kernel
theorem dX12_nextToken_137 : decode cX12_nextToken 137 = .ok (.getfield 129, 3) := by decide +kernel
theorem dX12_nextToken_140 : decode cX12_nextToken 140 = .ok (.isub, 1) := by decide +kernel
theorem dX12_nextToken_141 : decode cX12_nextToken 141 = .ok (.bipush 9, 2) := by decide +kernel
theorem dX12_nextToken_143 : decode cX12_nextToken 143 = .ok (.if_icmp .ge 29, 3) := by decide +kernel
theorem dX12_nextToken_146 : decode cX12_nextToken 146 = .ok (.ldc2_w 144, 3) := by decide +kernel
theorem dX12_nextToken_149 : decode cX12_nextToken 149 = .ok (.aload_n 0, 1) := by decide +kernel
theorem dX12_nextToken_150 : decode cX12_nextToken 150 = .ok (.getfield 140, 3) := by decide +kernel
theorem dX12_nextToken_153 : decode cX12_nextToken 153 = .ok (.lmul, 1) := by decide +kernel
theorem dX12_nextToken_154 : decode cX12_nextToken 154 = .ok (.aload_n 0, 1) := by decide +kernel
theorem dX12_nextToken_155 : decode cX12_nextToken 155 = .ok (.getfield 31, 3) := by decide +kernel
theorem dX12_nextToken_158 : decode cX12_nextToken 158 = .ok (.aload_n 0, 1) := by decide +kernel
theorem dX12_nextToken_159 : decode cX12_nextToken 159 = .ok (.getfield 126, 3) := by decide +kernel
theorem dX12_nextToken_162 : decode cX12_nextToken 162 = .ok (.iaload, 1) := by decide +kernel
theorem dX12_nextToken_163 : decode cX12_nextToken 163 = .ok (.i2l, 1) := by decide +kernel
theorem dX12_nextToken_164 : decode cX12_nextToken 164 = .ok (.ladd, 1) := by decide +kernel
theorem dX12_nextToken_165 : decode cX12_nextToken 165 = .ok (.ldc2_w 146, 3) := by decide +kernel
theorem dX12_nextToken_168 : decode cX12_nextToken 168 = .ok (.lsub, 1) := by decide +kernel
theorem dX12_nextToken_169 : decode cX12_nextToken 169 = .ok (.goto 6, 3) := by decide +kernel
theorem dX12_nextToken_172 : decode cX12_nextToken 172 = .ok (.ldc2_w 148, 3) := by decide +kernel
theorem dX12_nextToken_175 : decode cX12_nextToken 175 = .ok (.putfield 140, 3) := by decide +kernel
theorem dX12_nextToken_178 : decode cX12_nextToken 178 = .ok (.aload_n 0, 1) := by decide +kernel
theorem dX12_nextToken_179 : decode cX12_nextToken 179 = .ok (.dup, 1) := by decide +kernel
theorem dX12_nextToken_180 : decode cX12_nextToken 180 = .ok (.getfield 126, 3) := by decide +kernel
theorem dX12_nextToken_183 : decode cX12_nextToken 183 = .ok (.iconst 1, 1) := by decide +kernel
theorem dX12_nextToken_184 : decode cX12_nextToken 184 = .ok (.iadd, 1) := by decide +kernel
theorem dX12_nextToken_185 : decode cX12_nextToken 185 = .ok (.putfield 126, 3) := by decide +kernel
theorem dX12_nextToken_188 : decode cX12_nextToken 188 = .ok (.goto (-87), 3) := by decide +kernel
theorem dX12_nextToken_191 : decode cX12_nextToken 191 = .ok (.aload_n 0, 1) := by decide +kernel
theorem dX12_nextToken_192 : decode cX12_nextToken 192 = .ok (.aload_n 0, 1) := by decide +kernel
theorem dX12_nextToken_193 : decode cX12_nextToken 193 = .ok (.getfield 126, 3) := by decide +kernel
theorem dX12_nextToken_196 : decode cX12_nextToken 196 = .ok (.aload_n 0, 1) := by decide +kernel
theorem dX12_nextToken_197 : decode cX12_nextToken 197 = .ok (.getfield 129, 3) := by decide +kernel
theorem dX12_nextToken_200 : decode cX12_nextToken 200 = .ok (.isub, 1) := by decide +kernel
theorem dX12_nextToken_201 : decode cX12_nextToken 201 = .ok (.bipush 9, 2) := by decide +kernel
theorem dX12_nextToken_203 : decode cX12_nextToken 203 = .ok (.if_icmp .le 9, 3) := by decide +kernel
theorem dX12_nextToken_206 : decode cX12_nextToken 206 = .ok (.ldc2_w 148, 3) := by decide +kernel
theorem dX12_nextToken_209 : decode cX12_nextToken 209 = .ok (.goto 7, 3) := by decide +kernel
theorem dX12_nextToken_212 : decode cX12_nextToken 212 = .ok (.aload_n 0, 1) := by decide +kernel
theorem dX12_nextToken_213 : decode cX12_nextToken 213 = .ok (.getfield 140, 3) := by decide +kernel
theorem dX12_nextToken_216 : decode cX12_nextToken 216 = .ok (.putfield 140, 3) := by decide +kernel
theorem dX12_nextToken_219 : decode cX12_nextToken 219 = .ok (.goto 132, 3) := by decide +kernel
theorem dX12_nextToken_222 : decode cX12_nextToken 222 = .ok (.aload_n 0, 1) := by decide +kernel
theorem dX12_nextToken_223 : decode cX12_nextToken 223 = .ok (.getfield 31, 3) := by decide +kernel
theorem dX12_nextToken_226 : decode cX12_nextToken 226 = .ok (.aload_n 0, 1) := by decide +kernel
theorem dX12_nextToken_227 : decode cX12_nextToken 227 = .ok (.getfield 126, 3) := by decide +kernel
theorem dX12_nextToken_230 : decode cX12_nextToken 230 = .ok (.iaload, 1) := by decide +kernel
theorem dX12_nextToken_231 : decode cX12_nextToken 231 = .ok (.bipush 48, 2) := by decide +kernel
theorem dX12_nextToken_233 : decode cX12_nextToken 233 = .ok (.bipush 57, 2) := by decide +kernel
theorem dX12_nextToken_235 : decode cX12_nextToken 235 = .ok (.invokestatic 102, 3) := by decide +kernel
theorem dX12_nextToken_238 : decode cX12_nextToken 238 = .ok (.ifCond .eq 96, 3) := by decide +kernel
theorem dX12_nextToken_241 : decode cX12_nextToken 241 = .ok (.aload_n 0, 1) := by decide +kernel
theorem dX12_nextToken_242 : decode cX12_nextToken 242 = .ok (.getfield 126, 3) := by decide +kernel
theorem dX12_nextToken_245 : decode cX12_nextToken 245 = .ok (.aload_n 0, 1) := by decide +kernel
theorem dX12_nextToken_246 : decode cX12_nextToken 246 = .ok (.getfield 121, 3) := by decide +kernel
theorem dX12_nextToken_249 : decode cX12_nextToken 249 = .ok (.if_icmp .ge 61, 3) := by decide +kernel
theorem dX12_nextToken_252 : decode cX12_nextToken 252 = .ok (.aload_n 0, 1) := by decide +kernel
theorem dX12_nextToken_253 : decode cX12_nextToken 253 = .ok (.getfield 31, 3) := by decide +kernel
theorem dX12_nextToken_256 : decode cX12_nextToken 256 = .ok (.aload_n 0, 1) := by decide +kernel
theorem dX12_nextToken_257 : decode cX12_nextToken 257 = .ok (.getfield 126, 3) := by decide +kernel
theorem dX12_nextToken_260 : decode cX12_nextToken 260 = .ok (.iaload, 1) := by decide +kernel
theorem dX12_nextToken_261 : decode cX12_nextToken 261 = .ok (.bipush 48, 2) := by decide +kernel
theorem dX12_nextToken_263 : decode cX12_nextToken 263 = .ok (.bipush 57, 2) := by decide +kernel
theorem dX12_nextToken_265 : decode cX12_nextToken 265 = .ok (.invokestatic 102, 3) := by decide +kernel
theorem dX12_nextToken_268 : decode cX12_nextToken 268 = .ok (.ifCond .eq 42, 3) := by decide +kernel
theorem dX12_nextToken_271 : decode cX12_nextToken 271 = .ok (.aload_n 0, 1) := by decide +kernel
theorem dX12_nextToken_272 : decode cX12_nextToken 272 = .ok (.aload_n 0, 1) := by decide +kernel
theorem dX12_nextToken_273 : decode cX12_nextToken 273 = .ok (.getfield 31, 3) := by decide +kernel
theorem dX12_nextToken_276 : decode cX12_nextToken 276 = .ok (.aload_n 0, 1) := by decide +kernel
theorem dX12_nextToken_277 : decode cX12_nextToken 277 = .ok (.getfield 126, 3) := by decide +kernel
theorem dX12_nextToken_280 : decode cX12_nextToken 280 = .ok (.iaload, 1) := by decide +kernel
theorem dX12_nextToken_281 : decode cX12_nextToken 281 = .ok (.bipush 48, 2) := by decide +kernel
theorem dX12_nextToken_283 : decode cX12_nextToken 283 = .ok (.isub, 1) := by decide +kernel
theorem dX12_nextToken_284 : decode cX12_nextToken 284 = .ok (.putfield 135, 3) := by decide +kernel
theorem dX12_nextToken_287 : decode cX12_nextToken 287 = .ok (.aload_n 0, 1) := by decide +kernel
theorem dX12_nextToken_288 : decode cX12_nextToken 288 = .ok (.dup, 1) := by decide +kernel
theorem dX12_nextToken_289 : decode cX12_nextToken 289 = .ok (.getfield 132, 3) := by decide +kernel
theorem dX12_nextToken_292 : decode cX12_nextToken 292 = .ok (.iconst 1, 1) := by decide +kernel
theorem dX12_nextToken_293 : decode cX12_nextToken 293 = .ok (.iadd, 1) := by decide +kernel
theorem dX12_nextToken_294 : decode cX12_nextToken 294 = .ok (.putfield 132, 3) := by decide +kernel
theorem dX12_nextToken_297 : decode cX12_nextToken 297 = .ok (.aload_n 0, 1) := by decide +kernel
theorem dX12_nextToken_298 : decode cX12_nextToken 298 = .ok (.dup, 1) := by decide +kernel
theorem dX12_nextToken_299 : decode cX12_nextToken 299 = .ok (.getfield 126, 3) := by decide +kernel
theorem dX12_nextToken_302 : decode cX12_nextToken 302 = .ok (.iconst 1, 1) := by decide +kernel
theorem dX12_nextToken_303 : decode cX12_nextToken 303 = .ok (.iadd, 1) := by decide +kernel
theorem dX12_nextToken_304 : decode cX12_nextToken 304 = .ok (.putfield 126, 3) := by decide +kernel
theorem dX12_nextToken_307 : decode cX12_nextToken 307 = .ok (.goto (-66), 3) := by decide +kernel
theorem dX12_nextToken_310 : decode cX12_nextToken 310 = .ok (.aload_n 0, 1) := by decide +kernel
theorem dX12_nextToken_311 : decode cX12_nextToken 311 = .ok (.aload_n 0, 1) := by decide +kernel
theorem dX12_nextToken_312 : decode cX12_nextToken 312 = .ok (.getfield 132, 3) := by decide +kernel
theorem dX12_nextToken_315 : decode cX12_nextToken 315 = .ok (.iconst 1, 1) := by decide +kernel
theorem dX12_nextToken_316 : decode cX12_nextToken 316 = .ok (.if_icmp .le 9, 3) := by decide +kernel
theorem dX12_nextToken_319 : decode cX12_nextToken 319 = .ok (.ldc2_w 148, 3) := by decide +kernel
theorem dX12_nextToken_322 : decode cX12_nextToken 322 = .ok (.goto 6, 3) := by decide +kernel
theorem dX12_nextToken_325 : decode cX12_nextToken 325 = .ok (.ldc2_w 150, 3) := by decide +kernel
theorem dX12_nextToken_328 : decode cX12_nextToken 328 = .ok (.putfield 140, 3) := by decide +kernel
theorem dX12_nextToken_331 : decode cX12_nextToken 331 = .ok (.goto 20, 3) := by decide +kernel
theorem dX12_nextToken_334 : decode cX12_nextToken 334 = .ok (.aload_n 0, 1) := by decide +kernel
theorem dX12_nextToken_335 : decode cX12_nextToken 335 = .ok (.ldc2_w 148, 3) := by decide +kernel
theorem dX12_nextToken_338 : decode cX12_nextToken 338 = .ok (.putfield 140, 3) := by decide +kernel
theorem dX12_nextToken_341 : decode cX12_nextToken 341 = .ok (.aload_n 0, 1) := by decide +kernel
theorem dX12_nextToken_342 : decode cX12_nextToken 342 = .ok (.dup, 1) := by decide +kernel
theorem dX12_nextToken_343 : decode cX12_nextToken 343 = .ok (.getfield 126, 3) := by decide +kernel
theorem dX12_nextToken_346 : decode cX12_nextToken 346 = .ok (.iconst 1, 1) := by decide +kernel
theorem dX12_nextToken_347 : decode cX12_nextToken 347 = .ok (.iadd, 1) := by decide +kernel
theorem dX12_nextToken_348 : decode cX12_nextToken 348 = .ok (.putfield 126, 3) := by decide +kernel
theorem dX12_nextToken_351 : decode cX12_nextToken 351 = .ok (.return_, 1) := by decide +kernel
theorem dX12_fails_0 : decode cX12_fails 0 = .ok (.aload_n 0, 1) := by decide +kernel
theorem dX12_fails_1 : decode cX12_fails 1 = .ok (.aload_n 0, 1) := by decide +kernel
theorem dX12_fails_2 : decode cX12_fails 2 = .ok (.getfield 129, 3) := by decide +kernel
theorem dX12_fails_5 : decode cX12_fails 5 = .ok (.putfield 152, 3) := by decide +kernel
theorem dX12_fails_8 : decode cX12_fails 8 = .ok (.iconst 0, 1) := by decide +kernel
theorem dX12_fails_9 : decode cX12_fails 9 = .ok (.ireturn, 1) := by decide +kernel
theorem dX12_wordTold_0 : decode cX12_wordTold 0 = .ok (.aload_n 0, 1) := by decide +kernel
theorem dX12_wordTold_1 : decode cX12_wordTold 1 = .ok (.getfield 140, 3) := by decide +kernel
theorem dX12_wordTold_4 : decode cX12_wordTold 4 = .ok (.lstore_n 1, 1) := by decide +kernel
theorem dX12_wordTold_5 : decode cX12_wordTold 5 = .ok (.lload_n 1, 1) := by decide +kernel
theorem dX12_wordTold_6 : decode cX12_wordTold 6 = .ok (.ldc2_w 155, 3) := by decide +kernel
theorem dX12_wordTold_9 : decode cX12_wordTold 9 = .ok (.lcmp, 1) := by decide +kernel
theorem dX12_wordTold_10 : decode cX12_wordTold 10 = .ok (.ifCond .ne 7, 3) := by decide +kernel
theorem dX12_wordTold_13 : decode cX12_wordTold 13 = .ok (.iconst 0, 1) := by decide +kernel
theorem dX12_wordTold_14 : decode cX12_wordTold 14 = .ok (.goto 90, 3) := by decide +kernel
theorem dX12_wordTold_17 : decode cX12_wordTold 17 = .ok (.lload_n 1, 1) := by decide +kernel
theorem dX12_wordTold_18 : decode cX12_wordTold 18 = .ok (.ldc2_w 157, 3) := by decide +kernel
theorem dX12_wordTold_21 : decode cX12_wordTold 21 = .ok (.lcmp, 1) := by decide +kernel
theorem dX12_wordTold_22 : decode cX12_wordTold 22 = .ok (.ifCond .ne 7, 3) := by decide +kernel
theorem dX12_wordTold_25 : decode cX12_wordTold 25 = .ok (.iconst 1, 1) := by decide +kernel
theorem dX12_wordTold_26 : decode cX12_wordTold 26 = .ok (.goto 78, 3) := by decide +kernel
theorem dX12_wordTold_29 : decode cX12_wordTold 29 = .ok (.lload_n 1, 1) := by decide +kernel
theorem dX12_wordTold_30 : decode cX12_wordTold 30 = .ok (.ldc2_w 159, 3) := by decide +kernel
theorem dX12_wordTold_33 : decode cX12_wordTold 33 = .ok (.lcmp, 1) := by decide +kernel
theorem dX12_wordTold_34 : decode cX12_wordTold 34 = .ok (.ifCond .ne 7, 3) := by decide +kernel
theorem dX12_wordTold_37 : decode cX12_wordTold 37 = .ok (.iconst 2, 1) := by decide +kernel
theorem dX12_wordTold_38 : decode cX12_wordTold 38 = .ok (.goto 66, 3) := by decide +kernel
theorem dX12_wordTold_41 : decode cX12_wordTold 41 = .ok (.lload_n 1, 1) := by decide +kernel
theorem dX12_wordTold_42 : decode cX12_wordTold 42 = .ok (.ldc2_w 161, 3) := by decide +kernel
theorem dX12_wordTold_45 : decode cX12_wordTold 45 = .ok (.lcmp, 1) := by decide +kernel
theorem dX12_wordTold_46 : decode cX12_wordTold 46 = .ok (.ifCond .ne 7, 3) := by decide +kernel
theorem dX12_wordTold_49 : decode cX12_wordTold 49 = .ok (.iconst 3, 1) := by decide +kernel
theorem dX12_wordTold_50 : decode cX12_wordTold 50 = .ok (.goto 54, 3) := by decide +kernel
theorem dX12_wordTold_53 : decode cX12_wordTold 53 = .ok (.lload_n 1, 1) := by decide +kernel
theorem dX12_wordTold_54 : decode cX12_wordTold 54 = .ok (.ldc2_w 163, 3) := by decide +kernel
theorem dX12_wordTold_57 : decode cX12_wordTold 57 = .ok (.lcmp, 1) := by decide +kernel
theorem dX12_wordTold_58 : decode cX12_wordTold 58 = .ok (.ifCond .ne 7, 3) := by decide +kernel
theorem dX12_wordTold_61 : decode cX12_wordTold 61 = .ok (.iconst 4, 1) := by decide +kernel
theorem dX12_wordTold_62 : decode cX12_wordTold 62 = .ok (.goto 42, 3) := by decide +kernel
theorem dX12_wordTold_65 : decode cX12_wordTold 65 = .ok (.lload_n 1, 1) := by decide +kernel
theorem dX12_wordTold_66 : decode cX12_wordTold 66 = .ok (.ldc2_w 165, 3) := by decide +kernel
theorem dX12_wordTold_69 : decode cX12_wordTold 69 = .ok (.lcmp, 1) := by decide +kernel
theorem dX12_wordTold_70 : decode cX12_wordTold 70 = .ok (.ifCond .ne 7, 3) := by decide +kernel
theorem dX12_wordTold_73 : decode cX12_wordTold 73 = .ok (.iconst 5, 1) := by decide +kernel
theorem dX12_wordTold_74 : decode cX12_wordTold 74 = .ok (.goto 30, 3) := by decide +kernel
theorem dX12_wordTold_77 : decode cX12_wordTold 77 = .ok (.lload_n 1, 1) := by decide +kernel
theorem dX12_wordTold_78 : decode cX12_wordTold 78 = .ok (.ldc2_w 167, 3) := by decide +kernel
theorem dX12_wordTold_81 : decode cX12_wordTold 81 = .ok (.lcmp, 1) := by decide +kernel
theorem dX12_wordTold_82 : decode cX12_wordTold 82 = .ok (.ifCond .ne 8, 3) := by decide +kernel
theorem dX12_wordTold_85 : decode cX12_wordTold 85 = .ok (.bipush 6, 2) := by decide +kernel
theorem dX12_wordTold_87 : decode cX12_wordTold 87 = .ok (.goto 17, 3) := by decide +kernel
theorem dX12_wordTold_90 : decode cX12_wordTold 90 = .ok (.lload_n 1, 1) := by decide +kernel
theorem dX12_wordTold_91 : decode cX12_wordTold 91 = .ok (.ldc2_w 169, 3) := by decide +kernel
theorem dX12_wordTold_94 : decode cX12_wordTold 94 = .ok (.lcmp, 1) := by decide +kernel
theorem dX12_wordTold_95 : decode cX12_wordTold 95 = .ok (.ifCond .ne 8, 3) := by decide +kernel
theorem dX12_wordTold_98 : decode cX12_wordTold 98 = .ok (.bipush 7, 2) := by decide +kernel
theorem dX12_wordTold_100 : decode cX12_wordTold 100 = .ok (.goto 4, 3) := by decide +kernel
theorem dX12_wordTold_103 : decode cX12_wordTold 103 = .ok (.iconst (-1), 1) := by decide +kernel
theorem dX12_wordTold_104 : decode cX12_wordTold 104 = .ok (.istore_n 3, 1) := by decide +kernel
theorem dX12_wordTold_105 : decode cX12_wordTold 105 = .ok (.lload_n 1, 1) := by decide +kernel
theorem dX12_wordTold_106 : decode cX12_wordTold 106 = .ok (.ldc2_w 171, 3) := by decide +kernel
theorem dX12_wordTold_109 : decode cX12_wordTold 109 = .ok (.lcmp, 1) := by decide +kernel
theorem dX12_wordTold_110 : decode cX12_wordTold 110 = .ok (.ifCond .ne 8, 3) := by decide +kernel
theorem dX12_wordTold_113 : decode cX12_wordTold 113 = .ok (.bipush 8, 2) := by decide +kernel
theorem dX12_wordTold_115 : decode cX12_wordTold 115 = .ok (.goto 82, 3) := by decide +kernel
theorem dX12_wordTold_118 : decode cX12_wordTold 118 = .ok (.lload_n 1, 1) := by decide +kernel
theorem dX12_wordTold_119 : decode cX12_wordTold 119 = .ok (.ldc2_w 173, 3) := by decide +kernel
theorem dX12_wordTold_122 : decode cX12_wordTold 122 = .ok (.lcmp, 1) := by decide +kernel
theorem dX12_wordTold_123 : decode cX12_wordTold 123 = .ok (.ifCond .ne 8, 3) := by decide +kernel
theorem dX12_wordTold_126 : decode cX12_wordTold 126 = .ok (.bipush 9, 2) := by decide +kernel
theorem dX12_wordTold_128 : decode cX12_wordTold 128 = .ok (.goto 69, 3) := by decide +kernel
theorem dX12_wordTold_131 : decode cX12_wordTold 131 = .ok (.lload_n 1, 1) := by decide +kernel
theorem dX12_wordTold_132 : decode cX12_wordTold 132 = .ok (.ldc2_w 175, 3) := by decide +kernel
theorem dX12_wordTold_135 : decode cX12_wordTold 135 = .ok (.lcmp, 1) := by decide +kernel
theorem dX12_wordTold_136 : decode cX12_wordTold 136 = .ok (.ifCond .ne 8, 3) := by decide +kernel
theorem dX12_wordTold_139 : decode cX12_wordTold 139 = .ok (.bipush 10, 2) := by decide +kernel
theorem dX12_wordTold_141 : decode cX12_wordTold 141 = .ok (.goto 56, 3) := by decide +kernel
theorem dX12_wordTold_144 : decode cX12_wordTold 144 = .ok (.lload_n 1, 1) := by decide +kernel
theorem dX12_wordTold_145 : decode cX12_wordTold 145 = .ok (.ldc2_w 177, 3) := by decide +kernel
theorem dX12_wordTold_148 : decode cX12_wordTold 148 = .ok (.lcmp, 1) := by decide +kernel
theorem dX12_wordTold_149 : decode cX12_wordTold 149 = .ok (.ifCond .ne 8, 3) := by decide +kernel
theorem dX12_wordTold_152 : decode cX12_wordTold 152 = .ok (.bipush 11, 2) := by decide +kernel
theorem dX12_wordTold_154 : decode cX12_wordTold 154 = .ok (.goto 43, 3) := by decide +kernel
theorem dX12_wordTold_157 : decode cX12_wordTold 157 = .ok (.lload_n 1, 1) := by decide +kernel
theorem dX12_wordTold_158 : decode cX12_wordTold 158 = .ok (.ldc2_w 179, 3) := by decide +kernel
theorem dX12_wordTold_161 : decode cX12_wordTold 161 = .ok (.lcmp, 1) := by decide +kernel
theorem dX12_wordTold_162 : decode cX12_wordTold 162 = .ok (.ifCond .ne 8, 3) := by decide +kernel
theorem dX12_wordTold_165 : decode cX12_wordTold 165 = .ok (.bipush 12, 2) := by decide +kernel
theorem dX12_wordTold_167 : decode cX12_wordTold 167 = .ok (.goto 30, 3) := by decide +kernel
theorem dX12_wordTold_170 : decode cX12_wordTold 170 = .ok (.lload_n 1, 1) := by decide +kernel
theorem dX12_wordTold_171 : decode cX12_wordTold 171 = .ok (.ldc2_w 181, 3) := by decide +kernel
theorem dX12_wordTold_174 : decode cX12_wordTold 174 = .ok (.lcmp, 1) := by decide +kernel
theorem dX12_wordTold_175 : decode cX12_wordTold 175 = .ok (.ifCond .ne 8, 3) := by decide +kernel
theorem dX12_wordTold_178 : decode cX12_wordTold 178 = .ok (.bipush 13, 2) := by decide +kernel
theorem dX12_wordTold_180 : decode cX12_wordTold 180 = .ok (.goto 17, 3) := by decide +kernel
theorem dX12_wordTold_183 : decode cX12_wordTold 183 = .ok (.lload_n 1, 1) := by decide +kernel
theorem dX12_wordTold_184 : decode cX12_wordTold 184 = .ok (.ldc2_w 183, 3) := by decide +kernel
theorem dX12_wordTold_187 : decode cX12_wordTold 187 = .ok (.lcmp, 1) := by decide +kernel
theorem dX12_wordTold_188 : decode cX12_wordTold 188 = .ok (.ifCond .ne 8, 3) := by decide +kernel
theorem dX12_wordTold_191 : decode cX12_wordTold 191 = .ok (.bipush 14, 2) := by decide +kernel
theorem dX12_wordTold_193 : decode cX12_wordTold 193 = .ok (.goto 4, 3) := by decide +kernel
theorem dX12_wordTold_196 : decode cX12_wordTold 196 = .ok (.iconst (-1), 1) := by decide +kernel
theorem dX12_wordTold_197 : decode cX12_wordTold 197 = .ok (.istore 4, 2) := by decide +kernel
theorem dX12_wordTold_199 : decode cX12_wordTold 199 = .ok (.iload_n 3, 1) := by decide +kernel
theorem dX12_wordTold_200 : decode cX12_wordTold 200 = .ok (.iconst (-1), 1) := by decide +kernel
theorem dX12_wordTold_201 : decode cX12_wordTold 201 = .ok (.if_icmp .ne 8, 3) := by decide +kernel
theorem dX12_wordTold_204 : decode cX12_wordTold 204 = .ok (.iload 4, 2) := by decide +kernel
theorem dX12_wordTold_206 : decode cX12_wordTold 206 = .ok (.goto 4, 3) := by decide +kernel
theorem dX12_wordTold_209 : decode cX12_wordTold 209 = .ok (.iload_n 3, 1) := by decide +kernel
theorem dX12_wordTold_210 : decode cX12_wordTold 210 = .ok (.ireturn, 1) := by decide +kernel
theorem dX12_needs_0 : decode cX12_needs 0 = .ok (.iload_n 0, 1) := by decide +kernel
theorem dX12_needs_1 : decode cX12_needs 1 = .ok (.iconst 4, 1) := by decide +kernel
theorem dX12_needs_2 : decode cX12_needs 2 = .ok (.if_icmp .ge 7, 3) := by decide +kernel
theorem dX12_needs_5 : decode cX12_needs 5 = .ok (.iconst 0, 1) := by decide +kernel
theorem dX12_needs_6 : decode cX12_needs 6 = .ok (.goto 19, 3) := by decide +kernel
theorem dX12_needs_9 : decode cX12_needs 9 = .ok (.iload_n 0, 1) := by decide +kernel
theorem dX12_needs_10 : decode cX12_needs 10 = .ok (.iconst 4, 1) := by decide +kernel
theorem dX12_needs_11 : decode cX12_needs 11 = .ok (.if_icmp .le 13, 3) := by decide +kernel
theorem dX12_needs_14 : decode cX12_needs 14 = .ok (.iload_n 0, 1) := by decide +kernel
theorem dX12_needs_15 : decode cX12_needs 15 = .ok (.bipush 8, 2) := by decide +kernel
theorem dX12_needs_17 : decode cX12_needs 17 = .ok (.if_icmp .ge 7, 3) := by decide +kernel
theorem dX12_needs_20 : decode cX12_needs 20 = .ok (.iconst 2, 1) := by decide +kernel
theorem dX12_needs_21 : decode cX12_needs 21 = .ok (.goto 4, 3) := by decide +kernel
theorem dX12_needs_24 : decode cX12_needs 24 = .ok (.iconst 1, 1) := by decide +kernel
theorem dX12_needs_25 : decode cX12_needs 25 = .ok (.ireturn, 1) := by decide +kernel
theorem dX12_isRead_0 : decode cX12_isRead 0 = .ok (.aload_n 0, 1) := by decide +kernel
theorem dX12_isRead_1 : decode cX12_isRead 1 = .ok (.iconst 0, 1) := by decide +kernel
theorem dX12_isRead_2 : decode cX12_isRead 2 = .ok (.putfield 126, 3) := by decide +kernel
theorem dX12_isRead_5 : decode cX12_isRead 5 = .ok (.aload_n 0, 1) := by decide +kernel
theorem dX12_isRead_6 : decode cX12_isRead 6 = .ok (.iconst 0, 1) := by decide +kernel
theorem dX12_isRead_7 : decode cX12_isRead 7 = .ok (.putfield 185, 3) := by decide +kernel
theorem dX12_isRead_10 : decode cX12_isRead 10 = .ok (.iconst 1, 1) := by decide +kernel
theorem dX12_isRead_11 : decode cX12_isRead 11 = .ok (.istore_n 1, 1) := by decide +kernel
theorem dX12_isRead_12 : decode cX12_isRead 12 = .ok (.iload_n 1, 1) := by decide +kernel
theorem dX12_isRead_13 : decode cX12_isRead 13 = .ok (.ifCond .le 138, 3) := by decide +kernel
theorem dX12_isRead_16 : decode cX12_isRead 16 = .ok (.aload_n 0, 1) := by decide +kernel
theorem dX12_isRead_17 : decode cX12_isRead 17 = .ok (.invokevirtual 188, 3) := by decide +kernel
theorem dX12_isRead_20 : decode cX12_isRead 20 = .ok (.aload_n 0, 1) := by decide +kernel
theorem dX12_isRead_21 : decode cX12_isRead 21 = .ok (.invokevirtual 191, 3) := by decide +kernel
theorem dX12_isRead_24 : decode cX12_isRead 24 = .ok (.istore_n 2, 1) := by decide +kernel
theorem dX12_isRead_25 : decode cX12_isRead 25 = .ok (.iload_n 2, 1) := by decide +kernel
theorem dX12_isRead_26 : decode cX12_isRead 26 = .ok (.iconst (-1), 1) := by decide +kernel
theorem dX12_isRead_27 : decode cX12_isRead 27 = .ok (.if_icmp .eq 12, 3) := by decide +kernel
theorem dX12_isRead_30 : decode cX12_isRead 30 = .ok (.aload_n 0, 1) := by decide +kernel
theorem dX12_isRead_31 : decode cX12_isRead 31 = .ok (.getfield 185, 3) := by decide +kernel
theorem dX12_isRead_34 : decode cX12_isRead 34 = .ok (.bipush 24, 2) := by decide +kernel
theorem dX12_isRead_36 : decode cX12_isRead 36 = .ok (.if_icmp .ne 8, 3) := by decide +kernel
theorem dX12_isRead_39 : decode cX12_isRead 39 = .ok (.aload_n 0, 1) := by decide +kernel
theorem dX12_isRead_40 : decode cX12_isRead 40 = .ok (.invokevirtual 194, 3) := by decide +kernel
theorem dX12_isRead_43 : decode cX12_isRead 43 = .ok (.ireturn, 1) := by decide +kernel
theorem dX12_isRead_44 : decode cX12_isRead 44 = .ok (.aload_n 0, 1) := by decide +kernel
theorem dX12_isRead_45 : decode cX12_isRead 45 = .ok (.getfield 34, 3) := by decide +kernel
theorem dX12_isRead_48 : decode cX12_isRead 48 = .ok (.aload_n 0, 1) := by decide +kernel
theorem dX12_isRead_49 : decode cX12_isRead 49 = .ok (.getfield 185, 3) := by decide +kernel
theorem dX12_isRead_52 : decode cX12_isRead 52 = .ok (.iload_n 2, 1) := by decide +kernel
theorem dX12_isRead_53 : decode cX12_isRead 53 = .ok (.iastore, 1) := by decide +kernel
theorem dX12_isRead_54 : decode cX12_isRead 54 = .ok (.aload_n 0, 1) := by decide +kernel
theorem dX12_isRead_55 : decode cX12_isRead 55 = .ok (.getfield 37, 3) := by decide +kernel
theorem dX12_isRead_58 : decode cX12_isRead 58 = .ok (.aload_n 0, 1) := by decide +kernel
theorem dX12_isRead_59 : decode cX12_isRead 59 = .ok (.getfield 185, 3) := by decide +kernel
theorem dX12_isRead_62 : decode cX12_isRead 62 = .ok (.iconst 0, 1) := by decide +kernel
theorem dX12_isRead_63 : decode cX12_isRead 63 = .ok (.iastore, 1) := by decide +kernel
theorem dX12_isRead_64 : decode cX12_isRead 64 = .ok (.iload_n 2, 1) := by decide +kernel
theorem dX12_isRead_65 : decode cX12_isRead 65 = .ok (.iconst 1, 1) := by decide +kernel
theorem dX12_isRead_66 : decode cX12_isRead 66 = .ok (.if_icmp .eq 13, 3) := by decide +kernel
theorem dX12_isRead_69 : decode cX12_isRead 69 = .ok (.iload_n 2, 1) := by decide +kernel
theorem dX12_isRead_70 : decode cX12_isRead 70 = .ok (.iconst 2, 1) := by decide +kernel
theorem dX12_isRead_71 : decode cX12_isRead 71 = .ok (.if_icmp .eq 8, 3) := by decide +kernel
theorem dX12_isRead_74 : decode cX12_isRead 74 = .ok (.iload_n 2, 1) := by decide +kernel
theorem dX12_isRead_75 : decode cX12_isRead 75 = .ok (.iconst 3, 1) := by decide +kernel
theorem dX12_isRead_76 : decode cX12_isRead 76 = .ok (.if_icmp .ne 53, 3) := by decide +kernel
theorem dX12_isRead_79 : decode cX12_isRead 79 = .ok (.aload_n 0, 1) := by decide +kernel
theorem dX12_isRead_80 : decode cX12_isRead 80 = .ok (.invokevirtual 188, 3) := by decide +kernel
theorem dX12_isRead_83 : decode cX12_isRead 83 = .ok (.aload_n 0, 1) := by decide +kernel
theorem dX12_isRead_84 : decode cX12_isRead 84 = .ok (.getfield 140, 3) := by decide +kernel
theorem dX12_isRead_87 : decode cX12_isRead 87 = .ok (.ldc2_w 150, 3) := by decide +kernel
theorem dX12_isRead_90 : decode cX12_isRead 90 = .ok (.lcmp, 1) := by decide +kernel
theorem dX12_isRead_91 : decode cX12_isRead 91 = .ok (.ifCond .ne 20, 3) := by decide +kernel
theorem dX12_isRead_94 : decode cX12_isRead 94 = .ok (.aload_n 0, 1) := by decide +kernel
theorem dX12_isRead_95 : decode cX12_isRead 95 = .ok (.getfield 135, 3) := by decide +kernel
theorem dX12_isRead_98 : decode cX12_isRead 98 = .ok (.iload_n 2, 1) := by decide +kernel
theorem dX12_isRead_99 : decode cX12_isRead 99 = .ok (.iconst 3, 1) := by decide +kernel
theorem dX12_isRead_100 : decode cX12_isRead 100 = .ok (.if_icmp .ne 7, 3) := by decide +kernel
theorem dX12_isRead_103 : decode cX12_isRead 103 = .ok (.iconst 2, 1) := by decide +kernel
theorem dX12_isRead_104 : decode cX12_isRead 104 = .ok (.goto 4, 3) := by decide +kernel
theorem dX12_isRead_107 : decode cX12_isRead 107 = .ok (.iconst 3, 1) := by decide +kernel
theorem dX12_isRead_108 : decode cX12_isRead 108 = .ok (.if_icmp .le 8, 3) := by decide +kernel
theorem dX12_isRead_111 : decode cX12_isRead 111 = .ok (.aload_n 0, 1) := by decide +kernel
theorem dX12_isRead_112 : decode cX12_isRead 112 = .ok (.invokevirtual 194, 3) := by decide +kernel
theorem dX12_isRead_115 : decode cX12_isRead 115 = .ok (.ireturn, 1) := by decide +kernel
theorem dX12_isRead_116 : decode cX12_isRead 116 = .ok (.aload_n 0, 1) := by decide +kernel
theorem dX12_isRead_117 : decode cX12_isRead 117 = .ok (.getfield 37, 3) := by decide +kernel
theorem dX12_isRead_120 : decode cX12_isRead 120 = .ok (.aload_n 0, 1) := by decide +kernel
theorem dX12_isRead_121 : decode cX12_isRead 121 = .ok (.getfield 185, 3) := by decide +kernel
theorem dX12_isRead_124 : decode cX12_isRead 124 = .ok (.aload_n 0, 1) := by decide +kernel
theorem dX12_isRead_125 : decode cX12_isRead 125 = .ok (.getfield 135, 3) := by decide +kernel
theorem dX12_isRead_128 : decode cX12_isRead 128 = .ok (.iastore, 1) := by decide +kernel
theorem dX12_isRead_129 : decode cX12_isRead 129 = .ok (.aload_n 0, 1) := by decide +kernel
theorem dX12_isRead_130 : decode cX12_isRead 130 = .ok (.dup, 1) := by decide +kernel
theorem dX12_isRead_131 : decode cX12_isRead 131 = .ok (.getfield 185, 3) := by decide +kernel
theorem dX12_isRead_134 : decode cX12_isRead 134 = .ok (.iconst 1, 1) := by decide +kernel
theorem dX12_isRead_135 : decode cX12_isRead 135 = .ok (.iadd, 1) := by decide +kernel
theorem dX12_isRead_136 : decode cX12_isRead 136 = .ok (.putfield 185, 3) := by decide +kernel
theorem dX12_isRead_139 : decode cX12_isRead 139 = .ok (.iload_n 1, 1) := by decide +kernel
theorem dX12_isRead_140 : decode cX12_isRead 140 = .ok (.iload_n 2, 1) := by decide +kernel
theorem dX12_isRead_141 : decode cX12_isRead 141 = .ok (.invokestatic 198, 3) := by decide +kernel
theorem dX12_isRead_144 : decode cX12_isRead 144 = .ok (.iconst 1, 1) := by decide +kernel
theorem dX12_isRead_145 : decode cX12_isRead 145 = .ok (.isub, 1) := by decide +kernel
theorem dX12_isRead_146 : decode cX12_isRead 146 = .ok (.iadd, 1) := by decide +kernel
theorem dX12_isRead_147 : decode cX12_isRead 147 = .ok (.istore_n 1, 1) := by decide +kernel
theorem dX12_isRead_148 : decode cX12_isRead 148 = .ok (.goto (-136), 3) := by decide +kernel
theorem dX12_isRead_151 : decode cX12_isRead 151 = .ok (.aload_n 0, 1) := by decide +kernel
theorem dX12_isRead_152 : decode cX12_isRead 152 = .ok (.invokevirtual 188, 3) := by decide +kernel
theorem dX12_isRead_155 : decode cX12_isRead 155 = .ok (.aload_n 0, 1) := by decide +kernel
theorem dX12_isRead_156 : decode cX12_isRead 156 = .ok (.getfield 140, 3) := by decide +kernel
theorem dX12_isRead_159 : decode cX12_isRead 159 = .ok (.ldc2_w 138, 3) := by decide +kernel
theorem dX12_isRead_162 : decode cX12_isRead 162 = .ok (.lcmp, 1) := by decide +kernel
theorem dX12_isRead_163 : decode cX12_isRead 163 = .ok (.ifCond .eq 10, 3) := by decide +kernel
theorem dX12_isRead_166 : decode cX12_isRead 166 = .ok (.aload_n 0, 1) := by decide +kernel
theorem dX12_isRead_167 : decode cX12_isRead 167 = .ok (.invokevirtual 194, 3) := by decide +kernel
theorem dX12_isRead_170 : decode cX12_isRead 170 = .ok (.ifCond .eq 7, 3) := by decide +kernel
theorem dX12_isRead_173 : decode cX12_isRead 173 = .ok (.iconst 1, 1) := by decide +kernel
theorem dX12_isRead_174 : decode cX12_isRead 174 = .ok (.goto 4, 3) := by decide +kernel
theorem dX12_isRead_177 : decode cX12_isRead 177 = .ok (.iconst 0, 1) := by decide +kernel
theorem dX12_isRead_178 : decode cX12_isRead 178 = .ok (.ireturn, 1) := by decide +kernel
theorem dX12_fault_0 : decode cX12_fault 0 = .ok (.aload_n 0, 1) := by decide +kernel
theorem dX12_fault_1 : decode cX12_fault 1 = .ok (.invokevirtual 201, 3) := by decide +kernel
theorem dX12_fault_4 : decode cX12_fault 4 = .ok (.ifCond .eq 7, 3) := by decide +kernel
theorem dX12_fault_7 : decode cX12_fault 7 = .ok (.iconst (-1), 1) := by decide +kernel
theorem dX12_fault_8 : decode cX12_fault 8 = .ok (.goto 7, 3) := by decide +kernel
theorem dX12_fault_11 : decode cX12_fault 11 = .ok (.aload_n 0, 1) := by decide +kernel
theorem dX12_fault_12 : decode cX12_fault 12 = .ok (.getfield 152, 3) := by decide +kernel
theorem dX12_fault_15 : decode cX12_fault 15 = .ok (.ireturn, 1) := by decide +kernel
theorem dX12_allOf_0 : decode cX12_allOf 0 = .ok (.iconst 0, 1) := by decide +kernel
theorem dX12_allOf_1 : decode cX12_allOf 1 = .ok (.istore_n 3, 1) := by decide +kernel
theorem dX12_allOf_2 : decode cX12_allOf 2 = .ok (.iconst 0, 1) := by decide +kernel
theorem dX12_allOf_3 : decode cX12_allOf 3 = .ok (.istore 4, 2) := by decide +kernel
theorem dX12_allOf_5 : decode cX12_allOf 5 = .ok (.iload 4, 2) := by decide +kernel
theorem dX12_allOf_7 : decode cX12_allOf 7 = .ok (.aload_n 0, 1) := by decide +kernel
theorem dX12_allOf_8 : decode cX12_allOf 8 = .ok (.getfield 98, 3) := by decide +kernel
theorem dX12_allOf_11 : decode cX12_allOf 11 = .ok (.if_icmp .ge 88, 3) := by decide +kernel
theorem dX12_allOf_14 : decode cX12_allOf 14 = .ok (.iload_n 1, 1) := by decide +kernel
theorem dX12_allOf_15 : decode cX12_allOf 15 = .ok (.ifCond .eq 55, 3) := by decide +kernel
theorem dX12_allOf_18 : decode cX12_allOf 18 = .ok (.iload_n 1, 1) := by decide +kernel
theorem dX12_allOf_19 : decode cX12_allOf 19 = .ok (.iconst 1, 1) := by decide +kernel
theorem dX12_allOf_20 : decode cX12_allOf 20 = .ok (.if_icmp .ne 14, 3) := by decide +kernel
theorem dX12_allOf_23 : decode cX12_allOf 23 = .ok (.aload_n 0, 1) := by decide +kernel
theorem dX12_allOf_24 : decode cX12_allOf 24 = .ok (.getfield 7, 3) := by decide +kernel
theorem dX12_allOf_27 : decode cX12_allOf 27 = .ok (.iload 4, 2) := by decide +kernel
theorem dX12_allOf_29 : decode cX12_allOf 29 = .ok (.iaload, 1) := by decide +kernel
theorem dX12_allOf_30 : decode cX12_allOf 30 = .ok (.iload_n 2, 1) := by decide +kernel
theorem dX12_allOf_31 : decode cX12_allOf 31 = .ok (.if_icmp .eq 39, 3) := by decide +kernel
theorem dX12_allOf_34 : decode cX12_allOf 34 = .ok (.iload_n 1, 1) := by decide +kernel
theorem dX12_allOf_35 : decode cX12_allOf 35 = .ok (.iconst 2, 1) := by decide +kernel
theorem dX12_allOf_36 : decode cX12_allOf 36 = .ok (.if_icmp .ne 14, 3) := by decide +kernel
theorem dX12_allOf_39 : decode cX12_allOf 39 = .ok (.aload_n 0, 1) := by decide +kernel
theorem dX12_allOf_40 : decode cX12_allOf 40 = .ok (.getfield 13, 3) := by decide +kernel
theorem dX12_allOf_43 : decode cX12_allOf 43 = .ok (.iload 4, 2) := by decide +kernel
theorem dX12_allOf_45 : decode cX12_allOf 45 = .ok (.iaload, 1) := by decide +kernel
theorem dX12_allOf_46 : decode cX12_allOf 46 = .ok (.iload_n 2, 1) := by decide +kernel
theorem dX12_allOf_47 : decode cX12_allOf 47 = .ok (.if_icmp .eq 23, 3) := by decide +kernel
theorem dX12_allOf_50 : decode cX12_allOf 50 = .ok (.iload_n 1, 1) := by decide +kernel
theorem dX12_allOf_51 : decode cX12_allOf 51 = .ok (.iconst 3, 1) := by decide +kernel
theorem dX12_allOf_52 : decode cX12_allOf 52 = .ok (.if_icmp .ne 22, 3) := by decide +kernel
theorem dX12_allOf_55 : decode cX12_allOf 55 = .ok (.aload_n 0, 1) := by decide +kernel
theorem dX12_allOf_56 : decode cX12_allOf 56 = .ok (.getfield 19, 3) := by decide +kernel
theorem dX12_allOf_59 : decode cX12_allOf 59 = .ok (.iload 4, 2) := by decide +kernel
theorem dX12_allOf_61 : decode cX12_allOf 61 = .ok (.iaload, 1) := by decide +kernel
theorem dX12_allOf_62 : decode cX12_allOf 62 = .ok (.iload_n 2, 1) := by decide +kernel
theorem dX12_allOf_63 : decode cX12_allOf 63 = .ok (.ishr, 1) := by decide +kernel
theorem dX12_allOf_64 : decode cX12_allOf 64 = .ok (.iconst 1, 1) := by decide +kernel
theorem dX12_allOf_65 : decode cX12_allOf 65 = .ok (.iand, 1) := by decide +kernel
theorem dX12_allOf_66 : decode cX12_allOf 66 = .ok (.iconst 1, 1) := by decide +kernel
theorem dX12_allOf_67 : decode cX12_allOf 67 = .ok (.if_icmp .ne 7, 3) := by decide +kernel
theorem dX12_allOf_70 : decode cX12_allOf 70 = .ok (.iconst 1, 1) := by decide +kernel
theorem dX12_allOf_71 : decode cX12_allOf 71 = .ok (.goto 4, 3) := by decide +kernel
theorem dX12_allOf_74 : decode cX12_allOf 74 = .ok (.iconst 0, 1) := by decide +kernel
theorem dX12_allOf_75 : decode cX12_allOf 75 = .ok (.istore 5, 2) := by decide +kernel
theorem dX12_allOf_77 : decode cX12_allOf 77 = .ok (.iload_n 3, 1) := by decide +kernel
theorem dX12_allOf_78 : decode cX12_allOf 78 = .ok (.iload 5, 2) := by decide +kernel
theorem dX12_allOf_80 : decode cX12_allOf 80 = .ok (.ifCond .eq 10, 3) := by decide +kernel
theorem dX12_allOf_83 : decode cX12_allOf 83 = .ok (.iconst 1, 1) := by decide +kernel
theorem dX12_allOf_84 : decode cX12_allOf 84 = .ok (.iload 4, 2) := by decide +kernel
theorem dX12_allOf_86 : decode cX12_allOf 86 = .ok (.ishl, 1) := by decide +kernel
theorem dX12_allOf_87 : decode cX12_allOf 87 = .ok (.goto 4, 3) := by decide +kernel
theorem dX12_allOf_90 : decode cX12_allOf 90 = .ok (.iconst 0, 1) := by decide +kernel
theorem dX12_allOf_91 : decode cX12_allOf 91 = .ok (.ior, 1) := by decide +kernel
theorem dX12_allOf_92 : decode cX12_allOf 92 = .ok (.istore_n 3, 1) := by decide +kernel
theorem dX12_allOf_93 : decode cX12_allOf 93 = .ok (.iinc 4 1, 3) := by decide +kernel
theorem dX12_allOf_96 : decode cX12_allOf 96 = .ok (.goto (-91), 3) := by decide +kernel
theorem dX12_allOf_99 : decode cX12_allOf 99 = .ok (.iload_n 3, 1) := by decide +kernel
theorem dX12_allOf_100 : decode cX12_allOf 100 = .ok (.ireturn, 1) := by decide +kernel
theorem dX12_bySize_0 : decode cX12_bySize 0 = .ok (.iconst 0, 1) := by decide +kernel
theorem dX12_bySize_1 : decode cX12_bySize 1 = .ok (.istore_n 3, 1) := by decide +kernel
theorem dX12_bySize_2 : decode cX12_bySize 2 = .ok (.iconst 0, 1) := by decide +kernel
theorem dX12_bySize_3 : decode cX12_bySize 3 = .ok (.istore 4, 2) := by decide +kernel
theorem dX12_bySize_5 : decode cX12_bySize 5 = .ok (.iconst 0, 1) := by decide +kernel
theorem dX12_bySize_6 : decode cX12_bySize 6 = .ok (.istore 5, 2) := by decide +kernel
theorem dX12_bySize_8 : decode cX12_bySize 8 = .ok (.iload 5, 2) := by decide +kernel
theorem dX12_bySize_10 : decode cX12_bySize 10 = .ok (.aload_n 0, 1) := by decide +kernel
theorem dX12_bySize_11 : decode cX12_bySize 11 = .ok (.getfield 98, 3) := by decide +kernel
theorem dX12_bySize_14 : decode cX12_bySize 14 = .ok (.if_icmp .ge 115, 3) := by decide +kernel
theorem dX12_bySize_17 : decode cX12_bySize 17 = .ok (.iload_n 1, 1) := by decide +kernel
theorem dX12_bySize_18 : decode cX12_bySize 18 = .ok (.iload 5, 2) := by decide +kernel
theorem dX12_bySize_20 : decode cX12_bySize 20 = .ok (.ishr, 1) := by decide +kernel
theorem dX12_bySize_21 : decode cX12_bySize 21 = .ok (.iconst 1, 1) := by decide +kernel
theorem dX12_bySize_22 : decode cX12_bySize 22 = .ok (.iand, 1) := by decide +kernel
theorem dX12_bySize_23 : decode cX12_bySize 23 = .ok (.iconst 1, 1) := by decide +kernel
theorem dX12_bySize_24 : decode cX12_bySize 24 = .ok (.if_icmp .ne 99, 3) := by decide +kernel
theorem dX12_bySize_27 : decode cX12_bySize 27 = .ok (.iload_n 3, 1) := by decide +kernel
theorem dX12_bySize_28 : decode cX12_bySize 28 = .ok (.ifCond .eq 34, 3) := by decide +kernel
theorem dX12_bySize_31 : decode cX12_bySize 31 = .ok (.iload_n 2, 1) := by decide +kernel
theorem dX12_bySize_32 : decode cX12_bySize 32 = .ok (.ifCond .eq 18, 3) := by decide +kernel
theorem dX12_bySize_35 : decode cX12_bySize 35 = .ok (.aload_n 0, 1) := by decide +kernel
theorem dX12_bySize_36 : decode cX12_bySize 36 = .ok (.getfield 16, 3) := by decide +kernel
theorem dX12_bySize_39 : decode cX12_bySize 39 = .ok (.iload 5, 2) := by decide +kernel
theorem dX12_bySize_41 : decode cX12_bySize 41 = .ok (.iaload, 1) := by decide +kernel
theorem dX12_bySize_42 : decode cX12_bySize 42 = .ok (.iload 4, 2) := by decide +kernel
theorem dX12_bySize_44 : decode cX12_bySize 44 = .ok (.if_icmp .le 22, 3) := by decide +kernel
theorem dX12_bySize_47 : decode cX12_bySize 47 = .ok (.goto 15, 3) := by decide +kernel
theorem dX12_bySize_50 : decode cX12_bySize 50 = .ok (.aload_n 0, 1) := by decide +kernel
theorem dX12_bySize_51 : decode cX12_bySize 51 = .ok (.getfield 16, 3) := by decide +kernel
theorem dX12_bySize_54 : decode cX12_bySize 54 = .ok (.iload 5, 2) := by decide +kernel
theorem dX12_bySize_56 : decode cX12_bySize 56 = .ok (.iaload, 1) := by decide +kernel
theorem dX12_bySize_57 : decode cX12_bySize 57 = .ok (.iload 4, 2) := by decide +kernel
theorem dX12_bySize_59 : decode cX12_bySize 59 = .ok (.if_icmp .ge 7, 3) := by decide +kernel
theorem dX12_bySize_62 : decode cX12_bySize 62 = .ok (.iconst 1, 1) := by decide +kernel
theorem dX12_bySize_63 : decode cX12_bySize 63 = .ok (.goto 4, 3) := by decide +kernel
theorem dX12_bySize_66 : decode cX12_bySize 66 = .ok (.iconst 0, 1) := by decide +kernel
theorem dX12_bySize_67 : decode cX12_bySize 67 = .ok (.istore 6, 2) := by decide +kernel
theorem dX12_bySize_69 : decode cX12_bySize 69 = .ok (.iload 6, 2) := by decide +kernel
theorem dX12_bySize_71 : decode cX12_bySize 71 = .ok (.ifCond .eq 10, 3) := by decide +kernel
theorem dX12_bySize_74 : decode cX12_bySize 74 = .ok (.iconst 1, 1) := by decide +kernel
theorem dX12_bySize_75 : decode cX12_bySize 75 = .ok (.iload 5, 2) := by decide +kernel
theorem dX12_bySize_77 : decode cX12_bySize 77 = .ok (.ishl, 1) := by decide +kernel
theorem dX12_bySize_78 : decode cX12_bySize 78 = .ok (.goto 25, 3) := by decide +kernel
theorem dX12_bySize_81 : decode cX12_bySize 81 = .ok (.aload_n 0, 1) := by decide +kernel
theorem dX12_bySize_82 : decode cX12_bySize 82 = .ok (.getfield 16, 3) := by decide +kernel
theorem dX12_bySize_85 : decode cX12_bySize 85 = .ok (.iload 5, 2) := by decide +kernel
theorem dX12_bySize_87 : decode cX12_bySize 87 = .ok (.iaload, 1) := by decide +kernel
theorem dX12_bySize_88 : decode cX12_bySize 88 = .ok (.iload 4, 2) := by decide +kernel
theorem dX12_bySize_90 : decode cX12_bySize 90 = .ok (.if_icmp .ne 12, 3) := by decide +kernel
theorem dX12_bySize_93 : decode cX12_bySize 93 = .ok (.iload_n 3, 1) := by decide +kernel
theorem dX12_bySize_94 : decode cX12_bySize 94 = .ok (.iconst 1, 1) := by decide +kernel
theorem dX12_bySize_95 : decode cX12_bySize 95 = .ok (.iload 5, 2) := by decide +kernel
theorem dX12_bySize_97 : decode cX12_bySize 97 = .ok (.ishl, 1) := by decide +kernel
theorem dX12_bySize_98 : decode cX12_bySize 98 = .ok (.ior, 1) := by decide +kernel
theorem dX12_bySize_99 : decode cX12_bySize 99 = .ok (.goto 4, 3) := by decide +kernel
theorem dX12_bySize_102 : decode cX12_bySize 102 = .ok (.iload_n 3, 1) := by decide +kernel
theorem dX12_bySize_103 : decode cX12_bySize 103 = .ok (.istore_n 3, 1) := by decide +kernel
theorem dX12_bySize_104 : decode cX12_bySize 104 = .ok (.iload 6, 2) := by decide +kernel
theorem dX12_bySize_106 : decode cX12_bySize 106 = .ok (.ifCond .eq 13, 3) := by decide +kernel
theorem dX12_bySize_109 : decode cX12_bySize 109 = .ok (.aload_n 0, 1) := by decide +kernel
theorem dX12_bySize_110 : decode cX12_bySize 110 = .ok (.getfield 16, 3) := by decide +kernel
theorem dX12_bySize_113 : decode cX12_bySize 113 = .ok (.iload 5, 2) := by decide +kernel
theorem dX12_bySize_115 : decode cX12_bySize 115 = .ok (.iaload, 1) := by decide +kernel
theorem dX12_bySize_116 : decode cX12_bySize 116 = .ok (.goto 5, 3) := by decide +kernel
theorem dX12_bySize_119 : decode cX12_bySize 119 = .ok (.iload 4, 2) := by decide +kernel
theorem dX12_bySize_121 : decode cX12_bySize 121 = .ok (.istore 4, 2) := by decide +kernel
theorem dX12_bySize_123 : decode cX12_bySize 123 = .ok (.iinc 5 1, 3) := by decide +kernel
theorem dX12_bySize_126 : decode cX12_bySize 126 = .ok (.goto (-118), 3) := by decide +kernel
theorem dX12_bySize_129 : decode cX12_bySize 129 = .ok (.iload_n 3, 1) := by decide +kernel
theorem dX12_bySize_130 : decode cX12_bySize 130 = .ok (.ireturn, 1) := by decide +kernel
theorem dX12_leftmost_0 : decode cX12_leftmost 0 = .ok (.iconst (-1), 1) := by decide +kernel
theorem dX12_leftmost_1 : decode cX12_leftmost 1 = .ok (.istore_n 2, 1) := by decide +kernel
theorem dX12_leftmost_2 : decode cX12_leftmost 2 = .ok (.iconst 0, 1) := by decide +kernel
theorem dX12_leftmost_3 : decode cX12_leftmost 3 = .ok (.istore_n 3, 1) := by decide +kernel
theorem dX12_leftmost_4 : decode cX12_leftmost 4 = .ok (.iload_n 3, 1) := by decide +kernel
theorem dX12_leftmost_5 : decode cX12_leftmost 5 = .ok (.aload_n 0, 1) := by decide +kernel
theorem dX12_leftmost_6 : decode cX12_leftmost 6 = .ok (.getfield 98, 3) := by decide +kernel
theorem dX12_leftmost_9 : decode cX12_leftmost 9 = .ok (.if_icmp .ge 44, 3) := by decide +kernel
theorem dX12_leftmost_12 : decode cX12_leftmost 12 = .ok (.iload_n 1, 1) := by decide +kernel
theorem dX12_leftmost_13 : decode cX12_leftmost 13 = .ok (.iload_n 3, 1) := by decide +kernel
theorem dX12_leftmost_14 : decode cX12_leftmost 14 = .ok (.ishr, 1) := by decide +kernel
theorem dX12_leftmost_15 : decode cX12_leftmost 15 = .ok (.iconst 1, 1) := by decide +kernel
theorem dX12_leftmost_16 : decode cX12_leftmost 16 = .ok (.iand, 1) := by decide +kernel
theorem dX12_leftmost_17 : decode cX12_leftmost 17 = .ok (.iconst 1, 1) := by decide +kernel
theorem dX12_leftmost_18 : decode cX12_leftmost 18 = .ok (.if_icmp .ne 27, 3) := by decide +kernel
theorem dX12_leftmost_21 : decode cX12_leftmost 21 = .ok (.iload_n 2, 1) := by decide +kernel
theorem dX12_leftmost_22 : decode cX12_leftmost 22 = .ok (.iconst (-1), 1) := by decide +kernel
theorem dX12_leftmost_23 : decode cX12_leftmost 23 = .ok (.if_icmp .eq 18, 3) := by decide +kernel
theorem dX12_leftmost_26 : decode cX12_leftmost 26 = .ok (.aload_n 0, 1) := by decide +kernel
theorem dX12_leftmost_27 : decode cX12_leftmost 27 = .ok (.getfield 22, 3) := by decide +kernel
theorem dX12_leftmost_30 : decode cX12_leftmost 30 = .ok (.iload_n 3, 1) := by decide +kernel
theorem dX12_leftmost_31 : decode cX12_leftmost 31 = .ok (.iaload, 1) := by decide +kernel
theorem dX12_leftmost_32 : decode cX12_leftmost 32 = .ok (.aload_n 0, 1) := by decide +kernel
theorem dX12_leftmost_33 : decode cX12_leftmost 33 = .ok (.getfield 22, 3) := by decide +kernel
theorem dX12_leftmost_36 : decode cX12_leftmost 36 = .ok (.iload_n 2, 1) := by decide +kernel
theorem dX12_leftmost_37 : decode cX12_leftmost 37 = .ok (.iaload, 1) := by decide +kernel
theorem dX12_leftmost_38 : decode cX12_leftmost 38 = .ok (.if_icmp .ge 7, 3) := by decide +kernel
theorem dX12_leftmost_41 : decode cX12_leftmost 41 = .ok (.iload_n 3, 1) := by decide +kernel
theorem dX12_leftmost_42 : decode cX12_leftmost 42 = .ok (.goto 4, 3) := by decide +kernel
theorem dX12_leftmost_45 : decode cX12_leftmost 45 = .ok (.iload_n 2, 1) := by decide +kernel
theorem dX12_leftmost_46 : decode cX12_leftmost 46 = .ok (.istore_n 2, 1) := by decide +kernel
theorem dX12_leftmost_47 : decode cX12_leftmost 47 = .ok (.iinc 3 1, 3) := by decide +kernel
theorem dX12_leftmost_50 : decode cX12_leftmost 50 = .ok (.goto (-46), 3) := by decide +kernel
theorem dX12_leftmost_53 : decode cX12_leftmost 53 = .ok (.iload_n 2, 1) := by decide +kernel
theorem dX12_leftmost_54 : decode cX12_leftmost 54 = .ok (.iconst (-1), 1) := by decide +kernel
theorem dX12_leftmost_55 : decode cX12_leftmost 55 = .ok (.if_icmp .ne 7, 3) := by decide +kernel
theorem dX12_leftmost_58 : decode cX12_leftmost 58 = .ok (.iconst 0, 1) := by decide +kernel
theorem dX12_leftmost_59 : decode cX12_leftmost 59 = .ok (.goto 6, 3) := by decide +kernel
theorem dX12_leftmost_62 : decode cX12_leftmost 62 = .ok (.iconst 1, 1) := by decide +kernel
theorem dX12_leftmost_63 : decode cX12_leftmost 63 = .ok (.iload_n 2, 1) := by decide +kernel
theorem dX12_leftmost_64 : decode cX12_leftmost 64 = .ok (.ishl, 1) := by decide +kernel
theorem dX12_leftmost_65 : decode cX12_leftmost 65 = .ok (.ireturn, 1) := by decide +kernel
theorem dX12_made_0 : decode cX12_made 0 = .ok (.iconst 0, 1) := by decide +kernel
theorem dX12_made_1 : decode cX12_made 1 = .ok (.istore 4, 2) := by decide +kernel
theorem dX12_made_3 : decode cX12_made 3 = .ok (.iload_n 1, 1) := by decide +kernel
theorem dX12_made_4 : decode cX12_made 4 = .ok (.tableswitch 204 4 13 #[56, 65, 69, 73, 79, 124, 170, 177, 184, 190], 56) := by decide +kernel
theorem dX12_made_60 : decode cX12_made 60 = .ok (.aload_n 0, 1) := by decide +kernel
theorem dX12_made_61 : decode cX12_made 61 = .ok (.invokevirtual 204, 3) := by decide +kernel
theorem dX12_made_64 : decode cX12_made 64 = .ok (.iload_n 2, 1) := by decide +kernel
theorem dX12_made_65 : decode cX12_made 65 = .ok (.iconst (-1), 1) := by decide +kernel
theorem dX12_made_66 : decode cX12_made 66 = .ok (.ixor, 1) := by decide +kernel
theorem dX12_made_67 : decode cX12_made 67 = .ok (.iand, 1) := by decide +kernel
theorem dX12_made_68 : decode cX12_made 68 = .ok (.ireturn, 1) := by decide +kernel
theorem dX12_made_69 : decode cX12_made 69 = .ok (.iload_n 2, 1) := by decide +kernel
theorem dX12_made_70 : decode cX12_made 70 = .ok (.iload_n 3, 1) := by decide +kernel
theorem dX12_made_71 : decode cX12_made 71 = .ok (.iand, 1) := by decide +kernel
theorem dX12_made_72 : decode cX12_made 72 = .ok (.ireturn, 1) := by decide +kernel
theorem dX12_made_73 : decode cX12_made 73 = .ok (.iload_n 2, 1) := by decide +kernel
theorem dX12_made_74 : decode cX12_made 74 = .ok (.iload_n 3, 1) := by decide +kernel
theorem dX12_made_75 : decode cX12_made 75 = .ok (.ior, 1) := by decide +kernel
theorem dX12_made_76 : decode cX12_made 76 = .ok (.ireturn, 1) := by decide +kernel
theorem dX12_made_77 : decode cX12_made 77 = .ok (.iload_n 2, 1) := by decide +kernel
theorem dX12_made_78 : decode cX12_made 78 = .ok (.iload_n 3, 1) := by decide +kernel
theorem dX12_made_79 : decode cX12_made 79 = .ok (.iconst (-1), 1) := by decide +kernel
theorem dX12_made_80 : decode cX12_made 80 = .ok (.ixor, 1) := by decide +kernel
theorem dX12_made_81 : decode cX12_made 81 = .ok (.iand, 1) := by decide +kernel
theorem dX12_made_82 : decode cX12_made 82 = .ok (.ireturn, 1) := by decide +kernel
theorem dX12_made_83 : decode cX12_made 83 = .ok (.iconst 0, 1) := by decide +kernel
theorem dX12_made_84 : decode cX12_made 84 = .ok (.istore 5, 2) := by decide +kernel
theorem dX12_made_86 : decode cX12_made 86 = .ok (.iload 5, 2) := by decide +kernel
theorem dX12_made_88 : decode cX12_made 88 = .ok (.aload_n 0, 1) := by decide +kernel
theorem dX12_made_89 : decode cX12_made 89 = .ok (.getfield 98, 3) := by decide +kernel
theorem dX12_made_92 : decode cX12_made 92 = .ok (.if_icmp .ge 33, 3) := by decide +kernel
theorem dX12_made_95 : decode cX12_made 95 = .ok (.iload 4, 2) := by decide +kernel
theorem dX12_made_97 : decode cX12_made 97 = .ok (.aload_n 0, 1) := by decide +kernel
theorem dX12_made_98 : decode cX12_made 98 = .ok (.iload 5, 2) := by decide +kernel
theorem dX12_made_100 : decode cX12_made 100 = .ok (.invokevirtual 118, 3) := by decide +kernel
theorem dX12_made_103 : decode cX12_made 103 = .ok (.iload_n 2, 1) := by decide +kernel
theorem dX12_made_104 : decode cX12_made 104 = .ok (.iand, 1) := by decide +kernel
theorem dX12_made_105 : decode cX12_made 105 = .ok (.ifCond .eq 10, 3) := by decide +kernel
theorem dX12_made_108 : decode cX12_made 108 = .ok (.iconst 1, 1) := by decide +kernel
theorem dX12_made_109 : decode cX12_made 109 = .ok (.iload 5, 2) := by decide +kernel
theorem dX12_made_111 : decode cX12_made 111 = .ok (.ishl, 1) := by decide +kernel
theorem dX12_made_112 : decode cX12_made 112 = .ok (.goto 4, 3) := by decide +kernel
theorem dX12_made_115 : decode cX12_made 115 = .ok (.iconst 0, 1) := by decide +kernel
theorem dX12_made_116 : decode cX12_made 116 = .ok (.ior, 1) := by decide +kernel
theorem dX12_made_117 : decode cX12_made 117 = .ok (.istore 4, 2) := by decide +kernel
theorem dX12_made_119 : decode cX12_made 119 = .ok (.iinc 5 1, 3) := by decide +kernel
theorem dX12_made_122 : decode cX12_made 122 = .ok (.goto (-36), 3) := by decide +kernel
theorem dX12_made_125 : decode cX12_made 125 = .ok (.iload 4, 2) := by decide +kernel
theorem dX12_made_127 : decode cX12_made 127 = .ok (.ireturn, 1) := by decide +kernel
theorem dX12_made_128 : decode cX12_made 128 = .ok (.iconst 0, 1) := by decide +kernel
theorem dX12_made_129 : decode cX12_made 129 = .ok (.istore 5, 2) := by decide +kernel
theorem dX12_made_131 : decode cX12_made 131 = .ok (.iload 5, 2) := by decide +kernel
theorem dX12_made_133 : decode cX12_made 133 = .ok (.aload_n 0, 1) := by decide +kernel
theorem dX12_made_134 : decode cX12_made 134 = .ok (.getfield 98, 3) := by decide +kernel
theorem dX12_made_137 : decode cX12_made 137 = .ok (.if_icmp .ge 34, 3) := by decide +kernel
theorem dX12_made_140 : decode cX12_made 140 = .ok (.iload 4, 2) := by decide +kernel
theorem dX12_made_142 : decode cX12_made 142 = .ok (.aload_n 0, 1) := by decide +kernel
theorem dX12_made_143 : decode cX12_made 143 = .ok (.getfield 25, 3) := by decide +kernel
theorem dX12_made_146 : decode cX12_made 146 = .ok (.iload 5, 2) := by decide +kernel
theorem dX12_made_148 : decode cX12_made 148 = .ok (.iaload, 1) := by decide +kernel
theorem dX12_made_149 : decode cX12_made 149 = .ok (.iload_n 2, 1) := by decide +kernel
theorem dX12_made_150 : decode cX12_made 150 = .ok (.iand, 1) := by decide +kernel
theorem dX12_made_151 : decode cX12_made 151 = .ok (.ifCond .eq 10, 3) := by decide +kernel
theorem dX12_made_154 : decode cX12_made 154 = .ok (.iconst 1, 1) := by decide +kernel
theorem dX12_made_155 : decode cX12_made 155 = .ok (.iload 5, 2) := by decide +kernel
theorem dX12_made_157 : decode cX12_made 157 = .ok (.ishl, 1) := by decide +kernel
theorem dX12_made_158 : decode cX12_made 158 = .ok (.goto 4, 3) := by decide +kernel
theorem dX12_made_161 : decode cX12_made 161 = .ok (.iconst 0, 1) := by decide +kernel
theorem dX12_made_162 : decode cX12_made 162 = .ok (.ior, 1) := by decide +kernel
theorem dX12_made_163 : decode cX12_made 163 = .ok (.istore 4, 2) := by decide +kernel
theorem dX12_made_165 : decode cX12_made 165 = .ok (.iinc 5 1, 3) := by decide +kernel
theorem dX12_made_168 : decode cX12_made 168 = .ok (.goto (-37), 3) := by decide +kernel
theorem dX12_made_171 : decode cX12_made 171 = .ok (.iload 4, 2) := by decide +kernel
theorem dX12_made_173 : decode cX12_made 173 = .ok (.ireturn, 1) := by decide +kernel
theorem dX12_made_174 : decode cX12_made 174 = .ok (.aload_n 0, 1) := by decide +kernel
theorem dX12_made_175 : decode cX12_made 175 = .ok (.iload_n 2, 1) := by decide +kernel
theorem dX12_made_176 : decode cX12_made 176 = .ok (.iconst 1, 1) := by decide +kernel
theorem dX12_made_177 : decode cX12_made 177 = .ok (.invokevirtual 207, 3) := by decide +kernel
theorem dX12_made_180 : decode cX12_made 180 = .ok (.ireturn, 1) := by decide +kernel
theorem dX12_made_181 : decode cX12_made 181 = .ok (.aload_n 0, 1) := by decide +kernel
theorem dX12_made_182 : decode cX12_made 182 = .ok (.iload_n 2, 1) := by decide +kernel
theorem dX12_made_183 : decode cX12_made 183 = .ok (.iconst 0, 1) := by decide +kernel
theorem dX12_made_184 : decode cX12_made 184 = .ok (.invokevirtual 207, 3) := by decide +kernel
theorem dX12_made_187 : decode cX12_made 187 = .ok (.ireturn, 1) := by decide +kernel
theorem dX12_made_188 : decode cX12_made 188 = .ok (.aload_n 0, 1) := by decide +kernel
theorem dX12_made_189 : decode cX12_made 189 = .ok (.iload_n 2, 1) := by decide +kernel
theorem dX12_made_190 : decode cX12_made 190 = .ok (.invokevirtual 211, 3) := by decide +kernel
theorem dX12_made_193 : decode cX12_made 193 = .ok (.ireturn, 1) := by decide +kernel
theorem dX12_made_194 : decode cX12_made 194 = .ok (.aload_n 0, 1) := by decide +kernel
theorem dX12_made_195 : decode cX12_made 195 = .ok (.iload_n 2, 1) := by decide +kernel
theorem dX12_made_196 : decode cX12_made 196 = .ok (.aload_n 0, 1) := by decide +kernel
theorem dX12_made_197 : decode cX12_made 197 = .ok (.iload_n 2, 1) := by decide +kernel
theorem dX12_made_198 : decode cX12_made 198 = .ok (.invokevirtual 211, 3) := by decide +kernel
theorem dX12_made_201 : decode cX12_made 201 = .ok (.iconst (-1), 1) := by decide +kernel
theorem dX12_made_202 : decode cX12_made 202 = .ok (.ixor, 1) := by decide +kernel
theorem dX12_made_203 : decode cX12_made 203 = .ok (.iand, 1) := by decide +kernel
theorem dX12_made_204 : decode cX12_made 204 = .ok (.invokevirtual 211, 3) := by decide +kernel
theorem dX12_made_207 : decode cX12_made 207 = .ok (.ireturn, 1) := by decide +kernel
theorem dX12_made_208 : decode cX12_made 208 = .ok (.iload_n 2, 1) := by decide +kernel
theorem dX12_made_209 : decode cX12_made 209 = .ok (.invokestatic 110, 3) := by decide +kernel
theorem dX12_made_212 : decode cX12_made 212 = .ok (.iconst 1, 1) := by decide +kernel
theorem dX12_made_213 : decode cX12_made 213 = .ok (.if_icmp .ne 7, 3) := by decide +kernel
theorem dX12_made_216 : decode cX12_made 216 = .ok (.iload_n 2, 1) := by decide +kernel
theorem dX12_made_217 : decode cX12_made 217 = .ok (.goto 4, 3) := by decide +kernel
theorem dX12_made_220 : decode cX12_made 220 = .ok (.iconst 0, 1) := by decide +kernel
theorem dX12_made_221 : decode cX12_made 221 = .ok (.ireturn, 1) := by decide +kernel
theorem dX12_meaning_0 : decode cX12_meaning 0 = .ok (.iconst 0, 1) := by decide +kernel
theorem dX12_meaning_1 : decode cX12_meaning 1 = .ok (.istore_n 1, 1) := by decide +kernel
theorem dX12_meaning_2 : decode cX12_meaning 2 = .ok (.aload_n 0, 1) := by decide +kernel
theorem dX12_meaning_3 : decode cX12_meaning 3 = .ok (.getfield 185, 3) := by decide +kernel
theorem dX12_meaning_6 : decode cX12_meaning 6 = .ok (.iconst 1, 1) := by decide +kernel
theorem dX12_meaning_7 : decode cX12_meaning 7 = .ok (.isub, 1) := by decide +kernel
theorem dX12_meaning_8 : decode cX12_meaning 8 = .ok (.istore_n 2, 1) := by decide +kernel
theorem dX12_meaning_9 : decode cX12_meaning 9 = .ok (.iload_n 2, 1) := by decide +kernel
theorem dX12_meaning_10 : decode cX12_meaning 10 = .ok (.ifCond .lt 106, 3) := by decide +kernel
theorem dX12_meaning_13 : decode cX12_meaning 13 = .ok (.aload_n 0, 1) := by decide +kernel
theorem dX12_meaning_14 : decode cX12_meaning 14 = .ok (.getfield 34, 3) := by decide +kernel
theorem dX12_meaning_17 : decode cX12_meaning 17 = .ok (.iload_n 2, 1) := by decide +kernel
theorem dX12_meaning_18 : decode cX12_meaning 18 = .ok (.iaload, 1) := by decide +kernel
theorem dX12_meaning_19 : decode cX12_meaning 19 = .ok (.invokestatic 198, 3) := by decide +kernel
theorem dX12_meaning_22 : decode cX12_meaning 22 = .ok (.istore_n 3, 1) := by decide +kernel
theorem dX12_meaning_23 : decode cX12_meaning 23 = .ok (.iload_n 3, 1) := by decide +kernel
theorem dX12_meaning_24 : decode cX12_meaning 24 = .ok (.ifCond .le 14, 3) := by decide +kernel
theorem dX12_meaning_27 : decode cX12_meaning 27 = .ok (.aload_n 0, 1) := by decide +kernel
theorem dX12_meaning_28 : decode cX12_meaning 28 = .ok (.getfield 40, 3) := by decide +kernel
theorem dX12_meaning_31 : decode cX12_meaning 31 = .ok (.iload_n 1, 1) := by decide +kernel
theorem dX12_meaning_32 : decode cX12_meaning 32 = .ok (.iconst 1, 1) := by decide +kernel
theorem dX12_meaning_33 : decode cX12_meaning 33 = .ok (.isub, 1) := by decide +kernel
theorem dX12_meaning_34 : decode cX12_meaning 34 = .ok (.iaload, 1) := by decide +kernel
theorem dX12_meaning_35 : decode cX12_meaning 35 = .ok (.goto 4, 3) := by decide +kernel
theorem dX12_meaning_38 : decode cX12_meaning 38 = .ok (.iconst 0, 1) := by decide +kernel
theorem dX12_meaning_39 : decode cX12_meaning 39 = .ok (.istore 4, 2) := by decide +kernel
theorem dX12_meaning_41 : decode cX12_meaning 41 = .ok (.iload_n 3, 1) := by decide +kernel
theorem dX12_meaning_42 : decode cX12_meaning 42 = .ok (.iconst 1, 1) := by decide +kernel
theorem dX12_meaning_43 : decode cX12_meaning 43 = .ok (.if_icmp .le 14, 3) := by decide +kernel
theorem dX12_meaning_46 : decode cX12_meaning 46 = .ok (.aload_n 0, 1) := by decide +kernel
theorem dX12_meaning_47 : decode cX12_meaning 47 = .ok (.getfield 40, 3) := by decide +kernel
theorem dX12_meaning_50 : decode cX12_meaning 50 = .ok (.iload_n 1, 1) := by decide +kernel
theorem dX12_meaning_51 : decode cX12_meaning 51 = .ok (.iconst 2, 1) := by decide +kernel
theorem dX12_meaning_52 : decode cX12_meaning 52 = .ok (.isub, 1) := by decide +kernel
theorem dX12_meaning_53 : decode cX12_meaning 53 = .ok (.iaload, 1) := by decide +kernel
theorem dX12_meaning_54 : decode cX12_meaning 54 = .ok (.goto 4, 3) := by decide +kernel
theorem dX12_meaning_57 : decode cX12_meaning 57 = .ok (.iconst 0, 1) := by decide +kernel
theorem dX12_meaning_58 : decode cX12_meaning 58 = .ok (.istore 5, 2) := by decide +kernel
theorem dX12_meaning_60 : decode cX12_meaning 60 = .ok (.iload_n 1, 1) := by decide +kernel
theorem dX12_meaning_61 : decode cX12_meaning 61 = .ok (.iload_n 3, 1) := by decide +kernel
theorem dX12_meaning_62 : decode cX12_meaning 62 = .ok (.isub, 1) := by decide +kernel
theorem dX12_meaning_63 : decode cX12_meaning 63 = .ok (.istore_n 1, 1) := by decide +kernel
theorem dX12_meaning_64 : decode cX12_meaning 64 = .ok (.aload_n 0, 1) := by decide +kernel
theorem dX12_meaning_65 : decode cX12_meaning 65 = .ok (.getfield 40, 3) := by decide +kernel
theorem dX12_meaning_68 : decode cX12_meaning 68 = .ok (.iload_n 1, 1) := by decide +kernel
theorem dX12_meaning_69 : decode cX12_meaning 69 = .ok (.iload_n 3, 1) := by decide +kernel
theorem dX12_meaning_70 : decode cX12_meaning 70 = .ok (.ifCond .ne 22, 3) := by decide +kernel
theorem dX12_meaning_73 : decode cX12_meaning 73 = .ok (.aload_n 0, 1) := by decide +kernel
theorem dX12_meaning_74 : decode cX12_meaning 74 = .ok (.aload_n 0, 1) := by decide +kernel
theorem dX12_meaning_75 : decode cX12_meaning 75 = .ok (.getfield 34, 3) := by decide +kernel
theorem dX12_meaning_78 : decode cX12_meaning 78 = .ok (.iload_n 2, 1) := by decide +kernel
theorem dX12_meaning_79 : decode cX12_meaning 79 = .ok (.iaload, 1) := by decide +kernel
theorem dX12_meaning_80 : decode cX12_meaning 80 = .ok (.aload_n 0, 1) := by decide +kernel
theorem dX12_meaning_81 : decode cX12_meaning 81 = .ok (.getfield 37, 3) := by decide +kernel
theorem dX12_meaning_84 : decode cX12_meaning 84 = .ok (.iload_n 2, 1) := by decide +kernel
theorem dX12_meaning_85 : decode cX12_meaning 85 = .ok (.iaload, 1) := by decide +kernel
theorem dX12_meaning_86 : decode cX12_meaning 86 = .ok (.invokevirtual 214, 3) := by decide +kernel
theorem dX12_meaning_89 : decode cX12_meaning 89 = .ok (.goto 17, 3) := by decide +kernel
theorem dX12_meaning_92 : decode cX12_meaning 92 = .ok (.aload_n 0, 1) := by decide +kernel
theorem dX12_meaning_93 : decode cX12_meaning 93 = .ok (.aload_n 0, 1) := by decide +kernel
theorem dX12_meaning_94 : decode cX12_meaning 94 = .ok (.getfield 34, 3) := by decide +kernel
theorem dX12_meaning_97 : decode cX12_meaning 97 = .ok (.iload_n 2, 1) := by decide +kernel
theorem dX12_meaning_98 : decode cX12_meaning 98 = .ok (.iaload, 1) := by decide +kernel
theorem dX12_meaning_99 : decode cX12_meaning 99 = .ok (.iload 4, 2) := by decide +kernel
theorem dX12_meaning_101 : decode cX12_meaning 101 = .ok (.iload 5, 2) := by decide +kernel
theorem dX12_meaning_103 : decode cX12_meaning 103 = .ok (.invokevirtual 218, 3) := by decide +kernel
theorem dX12_meaning_106 : decode cX12_meaning 106 = .ok (.iastore, 1) := by decide +kernel
theorem dX12_meaning_107 : decode cX12_meaning 107 = .ok (.iinc 1 1, 3) := by decide +kernel
theorem dX12_meaning_110 : decode cX12_meaning 110 = .ok (.iinc 2 (-1), 3) := by decide +kernel
theorem dX12_meaning_113 : decode cX12_meaning 113 = .ok (.goto (-104), 3) := by decide +kernel
theorem dX12_meaning_116 : decode cX12_meaning 116 = .ok (.aload_n 0, 1) := by decide +kernel
theorem dX12_meaning_117 : decode cX12_meaning 117 = .ok (.getfield 40, 3) := by decide +kernel
theorem dX12_meaning_120 : decode cX12_meaning 120 = .ok (.iconst 0, 1) := by decide +kernel
theorem dX12_meaning_121 : decode cX12_meaning 121 = .ok (.iaload, 1) := by decide +kernel
theorem dX12_meaning_122 : decode cX12_meaning 122 = .ok (.ireturn, 1) := by decide +kernel
theorem dX12_costTold_0 : decode cX12_costTold 0 = .ok (.iconst 0, 1) := by decide +kernel
theorem dX12_costTold_1 : decode cX12_costTold 1 = .ok (.istore_n 1, 1) := by decide +kernel
theorem dX12_costTold_2 : decode cX12_costTold 2 = .ok (.iconst 0, 1) := by decide +kernel
theorem dX12_costTold_3 : decode cX12_costTold 3 = .ok (.istore_n 2, 1) := by decide +kernel
theorem dX12_costTold_4 : decode cX12_costTold 4 = .ok (.iload_n 2, 1) := by decide +kernel
theorem dX12_costTold_5 : decode cX12_costTold 5 = .ok (.aload_n 0, 1) := by decide +kernel
theorem dX12_costTold_6 : decode cX12_costTold 6 = .ok (.getfield 185, 3) := by decide +kernel
theorem dX12_costTold_9 : decode cX12_costTold 9 = .ok (.if_icmp .ge 23, 3) := by decide +kernel
theorem dX12_costTold_12 : decode cX12_costTold 12 = .ok (.iload_n 1, 1) := by decide +kernel
theorem dX12_costTold_13 : decode cX12_costTold 13 = .ok (.aload_n 0, 1) := by decide +kernel
theorem dX12_costTold_14 : decode cX12_costTold 14 = .ok (.getfield 28, 3) := by decide +kernel
theorem dX12_costTold_17 : decode cX12_costTold 17 = .ok (.aload_n 0, 1) := by decide +kernel
theorem dX12_costTold_18 : decode cX12_costTold 18 = .ok (.getfield 34, 3) := by decide +kernel
theorem dX12_costTold_21 : decode cX12_costTold 21 = .ok (.iload_n 2, 1) := by decide +kernel
theorem dX12_costTold_22 : decode cX12_costTold 22 = .ok (.iaload, 1) := by decide +kernel
theorem dX12_costTold_23 : decode cX12_costTold 23 = .ok (.iaload, 1) := by decide +kernel
theorem dX12_costTold_24 : decode cX12_costTold 24 = .ok (.iadd, 1) := by decide +kernel
theorem dX12_costTold_25 : decode cX12_costTold 25 = .ok (.istore_n 1, 1) := by decide +kernel
theorem dX12_costTold_26 : decode cX12_costTold 26 = .ok (.iinc 2 1, 3) := by decide +kernel
theorem dX12_costTold_29 : decode cX12_costTold 29 = .ok (.goto (-25), 3) := by decide +kernel
theorem dX12_costTold_32 : decode cX12_costTold 32 = .ok (.iload_n 1, 1) := by decide +kernel
theorem dX12_costTold_33 : decode cX12_costTold 33 = .ok (.ireturn, 1) := by decide +kernel
theorem dX12_says_0 : decode cX12_says 0 = .ok (.iload_n 1, 1) := by decide +kernel
theorem dX12_says_1 : decode cX12_says 1 = .ok (.iconst 0, 1) := by decide +kernel
theorem dX12_says_2 : decode cX12_says 2 = .ok (.iconst 2, 1) := by decide +kernel
theorem dX12_says_3 : decode cX12_says 3 = .ok (.invokestatic 102, 3) := by decide +kernel
theorem dX12_says_6 : decode cX12_says 6 = .ok (.ifCond .ne 6, 3) := by decide +kernel
theorem dX12_says_9 : decode cX12_says 9 = .ok (.bipush (-3), 2) := by decide +kernel
theorem dX12_says_11 : decode cX12_says 11 = .ok (.ireturn, 1) := by decide +kernel
theorem dX12_says_12 : decode cX12_says 12 = .ok (.aload_n 0, 1) := by decide +kernel
theorem dX12_says_13 : decode cX12_says 13 = .ok (.invokevirtual 201, 3) := by decide +kernel
theorem dX12_says_16 : decode cX12_says 16 = .ok (.ifCond .ne 6, 3) := by decide +kernel
theorem dX12_says_19 : decode cX12_says 19 = .ok (.bipush (-4), 2) := by decide +kernel
theorem dX12_says_21 : decode cX12_says 21 = .ok (.ireturn, 1) := by decide +kernel
theorem dX12_says_22 : decode cX12_says 22 = .ok (.iload_n 1, 1) := by decide +kernel
theorem dX12_says_23 : decode cX12_says 23 = .ok (.ifCond .ne 10, 3) := by decide +kernel
theorem dX12_says_26 : decode cX12_says 26 = .ok (.aload_n 0, 1) := by decide +kernel
theorem dX12_says_27 : decode cX12_says 27 = .ok (.invokevirtual 222, 3) := by decide +kernel
theorem dX12_says_30 : decode cX12_says 30 = .ok (.goto 19, 3) := by decide +kernel
theorem dX12_says_33 : decode cX12_says 33 = .ok (.iload_n 1, 1) := by decide +kernel
theorem dX12_says_34 : decode cX12_says 34 = .ok (.iconst 1, 1) := by decide +kernel
theorem dX12_says_35 : decode cX12_says 35 = .ok (.if_icmp .ne 10, 3) := by decide +kernel
theorem dX12_says_38 : decode cX12_says 38 = .ok (.aload_n 0, 1) := by decide +kernel
theorem dX12_says_39 : decode cX12_says 39 = .ok (.invokevirtual 225, 3) := by decide +kernel
theorem dX12_says_42 : decode cX12_says 42 = .ok (.goto 7, 3) := by decide +kernel
theorem dX12_says_45 : decode cX12_says 45 = .ok (.aload_n 0, 1) := by decide +kernel
theorem dX12_says_46 : decode cX12_says 46 = .ok (.getfield 185, 3) := by decide +kernel
theorem dX12_says_49 : decode cX12_says 49 = .ok (.ireturn, 1) := by decide +kernel
theorem dX12_keep_0 : decode cX12_keep 0 = .ok (.aload_n 0, 1) := by decide +kernel
theorem dX12_keep_1 : decode cX12_keep 1 = .ok (.invokevirtual 201, 3) := by decide +kernel
theorem dX12_keep_4 : decode cX12_keep 4 = .ok (.ifCond .ne 6, 3) := by decide +kernel
theorem dX12_keep_7 : decode cX12_keep 7 = .ok (.bipush (-4), 2) := by decide +kernel
theorem dX12_keep_9 : decode cX12_keep 9 = .ok (.ireturn, 1) := by decide +kernel
theorem dX12_keep_10 : decode cX12_keep 10 = .ok (.aload_n 0, 1) := by decide +kernel
theorem dX12_keep_11 : decode cX12_keep 11 = .ok (.getfield 228, 3) := by decide +kernel
theorem dX12_keep_14 : decode cX12_keep 14 = .ok (.bipush 8, 2) := by decide +kernel
theorem dX12_keep_16 : decode cX12_keep 16 = .ok (.if_icmp .ne 6, 3) := by decide +kernel
theorem dX12_keep_19 : decode cX12_keep 19 = .ok (.bipush (-5), 2) := by decide +kernel
theorem dX12_keep_21 : decode cX12_keep 21 = .ok (.ireturn, 1) := by decide +kernel
theorem dX12_keep_22 : decode cX12_keep 22 = .ok (.aload_n 0, 1) := by decide +kernel
theorem dX12_keep_23 : decode cX12_keep 23 = .ok (.getfield 43, 3) := by decide +kernel
theorem dX12_keep_26 : decode cX12_keep 26 = .ok (.aload_n 0, 1) := by decide +kernel
theorem dX12_keep_27 : decode cX12_keep 27 = .ok (.getfield 228, 3) := by decide +kernel
theorem dX12_keep_30 : decode cX12_keep 30 = .ok (.aload_n 0, 1) := by decide +kernel
theorem dX12_keep_31 : decode cX12_keep 31 = .ok (.getfield 185, 3) := by decide +kernel
theorem dX12_keep_34 : decode cX12_keep 34 = .ok (.iastore, 1) := by decide +kernel
theorem dX12_keep_35 : decode cX12_keep 35 = .ok (.iconst 0, 1) := by decide +kernel
theorem dX12_keep_36 : decode cX12_keep 36 = .ok (.istore_n 1, 1) := by decide +kernel
theorem dX12_keep_37 : decode cX12_keep 37 = .ok (.iload_n 1, 1) := by decide +kernel
theorem dX12_keep_38 : decode cX12_keep 38 = .ok (.aload_n 0, 1) := by decide +kernel
theorem dX12_keep_39 : decode cX12_keep 39 = .ok (.getfield 185, 3) := by decide +kernel
theorem dX12_keep_42 : decode cX12_keep 42 = .ok (.if_icmp .ge 49, 3) := by decide +kernel
theorem dX12_keep_45 : decode cX12_keep 45 = .ok (.aload_n 0, 1) := by decide +kernel
theorem dX12_keep_46 : decode cX12_keep 46 = .ok (.getfield 46, 3) := by decide +kernel
theorem dX12_keep_49 : decode cX12_keep 49 = .ok (.bipush 24, 2) := by decide +kernel
theorem dX12_keep_51 : decode cX12_keep 51 = .ok (.aload_n 0, 1) := by decide +kernel
theorem dX12_keep_52 : decode cX12_keep 52 = .ok (.getfield 228, 3) := by decide +kernel
theorem dX12_keep_55 : decode cX12_keep 55 = .ok (.imul, 1) := by decide +kernel
theorem dX12_keep_56 : decode cX12_keep 56 = .ok (.iload_n 1, 1) := by decide +kernel
theorem dX12_keep_57 : decode cX12_keep 57 = .ok (.iadd, 1) := by decide +kernel
theorem dX12_keep_58 : decode cX12_keep 58 = .ok (.aload_n 0, 1) := by decide +kernel
theorem dX12_keep_59 : decode cX12_keep 59 = .ok (.getfield 34, 3) := by decide +kernel
theorem dX12_keep_62 : decode cX12_keep 62 = .ok (.iload_n 1, 1) := by decide +kernel
theorem dX12_keep_63 : decode cX12_keep 63 = .ok (.iaload, 1) := by decide +kernel
theorem dX12_keep_64 : decode cX12_keep 64 = .ok (.iastore, 1) := by decide +kernel
theorem dX12_keep_65 : decode cX12_keep 65 = .ok (.aload_n 0, 1) := by decide +kernel
theorem dX12_keep_66 : decode cX12_keep 66 = .ok (.getfield 49, 3) := by decide +kernel
theorem dX12_keep_69 : decode cX12_keep 69 = .ok (.bipush 24, 2) := by decide +kernel
theorem dX12_keep_71 : decode cX12_keep 71 = .ok (.aload_n 0, 1) := by decide +kernel
theorem dX12_keep_72 : decode cX12_keep 72 = .ok (.getfield 228, 3) := by decide +kernel
theorem dX12_keep_75 : decode cX12_keep 75 = .ok (.imul, 1) := by decide +kernel
theorem dX12_keep_76 : decode cX12_keep 76 = .ok (.iload_n 1, 1) := by decide +kernel
theorem dX12_keep_77 : decode cX12_keep 77 = .ok (.iadd, 1) := by decide +kernel
theorem dX12_keep_78 : decode cX12_keep 78 = .ok (.aload_n 0, 1) := by decide +kernel
theorem dX12_keep_79 : decode cX12_keep 79 = .ok (.getfield 37, 3) := by decide +kernel
theorem dX12_keep_82 : decode cX12_keep 82 = .ok (.iload_n 1, 1) := by decide +kernel
theorem dX12_keep_83 : decode cX12_keep 83 = .ok (.iaload, 1) := by decide +kernel
theorem dX12_keep_84 : decode cX12_keep 84 = .ok (.iastore, 1) := by decide +kernel
theorem dX12_keep_85 : decode cX12_keep 85 = .ok (.iinc 1 1, 3) := by decide +kernel
theorem dX12_keep_88 : decode cX12_keep 88 = .ok (.goto (-51), 3) := by decide +kernel
theorem dX12_keep_91 : decode cX12_keep 91 = .ok (.aload_n 0, 1) := by decide +kernel
theorem dX12_keep_92 : decode cX12_keep 92 = .ok (.dup, 1) := by decide +kernel
theorem dX12_keep_93 : decode cX12_keep 93 = .ok (.getfield 228, 3) := by decide +kernel
theorem dX12_keep_96 : decode cX12_keep 96 = .ok (.iconst 1, 1) := by decide +kernel
theorem dX12_keep_97 : decode cX12_keep 97 = .ok (.iadd, 1) := by decide +kernel
theorem dX12_keep_98 : decode cX12_keep 98 = .ok (.putfield 228, 3) := by decide +kernel
theorem dX12_keep_101 : decode cX12_keep 101 = .ok (.aload_n 0, 1) := by decide +kernel
theorem dX12_keep_102 : decode cX12_keep 102 = .ok (.iconst 0, 1) := by decide +kernel
theorem dX12_keep_103 : decode cX12_keep 103 = .ok (.putfield 121, 3) := by decide +kernel
theorem dX12_keep_106 : decode cX12_keep 106 = .ok (.aload_n 0, 1) := by decide +kernel
theorem dX12_keep_107 : decode cX12_keep 107 = .ok (.getfield 228, 3) := by decide +kernel
theorem dX12_keep_110 : decode cX12_keep 110 = .ok (.iconst 1, 1) := by decide +kernel
theorem dX12_keep_111 : decode cX12_keep 111 = .ok (.isub, 1) := by decide +kernel
theorem dX12_keep_112 : decode cX12_keep 112 = .ok (.ireturn, 1) := by decide +kernel
theorem dX12_recall_0 : decode cX12_recall 0 = .ok (.aload_n 0, 1) := by decide +kernel
theorem dX12_recall_1 : decode cX12_recall 1 = .ok (.aload_n 0, 1) := by decide +kernel
theorem dX12_recall_2 : decode cX12_recall 2 = .ok (.getfield 43, 3) := by decide +kernel
theorem dX12_recall_5 : decode cX12_recall 5 = .ok (.iload_n 1, 1) := by decide +kernel
theorem dX12_recall_6 : decode cX12_recall 6 = .ok (.iaload, 1) := by decide +kernel
theorem dX12_recall_7 : decode cX12_recall 7 = .ok (.putfield 185, 3) := by decide +kernel
theorem dX12_recall_10 : decode cX12_recall 10 = .ok (.iconst 0, 1) := by decide +kernel
theorem dX12_recall_11 : decode cX12_recall 11 = .ok (.istore_n 2, 1) := by decide +kernel
theorem dX12_recall_12 : decode cX12_recall 12 = .ok (.iload_n 2, 1) := by decide +kernel
theorem dX12_recall_13 : decode cX12_recall 13 = .ok (.aload_n 0, 1) := by decide +kernel
theorem dX12_recall_14 : decode cX12_recall 14 = .ok (.getfield 185, 3) := by decide +kernel
theorem dX12_recall_17 : decode cX12_recall 17 = .ok (.if_icmp .ge 43, 3) := by decide +kernel
theorem dX12_recall_20 : decode cX12_recall 20 = .ok (.aload_n 0, 1) := by decide +kernel
theorem dX12_recall_21 : decode cX12_recall 21 = .ok (.getfield 34, 3) := by decide +kernel
theorem dX12_recall_24 : decode cX12_recall 24 = .ok (.iload_n 2, 1) := by decide +kernel
theorem dX12_recall_25 : decode cX12_recall 25 = .ok (.aload_n 0, 1) := by decide +kernel
theorem dX12_recall_26 : decode cX12_recall 26 = .ok (.getfield 46, 3) := by decide +kernel
theorem dX12_recall_29 : decode cX12_recall 29 = .ok (.bipush 24, 2) := by decide +kernel
theorem dX12_recall_31 : decode cX12_recall 31 = .ok (.iload_n 1, 1) := by decide +kernel
theorem dX12_recall_32 : decode cX12_recall 32 = .ok (.imul, 1) := by decide +kernel
theorem dX12_recall_33 : decode cX12_recall 33 = .ok (.iload_n 2, 1) := by decide +kernel
theorem dX12_recall_34 : decode cX12_recall 34 = .ok (.iadd, 1) := by decide +kernel
theorem dX12_recall_35 : decode cX12_recall 35 = .ok (.iaload, 1) := by decide +kernel
theorem dX12_recall_36 : decode cX12_recall 36 = .ok (.iastore, 1) := by decide +kernel
theorem dX12_recall_37 : decode cX12_recall 37 = .ok (.aload_n 0, 1) := by decide +kernel
theorem dX12_recall_38 : decode cX12_recall 38 = .ok (.getfield 37, 3) := by decide +kernel
theorem dX12_recall_41 : decode cX12_recall 41 = .ok (.iload_n 2, 1) := by decide +kernel
theorem dX12_recall_42 : decode cX12_recall 42 = .ok (.aload_n 0, 1) := by decide +kernel
theorem dX12_recall_43 : decode cX12_recall 43 = .ok (.getfield 49, 3) := by decide +kernel
theorem dX12_recall_46 : decode cX12_recall 46 = .ok (.bipush 24, 2) := by decide +kernel
theorem dX12_recall_48 : decode cX12_recall 48 = .ok (.iload_n 1, 1) := by decide +kernel
theorem dX12_recall_49 : decode cX12_recall 49 = .ok (.imul, 1) := by decide +kernel
theorem dX12_recall_50 : decode cX12_recall 50 = .ok (.iload_n 2, 1) := by decide +kernel
theorem dX12_recall_51 : decode cX12_recall 51 = .ok (.iadd, 1) := by decide +kernel
theorem dX12_recall_52 : decode cX12_recall 52 = .ok (.iaload, 1) := by decide +kernel
theorem dX12_recall_53 : decode cX12_recall 53 = .ok (.iastore, 1) := by decide +kernel
theorem dX12_recall_54 : decode cX12_recall 54 = .ok (.iinc 2 1, 3) := by decide +kernel
theorem dX12_recall_57 : decode cX12_recall 57 = .ok (.goto (-45), 3) := by decide +kernel
theorem dX12_recall_60 : decode cX12_recall 60 = .ok (.return_, 1) := by decide +kernel
theorem dX12_kept_0 : decode cX12_kept 0 = .ok (.iload_n 1, 1) := by decide +kernel
theorem dX12_kept_1 : decode cX12_kept 1 = .ok (.iconst 0, 1) := by decide +kernel
theorem dX12_kept_2 : decode cX12_kept 2 = .ok (.aload_n 0, 1) := by decide +kernel
theorem dX12_kept_3 : decode cX12_kept 3 = .ok (.getfield 228, 3) := by decide +kernel
theorem dX12_kept_6 : decode cX12_kept 6 = .ok (.iconst 1, 1) := by decide +kernel
theorem dX12_kept_7 : decode cX12_kept 7 = .ok (.isub, 1) := by decide +kernel
theorem dX12_kept_8 : decode cX12_kept 8 = .ok (.invokestatic 102, 3) := by decide +kernel
theorem dX12_kept_11 : decode cX12_kept 11 = .ok (.ifCond .ne 6, 3) := by decide +kernel
theorem dX12_kept_14 : decode cX12_kept 14 = .ok (.bipush (-2), 2) := by decide +kernel
theorem dX12_kept_16 : decode cX12_kept 16 = .ok (.ireturn, 1) := by decide +kernel
theorem dX12_kept_17 : decode cX12_kept 17 = .ok (.iload_n 2, 1) := by decide +kernel
theorem dX12_kept_18 : decode cX12_kept 18 = .ok (.iconst 0, 1) := by decide +kernel
theorem dX12_kept_19 : decode cX12_kept 19 = .ok (.iconst 2, 1) := by decide +kernel
theorem dX12_kept_20 : decode cX12_kept 20 = .ok (.invokestatic 102, 3) := by decide +kernel
theorem dX12_kept_23 : decode cX12_kept 23 = .ok (.ifCond .ne 6, 3) := by decide +kernel
theorem dX12_kept_26 : decode cX12_kept 26 = .ok (.bipush (-3), 2) := by decide +kernel
theorem dX12_kept_28 : decode cX12_kept 28 = .ok (.ireturn, 1) := by decide +kernel
theorem dX12_kept_29 : decode cX12_kept 29 = .ok (.aload_n 0, 1) := by decide +kernel
theorem dX12_kept_30 : decode cX12_kept 30 = .ok (.iload_n 1, 1) := by decide +kernel
theorem dX12_kept_31 : decode cX12_kept 31 = .ok (.invokevirtual 231, 3) := by decide +kernel
theorem dX12_kept_34 : decode cX12_kept 34 = .ok (.iload_n 2, 1) := by decide +kernel
theorem dX12_kept_35 : decode cX12_kept 35 = .ok (.ifCond .ne 10, 3) := by decide +kernel
theorem dX12_kept_38 : decode cX12_kept 38 = .ok (.aload_n 0, 1) := by decide +kernel
theorem dX12_kept_39 : decode cX12_kept 39 = .ok (.invokevirtual 222, 3) := by decide +kernel
theorem dX12_kept_42 : decode cX12_kept 42 = .ok (.goto 19, 3) := by decide +kernel
theorem dX12_kept_45 : decode cX12_kept 45 = .ok (.iload_n 2, 1) := by decide +kernel
theorem dX12_kept_46 : decode cX12_kept 46 = .ok (.iconst 1, 1) := by decide +kernel
theorem dX12_kept_47 : decode cX12_kept 47 = .ok (.if_icmp .ne 10, 3) := by decide +kernel
theorem dX12_kept_50 : decode cX12_kept 50 = .ok (.aload_n 0, 1) := by decide +kernel
theorem dX12_kept_51 : decode cX12_kept 51 = .ok (.invokevirtual 225, 3) := by decide +kernel
theorem dX12_kept_54 : decode cX12_kept 54 = .ok (.goto 7, 3) := by decide +kernel
theorem dX12_kept_57 : decode cX12_kept 57 = .ok (.aload_n 0, 1) := by decide +kernel
theorem dX12_kept_58 : decode cX12_kept 58 = .ok (.getfield 185, 3) := by decide +kernel
theorem dX12_kept_61 : decode cX12_kept 61 = .ok (.ireturn, 1) := by decide +kernel
theorem dX12_offer_0 : decode cX12_offer 0 = .ok (.iload_n 2, 1) := by decide +kernel
theorem dX12_offer_1 : decode cX12_offer 1 = .ok (.sipush 1000, 3) := by decide +kernel
theorem dX12_offer_4 : decode cX12_offer 4 = .ok (.if_icmp .ge 27, 3) := by decide +kernel
theorem dX12_offer_7 : decode cX12_offer 7 = .ok (.aload_n 0, 1) := by decide +kernel
theorem dX12_offer_8 : decode cX12_offer 8 = .ok (.getfield 52, 3) := by decide +kernel
theorem dX12_offer_11 : decode cX12_offer 11 = .ok (.iload_n 1, 1) := by decide +kernel
theorem dX12_offer_12 : decode cX12_offer 12 = .ok (.iaload, 1) := by decide +kernel
theorem dX12_offer_13 : decode cX12_offer 13 = .ok (.iconst (-1), 1) := by decide +kernel
theorem dX12_offer_14 : decode cX12_offer 14 = .ok (.if_icmp .eq 13, 3) := by decide +kernel
theorem dX12_offer_17 : decode cX12_offer 17 = .ok (.iload_n 2, 1) := by decide +kernel
theorem dX12_offer_18 : decode cX12_offer 18 = .ok (.aload_n 0, 1) := by decide +kernel
theorem dX12_offer_19 : decode cX12_offer 19 = .ok (.getfield 52, 3) := by decide +kernel
theorem dX12_offer_22 : decode cX12_offer 22 = .ok (.iload_n 1, 1) := by decide +kernel
theorem dX12_offer_23 : decode cX12_offer 23 = .ok (.iaload, 1) := by decide +kernel
theorem dX12_offer_24 : decode cX12_offer 24 = .ok (.if_icmp .ge 7, 3) := by decide +kernel
theorem dX12_offer_27 : decode cX12_offer 27 = .ok (.iconst 1, 1) := by decide +kernel
theorem dX12_offer_28 : decode cX12_offer 28 = .ok (.goto 4, 3) := by decide +kernel
theorem dX12_offer_31 : decode cX12_offer 31 = .ok (.iconst 0, 1) := by decide +kernel
theorem dX12_offer_32 : decode cX12_offer 32 = .ok (.istore 6, 2) := by decide +kernel
theorem dX12_offer_34 : decode cX12_offer 34 = .ok (.iload 6, 2) := by decide +kernel
theorem dX12_offer_36 : decode cX12_offer 36 = .ok (.ifCond .ne 102, 3) := by decide +kernel
theorem dX12_offer_39 : decode cX12_offer 39 = .ok (.iload_n 2, 1) := by decide +kernel
theorem dX12_offer_40 : decode cX12_offer 40 = .ok (.aload_n 0, 1) := by decide +kernel
theorem dX12_offer_41 : decode cX12_offer 41 = .ok (.getfield 52, 3) := by decide +kernel
theorem dX12_offer_44 : decode cX12_offer 44 = .ok (.iload_n 1, 1) := by decide +kernel
theorem dX12_offer_45 : decode cX12_offer 45 = .ok (.iaload, 1) := by decide +kernel
theorem dX12_offer_46 : decode cX12_offer 46 = .ok (.if_icmp .ne 92, 3) := by decide +kernel
theorem dX12_offer_49 : decode cX12_offer 49 = .ok (.aload_n 0, 1) := by decide +kernel
theorem dX12_offer_50 : decode cX12_offer 50 = .ok (.getfield 70, 3) := by decide +kernel
theorem dX12_offer_53 : decode cX12_offer 53 = .ok (.iload_n 1, 1) := by decide +kernel
theorem dX12_offer_54 : decode cX12_offer 54 = .ok (.baload, 1) := by decide +kernel
theorem dX12_offer_55 : decode cX12_offer 55 = .ok (.ifCond .ne 83, 3) := by decide +kernel
theorem dX12_offer_58 : decode cX12_offer 58 = .ok (.iload_n 3, 1) := by decide +kernel
theorem dX12_offer_59 : decode cX12_offer 59 = .ok (.aload_n 0, 1) := by decide +kernel
theorem dX12_offer_60 : decode cX12_offer 60 = .ok (.getfield 55, 3) := by decide +kernel
theorem dX12_offer_63 : decode cX12_offer 63 = .ok (.iload_n 1, 1) := by decide +kernel
theorem dX12_offer_64 : decode cX12_offer 64 = .ok (.iaload, 1) := by decide +kernel
theorem dX12_offer_65 : decode cX12_offer 65 = .ok (.if_icmp .lt 66, 3) := by decide +kernel
theorem dX12_offer_68 : decode cX12_offer 68 = .ok (.iload_n 3, 1) := by decide +kernel
theorem dX12_offer_69 : decode cX12_offer 69 = .ok (.aload_n 0, 1) := by decide +kernel
theorem dX12_offer_70 : decode cX12_offer 70 = .ok (.getfield 55, 3) := by decide +kernel
theorem dX12_offer_73 : decode cX12_offer 73 = .ok (.iload_n 1, 1) := by decide +kernel
theorem dX12_offer_74 : decode cX12_offer 74 = .ok (.iaload, 1) := by decide +kernel
theorem dX12_offer_75 : decode cX12_offer 75 = .ok (.if_icmp .ne 60, 3) := by decide +kernel
theorem dX12_offer_78 : decode cX12_offer 78 = .ok (.aload_n 0, 1) := by decide +kernel
theorem dX12_offer_79 : decode cX12_offer 79 = .ok (.getfield 67, 3) := by decide +kernel
theorem dX12_offer_82 : decode cX12_offer 82 = .ok (.iload 4, 2) := by decide +kernel
theorem dX12_offer_84 : decode cX12_offer 84 = .ok (.iaload, 1) := by decide +kernel
theorem dX12_offer_85 : decode cX12_offer 85 = .ok (.aload_n 0, 1) := by decide +kernel
theorem dX12_offer_86 : decode cX12_offer 86 = .ok (.getfield 67, 3) := by decide +kernel
theorem dX12_offer_89 : decode cX12_offer 89 = .ok (.aload_n 0, 1) := by decide +kernel
theorem dX12_offer_90 : decode cX12_offer 90 = .ok (.getfield 58, 3) := by decide +kernel
theorem dX12_offer_93 : decode cX12_offer 93 = .ok (.iload_n 1, 1) := by decide +kernel
theorem dX12_offer_94 : decode cX12_offer 94 = .ok (.iaload, 1) := by decide +kernel
theorem dX12_offer_95 : decode cX12_offer 95 = .ok (.iaload, 1) := by decide +kernel
theorem dX12_offer_96 : decode cX12_offer 96 = .ok (.if_icmp .lt 35, 3) := by decide +kernel
theorem dX12_offer_99 : decode cX12_offer 99 = .ok (.iload 4, 2) := by decide +kernel
theorem dX12_offer_101 : decode cX12_offer 101 = .ok (.aload_n 0, 1) := by decide +kernel
theorem dX12_offer_102 : decode cX12_offer 102 = .ok (.getfield 58, 3) := by decide +kernel
theorem dX12_offer_105 : decode cX12_offer 105 = .ok (.iload_n 1, 1) := by decide +kernel
theorem dX12_offer_106 : decode cX12_offer 106 = .ok (.iaload, 1) := by decide +kernel
theorem dX12_offer_107 : decode cX12_offer 107 = .ok (.if_icmp .ne 28, 3) := by decide +kernel
theorem dX12_offer_110 : decode cX12_offer 110 = .ok (.aload_n 0, 1) := by decide +kernel
theorem dX12_offer_111 : decode cX12_offer 111 = .ok (.getfield 67, 3) := by decide +kernel
theorem dX12_offer_114 : decode cX12_offer 114 = .ok (.iload 5, 2) := by decide +kernel
theorem dX12_offer_116 : decode cX12_offer 116 = .ok (.iaload, 1) := by decide +kernel
theorem dX12_offer_117 : decode cX12_offer 117 = .ok (.aload_n 0, 1) := by decide +kernel
theorem dX12_offer_118 : decode cX12_offer 118 = .ok (.getfield 67, 3) := by decide +kernel
theorem dX12_offer_121 : decode cX12_offer 121 = .ok (.aload_n 0, 1) := by decide +kernel
theorem dX12_offer_122 : decode cX12_offer 122 = .ok (.getfield 61, 3) := by decide +kernel
theorem dX12_offer_125 : decode cX12_offer 125 = .ok (.iload_n 1, 1) := by decide +kernel
theorem dX12_offer_126 : decode cX12_offer 126 = .ok (.iaload, 1) := by decide +kernel
theorem dX12_offer_127 : decode cX12_offer 127 = .ok (.iaload, 1) := by decide +kernel
theorem dX12_offer_128 : decode cX12_offer 128 = .ok (.if_icmp .ge 7, 3) := by decide +kernel
theorem dX12_offer_131 : decode cX12_offer 131 = .ok (.iconst 1, 1) := by decide +kernel
theorem dX12_offer_132 : decode cX12_offer 132 = .ok (.goto 4, 3) := by decide +kernel
theorem dX12_offer_135 : decode cX12_offer 135 = .ok (.iconst 0, 1) := by decide +kernel
theorem dX12_offer_136 : decode cX12_offer 136 = .ok (.istore 6, 2) := by decide +kernel
theorem dX12_offer_138 : decode cX12_offer 138 = .ok (.iload 6, 2) := by decide +kernel
theorem dX12_offer_140 : decode cX12_offer 140 = .ok (.ifCond .eq 33, 3) := by decide +kernel
theorem dX12_offer_143 : decode cX12_offer 143 = .ok (.aload_n 0, 1) := by decide +kernel
theorem dX12_offer_144 : decode cX12_offer 144 = .ok (.getfield 52, 3) := by decide +kernel
theorem dX12_offer_147 : decode cX12_offer 147 = .ok (.iload_n 1, 1) := by decide +kernel
theorem dX12_offer_148 : decode cX12_offer 148 = .ok (.iload_n 2, 1) := by decide +kernel
theorem dX12_offer_149 : decode cX12_offer 149 = .ok (.iastore, 1) := by decide +kernel
theorem dX12_offer_150 : decode cX12_offer 150 = .ok (.aload_n 0, 1) := by decide +kernel
theorem dX12_offer_151 : decode cX12_offer 151 = .ok (.getfield 55, 3) := by decide +kernel
theorem dX12_offer_154 : decode cX12_offer 154 = .ok (.iload_n 1, 1) := by decide +kernel
theorem dX12_offer_155 : decode cX12_offer 155 = .ok (.iload_n 3, 1) := by decide +kernel
theorem dX12_offer_156 : decode cX12_offer 156 = .ok (.iastore, 1) := by decide +kernel
theorem dX12_offer_157 : decode cX12_offer 157 = .ok (.aload_n 0, 1) := by decide +kernel
theorem dX12_offer_158 : decode cX12_offer 158 = .ok (.getfield 58, 3) := by decide +kernel
theorem dX12_offer_161 : decode cX12_offer 161 = .ok (.iload_n 1, 1) := by decide +kernel
theorem dX12_offer_162 : decode cX12_offer 162 = .ok (.iload 4, 2) := by decide +kernel
theorem dX12_offer_164 : decode cX12_offer 164 = .ok (.iastore, 1) := by decide +kernel
theorem dX12_offer_165 : decode cX12_offer 165 = .ok (.aload_n 0, 1) := by decide +kernel
theorem dX12_offer_166 : decode cX12_offer 166 = .ok (.getfield 61, 3) := by decide +kernel
theorem dX12_offer_169 : decode cX12_offer 169 = .ok (.iload_n 1, 1) := by decide +kernel
theorem dX12_offer_170 : decode cX12_offer 170 = .ok (.iload 5, 2) := by decide +kernel
theorem dX12_offer_172 : decode cX12_offer 172 = .ok (.iastore, 1) := by decide +kernel
theorem dX12_offer_173 : decode cX12_offer 173 = .ok (.return_, 1) := by decide +kernel
theorem dX12_isAhead_0 : decode cX12_isAhead 0 = .ok (.aload_n 0, 1) := by decide +kernel
theorem dX12_isAhead_1 : decode cX12_isAhead 1 = .ok (.getfield 55, 3) := by decide +kernel
theorem dX12_isAhead_4 : decode cX12_isAhead 4 = .ok (.iload_n 1, 1) := by decide +kernel
theorem dX12_isAhead_5 : decode cX12_isAhead 5 = .ok (.iaload, 1) := by decide +kernel
theorem dX12_isAhead_6 : decode cX12_isAhead 6 = .ok (.aload_n 0, 1) := by decide +kernel
theorem dX12_isAhead_7 : decode cX12_isAhead 7 = .ok (.getfield 55, 3) := by decide +kernel
theorem dX12_isAhead_10 : decode cX12_isAhead 10 = .ok (.iload_n 2, 1) := by decide +kernel
theorem dX12_isAhead_11 : decode cX12_isAhead 11 = .ok (.iaload, 1) := by decide +kernel
theorem dX12_isAhead_12 : decode cX12_isAhead 12 = .ok (.if_icmp .lt 83, 3) := by decide +kernel
theorem dX12_isAhead_15 : decode cX12_isAhead 15 = .ok (.aload_n 0, 1) := by decide +kernel
theorem dX12_isAhead_16 : decode cX12_isAhead 16 = .ok (.getfield 55, 3) := by decide +kernel
theorem dX12_isAhead_19 : decode cX12_isAhead 19 = .ok (.iload_n 1, 1) := by decide +kernel
theorem dX12_isAhead_20 : decode cX12_isAhead 20 = .ok (.iaload, 1) := by decide +kernel
theorem dX12_isAhead_21 : decode cX12_isAhead 21 = .ok (.aload_n 0, 1) := by decide +kernel
theorem dX12_isAhead_22 : decode cX12_isAhead 22 = .ok (.getfield 55, 3) := by decide +kernel
theorem dX12_isAhead_25 : decode cX12_isAhead 25 = .ok (.iload_n 2, 1) := by decide +kernel
theorem dX12_isAhead_26 : decode cX12_isAhead 26 = .ok (.iaload, 1) := by decide +kernel
theorem dX12_isAhead_27 : decode cX12_isAhead 27 = .ok (.if_icmp .ne 72, 3) := by decide +kernel
theorem dX12_isAhead_30 : decode cX12_isAhead 30 = .ok (.aload_n 0, 1) := by decide +kernel
theorem dX12_isAhead_31 : decode cX12_isAhead 31 = .ok (.getfield 67, 3) := by decide +kernel
theorem dX12_isAhead_34 : decode cX12_isAhead 34 = .ok (.aload_n 0, 1) := by decide +kernel
theorem dX12_isAhead_35 : decode cX12_isAhead 35 = .ok (.getfield 58, 3) := by decide +kernel
theorem dX12_isAhead_38 : decode cX12_isAhead 38 = .ok (.iload_n 1, 1) := by decide +kernel
theorem dX12_isAhead_39 : decode cX12_isAhead 39 = .ok (.iaload, 1) := by decide +kernel
theorem dX12_isAhead_40 : decode cX12_isAhead 40 = .ok (.iaload, 1) := by decide +kernel
theorem dX12_isAhead_41 : decode cX12_isAhead 41 = .ok (.aload_n 0, 1) := by decide +kernel
theorem dX12_isAhead_42 : decode cX12_isAhead 42 = .ok (.getfield 67, 3) := by decide +kernel
theorem dX12_isAhead_45 : decode cX12_isAhead 45 = .ok (.aload_n 0, 1) := by decide +kernel
theorem dX12_isAhead_46 : decode cX12_isAhead 46 = .ok (.getfield 58, 3) := by decide +kernel
theorem dX12_isAhead_49 : decode cX12_isAhead 49 = .ok (.iload_n 2, 1) := by decide +kernel
theorem dX12_isAhead_50 : decode cX12_isAhead 50 = .ok (.iaload, 1) := by decide +kernel
theorem dX12_isAhead_51 : decode cX12_isAhead 51 = .ok (.iaload, 1) := by decide +kernel
theorem dX12_isAhead_52 : decode cX12_isAhead 52 = .ok (.if_icmp .lt 43, 3) := by decide +kernel
theorem dX12_isAhead_55 : decode cX12_isAhead 55 = .ok (.aload_n 0, 1) := by decide +kernel
theorem dX12_isAhead_56 : decode cX12_isAhead 56 = .ok (.getfield 58, 3) := by decide +kernel
theorem dX12_isAhead_59 : decode cX12_isAhead 59 = .ok (.iload_n 1, 1) := by decide +kernel
theorem dX12_isAhead_60 : decode cX12_isAhead 60 = .ok (.iaload, 1) := by decide +kernel
theorem dX12_isAhead_61 : decode cX12_isAhead 61 = .ok (.aload_n 0, 1) := by decide +kernel
theorem dX12_isAhead_62 : decode cX12_isAhead 62 = .ok (.getfield 58, 3) := by decide +kernel
theorem dX12_isAhead_65 : decode cX12_isAhead 65 = .ok (.iload_n 2, 1) := by decide +kernel
theorem dX12_isAhead_66 : decode cX12_isAhead 66 = .ok (.iaload, 1) := by decide +kernel
theorem dX12_isAhead_67 : decode cX12_isAhead 67 = .ok (.if_icmp .ne 32, 3) := by decide +kernel
theorem dX12_isAhead_70 : decode cX12_isAhead 70 = .ok (.aload_n 0, 1) := by decide +kernel
theorem dX12_isAhead_71 : decode cX12_isAhead 71 = .ok (.getfield 67, 3) := by decide +kernel
theorem dX12_isAhead_74 : decode cX12_isAhead 74 = .ok (.aload_n 0, 1) := by decide +kernel
theorem dX12_isAhead_75 : decode cX12_isAhead 75 = .ok (.getfield 61, 3) := by decide +kernel
theorem dX12_isAhead_78 : decode cX12_isAhead 78 = .ok (.iload_n 1, 1) := by decide +kernel
theorem dX12_isAhead_79 : decode cX12_isAhead 79 = .ok (.iaload, 1) := by decide +kernel
theorem dX12_isAhead_80 : decode cX12_isAhead 80 = .ok (.iaload, 1) := by decide +kernel
theorem dX12_isAhead_81 : decode cX12_isAhead 81 = .ok (.aload_n 0, 1) := by decide +kernel
theorem dX12_isAhead_82 : decode cX12_isAhead 82 = .ok (.getfield 67, 3) := by decide +kernel
theorem dX12_isAhead_85 : decode cX12_isAhead 85 = .ok (.aload_n 0, 1) := by decide +kernel
theorem dX12_isAhead_86 : decode cX12_isAhead 86 = .ok (.getfield 61, 3) := by decide +kernel
theorem dX12_isAhead_89 : decode cX12_isAhead 89 = .ok (.iload_n 2, 1) := by decide +kernel
theorem dX12_isAhead_90 : decode cX12_isAhead 90 = .ok (.iaload, 1) := by decide +kernel
theorem dX12_isAhead_91 : decode cX12_isAhead 91 = .ok (.iaload, 1) := by decide +kernel
theorem dX12_isAhead_92 : decode cX12_isAhead 92 = .ok (.if_icmp .ge 7, 3) := by decide +kernel
theorem dX12_isAhead_95 : decode cX12_isAhead 95 = .ok (.iconst 1, 1) := by decide +kernel
theorem dX12_isAhead_96 : decode cX12_isAhead 96 = .ok (.goto 4, 3) := by decide +kernel
theorem dX12_isAhead_99 : decode cX12_isAhead 99 = .ok (.iconst 0, 1) := by decide +kernel
theorem dX12_isAhead_100 : decode cX12_isAhead 100 = .ok (.ireturn, 1) := by decide +kernel
theorem dX12_settle_0 : decode cX12_settle 0 = .ok (.iconst 0, 1) := by decide +kernel
theorem dX12_settle_1 : decode cX12_settle 1 = .ok (.istore_n 2, 1) := by decide +kernel
theorem dX12_settle_2 : decode cX12_settle 2 = .ok (.iconst 0, 1) := by decide +kernel
theorem dX12_settle_3 : decode cX12_settle 3 = .ok (.istore_n 3, 1) := by decide +kernel
theorem dX12_settle_4 : decode cX12_settle 4 = .ok (.iload_n 3, 1) := by decide +kernel
theorem dX12_settle_5 : decode cX12_settle 5 = .ok (.aload_n 0, 1) := by decide +kernel
theorem dX12_settle_6 : decode cX12_settle 6 = .ok (.invokevirtual 204, 3) := by decide +kernel
theorem dX12_settle_9 : decode cX12_settle 9 = .ok (.if_icmp .gt 35, 3) := by decide +kernel
theorem dX12_settle_12 : decode cX12_settle 12 = .ok (.iload_n 2, 1) := by decide +kernel
theorem dX12_settle_13 : decode cX12_settle 13 = .ok (.aload_n 0, 1) := by decide +kernel
theorem dX12_settle_14 : decode cX12_settle 14 = .ok (.getfield 70, 3) := by decide +kernel
theorem dX12_settle_17 : decode cX12_settle 17 = .ok (.iload_n 3, 1) := by decide +kernel
theorem dX12_settle_18 : decode cX12_settle 18 = .ok (.baload, 1) := by decide +kernel
theorem dX12_settle_19 : decode cX12_settle 19 = .ok (.ifCond .eq 16, 3) := by decide +kernel
theorem dX12_settle_22 : decode cX12_settle 22 = .ok (.aload_n 0, 1) := by decide +kernel
theorem dX12_settle_23 : decode cX12_settle 23 = .ok (.iload_n 3, 1) := by decide +kernel
theorem dX12_settle_24 : decode cX12_settle 24 = .ok (.iload_n 1, 1) := by decide +kernel
theorem dX12_settle_25 : decode cX12_settle 25 = .ok (.invokevirtual 235, 3) := by decide +kernel
theorem dX12_settle_28 : decode cX12_settle 28 = .ok (.ifCond .eq 7, 3) := by decide +kernel
theorem dX12_settle_31 : decode cX12_settle 31 = .ok (.iconst 1, 1) := by decide +kernel
theorem dX12_settle_32 : decode cX12_settle 32 = .ok (.goto 4, 3) := by decide +kernel
theorem dX12_settle_35 : decode cX12_settle 35 = .ok (.iconst 0, 1) := by decide +kernel
theorem dX12_settle_36 : decode cX12_settle 36 = .ok (.iadd, 1) := by decide +kernel
theorem dX12_settle_37 : decode cX12_settle 37 = .ok (.istore_n 2, 1) := by decide +kernel
theorem dX12_settle_38 : decode cX12_settle 38 = .ok (.iinc 3 1, 3) := by decide +kernel
theorem dX12_settle_41 : decode cX12_settle 41 = .ok (.goto (-37), 3) := by decide +kernel
theorem dX12_settle_44 : decode cX12_settle 44 = .ok (.iconst 0, 1) := by decide +kernel
theorem dX12_settle_45 : decode cX12_settle 45 = .ok (.istore_n 3, 1) := by decide +kernel
theorem dX12_settle_46 : decode cX12_settle 46 = .ok (.iload_n 3, 1) := by decide +kernel
theorem dX12_settle_47 : decode cX12_settle 47 = .ok (.aload_n 0, 1) := by decide +kernel
theorem dX12_settle_48 : decode cX12_settle 48 = .ok (.invokevirtual 204, 3) := by decide +kernel
theorem dX12_settle_51 : decode cX12_settle 51 = .ok (.if_icmp .gt 42, 3) := by decide +kernel
theorem dX12_settle_54 : decode cX12_settle 54 = .ok (.aload_n 0, 1) := by decide +kernel
theorem dX12_settle_55 : decode cX12_settle 55 = .ok (.getfield 67, 3) := by decide +kernel
theorem dX12_settle_58 : decode cX12_settle 58 = .ok (.iload_n 3, 1) := by decide +kernel
theorem dX12_settle_59 : decode cX12_settle 59 = .ok (.dup2, 1) := by decide +kernel
theorem dX12_settle_60 : decode cX12_settle 60 = .ok (.iaload, 1) := by decide +kernel
theorem dX12_settle_61 : decode cX12_settle 61 = .ok (.aload_n 0, 1) := by decide +kernel
theorem dX12_settle_62 : decode cX12_settle 62 = .ok (.getfield 70, 3) := by decide +kernel
theorem dX12_settle_65 : decode cX12_settle 65 = .ok (.iload_n 3, 1) := by decide +kernel
theorem dX12_settle_66 : decode cX12_settle 66 = .ok (.baload, 1) := by decide +kernel
theorem dX12_settle_67 : decode cX12_settle 67 = .ok (.ifCond .eq 17, 3) := by decide +kernel
theorem dX12_settle_70 : decode cX12_settle 70 = .ok (.aload_n 0, 1) := by decide +kernel
theorem dX12_settle_71 : decode cX12_settle 71 = .ok (.getfield 67, 3) := by decide +kernel
theorem dX12_settle_74 : decode cX12_settle 74 = .ok (.iload_n 3, 1) := by decide +kernel
theorem dX12_settle_75 : decode cX12_settle 75 = .ok (.iaload, 1) := by decide +kernel
theorem dX12_settle_76 : decode cX12_settle 76 = .ok (.iload_n 2, 1) := by decide +kernel
theorem dX12_settle_77 : decode cX12_settle 77 = .ok (.if_icmp .lt 7, 3) := by decide +kernel
theorem dX12_settle_80 : decode cX12_settle 80 = .ok (.iconst 1, 1) := by decide +kernel
theorem dX12_settle_81 : decode cX12_settle 81 = .ok (.goto 4, 3) := by decide +kernel
theorem dX12_settle_84 : decode cX12_settle 84 = .ok (.iconst 0, 1) := by decide +kernel
theorem dX12_settle_85 : decode cX12_settle 85 = .ok (.iadd, 1) := by decide +kernel
theorem dX12_settle_86 : decode cX12_settle 86 = .ok (.iastore, 1) := by decide +kernel
theorem dX12_settle_87 : decode cX12_settle 87 = .ok (.iinc 3 1, 3) := by decide +kernel
theorem dX12_settle_90 : decode cX12_settle 90 = .ok (.goto (-44), 3) := by decide +kernel
theorem dX12_settle_93 : decode cX12_settle 93 = .ok (.aload_n 0, 1) := by decide +kernel
theorem dX12_settle_94 : decode cX12_settle 94 = .ok (.getfield 67, 3) := by decide +kernel
theorem dX12_settle_97 : decode cX12_settle 97 = .ok (.iload_n 1, 1) := by decide +kernel
theorem dX12_settle_98 : decode cX12_settle 98 = .ok (.iload_n 2, 1) := by decide +kernel
theorem dX12_settle_99 : decode cX12_settle 99 = .ok (.iastore, 1) := by decide +kernel
theorem dX12_settle_100 : decode cX12_settle 100 = .ok (.aload_n 0, 1) := by decide +kernel
theorem dX12_settle_101 : decode cX12_settle 101 = .ok (.getfield 70, 3) := by decide +kernel
theorem dX12_settle_104 : decode cX12_settle 104 = .ok (.iload_n 1, 1) := by decide +kernel
theorem dX12_settle_105 : decode cX12_settle 105 = .ok (.iconst 1, 1) := by decide +kernel
theorem dX12_settle_106 : decode cX12_settle 106 = .ok (.bastore, 1) := by decide +kernel
theorem dX12_settle_107 : decode cX12_settle 107 = .ok (.aload_n 0, 1) := by decide +kernel
theorem dX12_settle_108 : decode cX12_settle 108 = .ok (.getfield 55, 3) := by decide +kernel
theorem dX12_settle_111 : decode cX12_settle 111 = .ok (.iload_n 1, 1) := by decide +kernel
theorem dX12_settle_112 : decode cX12_settle 112 = .ok (.iaload, 1) := by decide +kernel
theorem dX12_settle_113 : decode cX12_settle 113 = .ok (.bipush 8, 2) := by decide +kernel
theorem dX12_settle_115 : decode cX12_settle 115 = .ok (.idiv, 1) := by decide +kernel
theorem dX12_settle_116 : decode cX12_settle 116 = .ok (.istore_n 3, 1) := by decide +kernel
theorem dX12_settle_117 : decode cX12_settle 117 = .ok (.aload_n 0, 1) := by decide +kernel
theorem dX12_settle_118 : decode cX12_settle 118 = .ok (.getfield 64, 3) := by decide +kernel
theorem dX12_settle_121 : decode cX12_settle 121 = .ok (.iload_n 1, 1) := by decide +kernel
theorem dX12_settle_122 : decode cX12_settle 122 = .ok (.iconst 1, 1) := by decide +kernel
theorem dX12_settle_123 : decode cX12_settle 123 = .ok (.iload_n 3, 1) := by decide +kernel
theorem dX12_settle_124 : decode cX12_settle 124 = .ok (.invokestatic 198, 3) := by decide +kernel
theorem dX12_settle_127 : decode cX12_settle 127 = .ok (.ifCond .le 17, 3) := by decide +kernel
theorem dX12_settle_130 : decode cX12_settle 130 = .ok (.aload_n 0, 1) := by decide +kernel
theorem dX12_settle_131 : decode cX12_settle 131 = .ok (.getfield 64, 3) := by decide +kernel
theorem dX12_settle_134 : decode cX12_settle 134 = .ok (.aload_n 0, 1) := by decide +kernel
theorem dX12_settle_135 : decode cX12_settle 135 = .ok (.getfield 58, 3) := by decide +kernel
theorem dX12_settle_138 : decode cX12_settle 138 = .ok (.iload_n 1, 1) := by decide +kernel
theorem dX12_settle_139 : decode cX12_settle 139 = .ok (.iaload, 1) := by decide +kernel
theorem dX12_settle_140 : decode cX12_settle 140 = .ok (.iaload, 1) := by decide +kernel
theorem dX12_settle_141 : decode cX12_settle 141 = .ok (.goto 4, 3) := by decide +kernel
theorem dX12_settle_144 : decode cX12_settle 144 = .ok (.iconst 0, 1) := by decide +kernel
theorem dX12_settle_145 : decode cX12_settle 145 = .ok (.iadd, 1) := by decide +kernel
theorem dX12_settle_146 : decode cX12_settle 146 = .ok (.iload_n 3, 1) := by decide +kernel
theorem dX12_settle_147 : decode cX12_settle 147 = .ok (.invokestatic 198, 3) := by decide +kernel
theorem dX12_settle_150 : decode cX12_settle 150 = .ok (.iconst 1, 1) := by decide +kernel
theorem dX12_settle_151 : decode cX12_settle 151 = .ok (.if_icmp .le 17, 3) := by decide +kernel
theorem dX12_settle_154 : decode cX12_settle 154 = .ok (.aload_n 0, 1) := by decide +kernel
theorem dX12_settle_155 : decode cX12_settle 155 = .ok (.getfield 64, 3) := by decide +kernel
theorem dX12_settle_158 : decode cX12_settle 158 = .ok (.aload_n 0, 1) := by decide +kernel
theorem dX12_settle_159 : decode cX12_settle 159 = .ok (.getfield 61, 3) := by decide +kernel
theorem dX12_settle_162 : decode cX12_settle 162 = .ok (.iload_n 1, 1) := by decide +kernel
theorem dX12_settle_163 : decode cX12_settle 163 = .ok (.iaload, 1) := by decide +kernel
theorem dX12_settle_164 : decode cX12_settle 164 = .ok (.iaload, 1) := by decide +kernel
theorem dX12_settle_165 : decode cX12_settle 165 = .ok (.goto 4, 3) := by decide +kernel
theorem dX12_settle_168 : decode cX12_settle 168 = .ok (.iconst 0, 1) := by decide +kernel
theorem dX12_settle_169 : decode cX12_settle 169 = .ok (.iadd, 1) := by decide +kernel
theorem dX12_settle_170 : decode cX12_settle 170 = .ok (.iastore, 1) := by decide +kernel
theorem dX12_settle_171 : decode cX12_settle 171 = .ok (.return_, 1) := by decide +kernel
theorem dX12_search_0 : decode cX12_search 0 = .ok (.iconst 0, 1) := by decide +kernel
theorem dX12_search_1 : decode cX12_search 1 = .ok (.istore_n 2, 1) := by decide +kernel
theorem dX12_search_2 : decode cX12_search 2 = .ok (.iload_n 2, 1) := by decide +kernel
theorem dX12_search_3 : decode cX12_search 3 = .ok (.sipush 256, 3) := by decide +kernel
theorem dX12_search_6 : decode cX12_search 6 = .ok (.if_icmp .ge 30, 3) := by decide +kernel
theorem dX12_search_9 : decode cX12_search 9 = .ok (.aload_n 0, 1) := by decide +kernel
theorem dX12_search_10 : decode cX12_search 10 = .ok (.getfield 52, 3) := by decide +kernel
theorem dX12_search_13 : decode cX12_search 13 = .ok (.iload_n 2, 1) := by decide +kernel
theorem dX12_search_14 : decode cX12_search 14 = .ok (.iconst (-1), 1) := by decide +kernel
theorem dX12_search_15 : decode cX12_search 15 = .ok (.iastore, 1) := by decide +kernel
theorem dX12_search_16 : decode cX12_search 16 = .ok (.aload_n 0, 1) := by decide +kernel
theorem dX12_search_17 : decode cX12_search 17 = .ok (.getfield 70, 3) := by decide +kernel
theorem dX12_search_20 : decode cX12_search 20 = .ok (.iload_n 2, 1) := by decide +kernel
theorem dX12_search_21 : decode cX12_search 21 = .ok (.iconst 0, 1) := by decide +kernel
theorem dX12_search_22 : decode cX12_search 22 = .ok (.bastore, 1) := by decide +kernel
theorem dX12_search_23 : decode cX12_search 23 = .ok (.aload_n 0, 1) := by decide +kernel
theorem dX12_search_24 : decode cX12_search 24 = .ok (.getfield 67, 3) := by decide +kernel
theorem dX12_search_27 : decode cX12_search 27 = .ok (.iload_n 2, 1) := by decide +kernel
theorem dX12_search_28 : decode cX12_search 28 = .ok (.iconst 0, 1) := by decide +kernel
theorem dX12_search_29 : decode cX12_search 29 = .ok (.iastore, 1) := by decide +kernel
theorem dX12_search_30 : decode cX12_search 30 = .ok (.iinc 2 1, 3) := by decide +kernel
theorem dX12_search_33 : decode cX12_search 33 = .ok (.goto (-31), 3) := by decide +kernel
theorem dX12_search_36 : decode cX12_search 36 = .ok (.iconst 0, 1) := by decide +kernel
theorem dX12_search_37 : decode cX12_search 37 = .ok (.istore_n 2, 1) := by decide +kernel
theorem dX12_search_38 : decode cX12_search 38 = .ok (.iload_n 2, 1) := by decide +kernel
theorem dX12_search_39 : decode cX12_search 39 = .ok (.iconst 4, 1) := by decide +kernel
theorem dX12_search_40 : decode cX12_search 40 = .ok (.if_icmp .ge 72, 3) := by decide +kernel
theorem dX12_search_43 : decode cX12_search 43 = .ok (.iconst 0, 1) := by decide +kernel
theorem dX12_search_44 : decode cX12_search 44 = .ok (.istore_n 3, 1) := by decide +kernel
theorem dX12_search_45 : decode cX12_search 45 = .ok (.iload_n 3, 1) := by decide +kernel
theorem dX12_search_46 : decode cX12_search 46 = .ok (.iload_n 2, 1) := by decide +kernel
theorem dX12_search_47 : decode cX12_search 47 = .ok (.ifCond .ne 7, 3) := by decide +kernel
theorem dX12_search_50 : decode cX12_search 50 = .ok (.iconst 1, 1) := by decide +kernel
theorem dX12_search_51 : decode cX12_search 51 = .ok (.goto 13, 3) := by decide +kernel
theorem dX12_search_54 : decode cX12_search 54 = .ok (.iload_n 2, 1) := by decide +kernel
theorem dX12_search_55 : decode cX12_search 55 = .ok (.iconst 3, 1) := by decide +kernel
theorem dX12_search_56 : decode cX12_search 56 = .ok (.if_icmp .ne 7, 3) := by decide +kernel
theorem dX12_search_59 : decode cX12_search 59 = .ok (.iconst 3, 1) := by decide +kernel
theorem dX12_search_60 : decode cX12_search 60 = .ok (.goto 4, 3) := by decide +kernel
theorem dX12_search_63 : decode cX12_search 63 = .ok (.iconst 4, 1) := by decide +kernel
theorem dX12_search_64 : decode cX12_search 64 = .ok (.if_icmp .ge 42, 3) := by decide +kernel
theorem dX12_search_67 : decode cX12_search 67 = .ok (.iload_n 1, 1) := by decide +kernel
theorem dX12_search_68 : decode cX12_search 68 = .ok (.iload_n 2, 1) := by decide +kernel
theorem dX12_search_69 : decode cX12_search 69 = .ok (.ishr, 1) := by decide +kernel
theorem dX12_search_70 : decode cX12_search 70 = .ok (.iconst 1, 1) := by decide +kernel
theorem dX12_search_71 : decode cX12_search 71 = .ok (.iand, 1) := by decide +kernel
theorem dX12_search_72 : decode cX12_search 72 = .ok (.iconst 1, 1) := by decide +kernel
theorem dX12_search_73 : decode cX12_search 73 = .ok (.if_icmp .ne 33, 3) := by decide +kernel
theorem dX12_search_76 : decode cX12_search 76 = .ok (.aload_n 0, 1) := by decide +kernel
theorem dX12_search_77 : decode cX12_search 77 = .ok (.aload_n 0, 1) := by decide +kernel
theorem dX12_search_78 : decode cX12_search 78 = .ok (.iload_n 2, 1) := by decide +kernel
theorem dX12_search_79 : decode cX12_search 79 = .ok (.iload_n 3, 1) := by decide +kernel
theorem dX12_search_80 : decode cX12_search 80 = .ok (.invokevirtual 214, 3) := by decide +kernel
theorem dX12_search_83 : decode cX12_search 83 = .ok (.aload_n 0, 1) := by decide +kernel
theorem dX12_search_84 : decode cX12_search 84 = .ok (.getfield 28, 3) := by decide +kernel
theorem dX12_search_87 : decode cX12_search 87 = .ok (.iload_n 2, 1) := by decide +kernel
theorem dX12_search_88 : decode cX12_search 88 = .ok (.iaload, 1) := by decide +kernel
theorem dX12_search_89 : decode cX12_search 89 = .ok (.bipush 8, 2) := by decide +kernel
theorem dX12_search_91 : decode cX12_search 91 = .ok (.iload_n 2, 1) := by decide +kernel
theorem dX12_search_92 : decode cX12_search 92 = .ok (.imul, 1) := by decide +kernel
theorem dX12_search_93 : decode cX12_search 93 = .ok (.iload_n 3, 1) := by decide +kernel
theorem dX12_search_94 : decode cX12_search 94 = .ok (.iadd, 1) := by decide +kernel
theorem dX12_search_95 : decode cX12_search 95 = .ok (.iconst 0, 1) := by decide +kernel
theorem dX12_search_96 : decode cX12_search 96 = .ok (.iconst 0, 1) := by decide +kernel
theorem dX12_search_97 : decode cX12_search 97 = .ok (.invokevirtual 239, 3) := by decide +kernel
theorem dX12_search_100 : decode cX12_search 100 = .ok (.iinc 3 1, 3) := by decide +kernel
theorem dX12_search_103 : decode cX12_search 103 = .ok (.goto (-58), 3) := by decide +kernel
theorem dX12_search_106 : decode cX12_search 106 = .ok (.iinc 2 1, 3) := by decide +kernel
theorem dX12_search_109 : decode cX12_search 109 = .ok (.goto (-71), 3) := by decide +kernel
theorem dX12_search_112 : decode cX12_search 112 = .ok (.aload_n 0, 1) := by decide +kernel
theorem dX12_search_113 : decode cX12_search 113 = .ok (.invokevirtual 243, 3) := by decide +kernel
theorem dX12_search_116 : decode cX12_search 116 = .ok (.istore_n 2, 1) := by decide +kernel
theorem dX12_search_117 : decode cX12_search 117 = .ok (.iload_n 2, 1) := by decide +kernel
theorem dX12_search_118 : decode cX12_search 118 = .ok (.iconst (-1), 1) := by decide +kernel
theorem dX12_search_119 : decode cX12_search 119 = .ok (.if_icmp .eq 202, 3) := by decide +kernel
theorem dX12_search_122 : decode cX12_search 122 = .ok (.aload_n 0, 1) := by decide +kernel
theorem dX12_search_123 : decode cX12_search 123 = .ok (.iload_n 2, 1) := by decide +kernel
theorem dX12_search_124 : decode cX12_search 124 = .ok (.invokevirtual 246, 3) := by decide +kernel
theorem dX12_search_127 : decode cX12_search 127 = .ok (.iconst 4, 1) := by decide +kernel
theorem dX12_search_128 : decode cX12_search 128 = .ok (.istore_n 3, 1) := by decide +kernel
theorem dX12_search_129 : decode cX12_search 129 = .ok (.iload_n 3, 1) := by decide +kernel
theorem dX12_search_130 : decode cX12_search 130 = .ok (.bipush 15, 2) := by decide +kernel
theorem dX12_search_132 : decode cX12_search 132 = .ok (.if_icmp .ge 181, 3) := by decide +kernel
theorem dX12_search_135 : decode cX12_search 135 = .ok (.iload_n 1, 1) := by decide +kernel
theorem dX12_search_136 : decode cX12_search 136 = .ok (.iload_n 3, 1) := by decide +kernel
theorem dX12_search_137 : decode cX12_search 137 = .ok (.ishr, 1) := by decide +kernel
theorem dX12_search_138 : decode cX12_search 138 = .ok (.iconst 1, 1) := by decide +kernel
theorem dX12_search_139 : decode cX12_search 139 = .ok (.iand, 1) := by decide +kernel
theorem dX12_search_140 : decode cX12_search 140 = .ok (.iconst 1, 1) := by decide +kernel
theorem dX12_search_141 : decode cX12_search 141 = .ok (.if_icmp .ne 41, 3) := by decide +kernel
theorem dX12_search_144 : decode cX12_search 144 = .ok (.iload_n 3, 1) := by decide +kernel
theorem dX12_search_145 : decode cX12_search 145 = .ok (.invokestatic 198, 3) := by decide +kernel
theorem dX12_search_148 : decode cX12_search 148 = .ok (.iconst 1, 1) := by decide +kernel
theorem dX12_search_149 : decode cX12_search 149 = .ok (.if_icmp .ne 33, 3) := by decide +kernel
theorem dX12_search_152 : decode cX12_search 152 = .ok (.aload_n 0, 1) := by decide +kernel
theorem dX12_search_153 : decode cX12_search 153 = .ok (.aload_n 0, 1) := by decide +kernel
theorem dX12_search_154 : decode cX12_search 154 = .ok (.iload_n 3, 1) := by decide +kernel
theorem dX12_search_155 : decode cX12_search 155 = .ok (.iload_n 2, 1) := by decide +kernel
theorem dX12_search_156 : decode cX12_search 156 = .ok (.iconst 0, 1) := by decide +kernel
theorem dX12_search_157 : decode cX12_search 157 = .ok (.invokevirtual 218, 3) := by decide +kernel
theorem dX12_search_160 : decode cX12_search 160 = .ok (.aload_n 0, 1) := by decide +kernel
theorem dX12_search_161 : decode cX12_search 161 = .ok (.getfield 52, 3) := by decide +kernel
theorem dX12_search_164 : decode cX12_search 164 = .ok (.iload_n 2, 1) := by decide +kernel
theorem dX12_search_165 : decode cX12_search 165 = .ok (.iaload, 1) := by decide +kernel
theorem dX12_search_166 : decode cX12_search 166 = .ok (.aload_n 0, 1) := by decide +kernel
theorem dX12_search_167 : decode cX12_search 167 = .ok (.getfield 28, 3) := by decide +kernel
theorem dX12_search_170 : decode cX12_search 170 = .ok (.iload_n 3, 1) := by decide +kernel
theorem dX12_search_171 : decode cX12_search 171 = .ok (.iaload, 1) := by decide +kernel
theorem dX12_search_172 : decode cX12_search 172 = .ok (.iadd, 1) := by decide +kernel
theorem dX12_search_173 : decode cX12_search 173 = .ok (.bipush 8, 2) := by decide +kernel
theorem dX12_search_175 : decode cX12_search 175 = .ok (.iload_n 3, 1) := by decide +kernel
theorem dX12_search_176 : decode cX12_search 176 = .ok (.imul, 1) := by decide +kernel
theorem dX12_search_177 : decode cX12_search 177 = .ok (.iload_n 2, 1) := by decide +kernel
theorem dX12_search_178 : decode cX12_search 178 = .ok (.iconst 0, 1) := by decide +kernel
theorem dX12_search_179 : decode cX12_search 179 = .ok (.invokevirtual 239, 3) := by decide +kernel
theorem dX12_search_182 : decode cX12_search 182 = .ok (.iconst 0, 1) := by decide +kernel
theorem dX12_search_183 : decode cX12_search 183 = .ok (.istore 4, 2) := by decide +kernel
theorem dX12_search_185 : decode cX12_search 185 = .ok (.iload 4, 2) := by decide +kernel
theorem dX12_search_187 : decode cX12_search 187 = .ok (.aload_n 0, 1) := by decide +kernel
theorem dX12_search_188 : decode cX12_search 188 = .ok (.invokevirtual 204, 3) := by decide +kernel
theorem dX12_search_191 : decode cX12_search 191 = .ok (.if_icmp .gt 116, 3) := by decide +kernel
theorem dX12_search_194 : decode cX12_search 194 = .ok (.iload_n 3, 1) := by decide +kernel
theorem dX12_search_195 : decode cX12_search 195 = .ok (.invokestatic 198, 3) := by decide +kernel
theorem dX12_search_198 : decode cX12_search 198 = .ok (.iconst 2, 1) := by decide +kernel
theorem dX12_search_199 : decode cX12_search 199 = .ok (.if_icmp .ne 108, 3) := by decide +kernel
theorem dX12_search_202 : decode cX12_search 202 = .ok (.iload_n 1, 1) := by decide +kernel
theorem dX12_search_203 : decode cX12_search 203 = .ok (.iload_n 3, 1) := by decide +kernel
theorem dX12_search_204 : decode cX12_search 204 = .ok (.ishr, 1) := by decide +kernel
theorem dX12_search_205 : decode cX12_search 205 = .ok (.iconst 1, 1) := by decide +kernel
theorem dX12_search_206 : decode cX12_search 206 = .ok (.iand, 1) := by decide +kernel
theorem dX12_search_207 : decode cX12_search 207 = .ok (.iconst 1, 1) := by decide +kernel
theorem dX12_search_208 : decode cX12_search 208 = .ok (.if_icmp .ne 99, 3) := by decide +kernel
theorem dX12_search_211 : decode cX12_search 211 = .ok (.aload_n 0, 1) := by decide +kernel
theorem dX12_search_212 : decode cX12_search 212 = .ok (.getfield 70, 3) := by decide +kernel
theorem dX12_search_215 : decode cX12_search 215 = .ok (.iload 4, 2) := by decide +kernel
theorem dX12_search_217 : decode cX12_search 217 = .ok (.baload, 1) := by decide +kernel
theorem dX12_search_218 : decode cX12_search 218 = .ok (.ifCond .eq 83, 3) := by decide +kernel
theorem dX12_search_221 : decode cX12_search 221 = .ok (.aload_n 0, 1) := by decide +kernel
theorem dX12_search_222 : decode cX12_search 222 = .ok (.aload_n 0, 1) := by decide +kernel
theorem dX12_search_223 : decode cX12_search 223 = .ok (.iload_n 3, 1) := by decide +kernel
theorem dX12_search_224 : decode cX12_search 224 = .ok (.iload_n 2, 1) := by decide +kernel
theorem dX12_search_225 : decode cX12_search 225 = .ok (.iload 4, 2) := by decide +kernel
theorem dX12_search_227 : decode cX12_search 227 = .ok (.invokevirtual 218, 3) := by decide +kernel
theorem dX12_search_230 : decode cX12_search 230 = .ok (.aload_n 0, 1) := by decide +kernel
theorem dX12_search_231 : decode cX12_search 231 = .ok (.getfield 52, 3) := by decide +kernel
theorem dX12_search_234 : decode cX12_search 234 = .ok (.iload_n 2, 1) := by decide +kernel
theorem dX12_search_235 : decode cX12_search 235 = .ok (.iaload, 1) := by decide +kernel
theorem dX12_search_236 : decode cX12_search 236 = .ok (.aload_n 0, 1) := by decide +kernel
theorem dX12_search_237 : decode cX12_search 237 = .ok (.getfield 52, 3) := by decide +kernel
theorem dX12_search_240 : decode cX12_search 240 = .ok (.iload 4, 2) := by decide +kernel
theorem dX12_search_242 : decode cX12_search 242 = .ok (.iaload, 1) := by decide +kernel
theorem dX12_search_243 : decode cX12_search 243 = .ok (.iadd, 1) := by decide +kernel
theorem dX12_search_244 : decode cX12_search 244 = .ok (.aload_n 0, 1) := by decide +kernel
theorem dX12_search_245 : decode cX12_search 245 = .ok (.getfield 28, 3) := by decide +kernel
theorem dX12_search_248 : decode cX12_search 248 = .ok (.iload_n 3, 1) := by decide +kernel
theorem dX12_search_249 : decode cX12_search 249 = .ok (.iaload, 1) := by decide +kernel
theorem dX12_search_250 : decode cX12_search 250 = .ok (.iadd, 1) := by decide +kernel
theorem dX12_search_251 : decode cX12_search 251 = .ok (.bipush 8, 2) := by decide +kernel
theorem dX12_search_253 : decode cX12_search 253 = .ok (.iload_n 3, 1) := by decide +kernel
theorem dX12_search_254 : decode cX12_search 254 = .ok (.imul, 1) := by decide +kernel
theorem dX12_search_255 : decode cX12_search 255 = .ok (.iload_n 2, 1) := by decide +kernel
theorem dX12_search_256 : decode cX12_search 256 = .ok (.iload 4, 2) := by decide +kernel
theorem dX12_search_258 : decode cX12_search 258 = .ok (.invokevirtual 239, 3) := by decide +kernel
theorem dX12_search_261 : decode cX12_search 261 = .ok (.aload_n 0, 1) := by decide +kernel
theorem dX12_search_262 : decode cX12_search 262 = .ok (.aload_n 0, 1) := by decide +kernel
theorem dX12_search_263 : decode cX12_search 263 = .ok (.iload_n 3, 1) := by decide +kernel
theorem dX12_search_264 : decode cX12_search 264 = .ok (.iload 4, 2) := by decide +kernel
theorem dX12_search_266 : decode cX12_search 266 = .ok (.iload_n 2, 1) := by decide +kernel
theorem dX12_search_267 : decode cX12_search 267 = .ok (.invokevirtual 218, 3) := by decide +kernel
theorem dX12_search_270 : decode cX12_search 270 = .ok (.aload_n 0, 1) := by decide +kernel
theorem dX12_search_271 : decode cX12_search 271 = .ok (.getfield 52, 3) := by decide +kernel
theorem dX12_search_274 : decode cX12_search 274 = .ok (.iload_n 2, 1) := by decide +kernel
theorem dX12_search_275 : decode cX12_search 275 = .ok (.iaload, 1) := by decide +kernel
theorem dX12_search_276 : decode cX12_search 276 = .ok (.aload_n 0, 1) := by decide +kernel
theorem dX12_search_277 : decode cX12_search 277 = .ok (.getfield 52, 3) := by decide +kernel
theorem dX12_search_280 : decode cX12_search 280 = .ok (.iload 4, 2) := by decide +kernel
theorem dX12_search_282 : decode cX12_search 282 = .ok (.iaload, 1) := by decide +kernel
theorem dX12_search_283 : decode cX12_search 283 = .ok (.iadd, 1) := by decide +kernel
theorem dX12_search_284 : decode cX12_search 284 = .ok (.aload_n 0, 1) := by decide +kernel
theorem dX12_search_285 : decode cX12_search 285 = .ok (.getfield 28, 3) := by decide +kernel
theorem dX12_search_288 : decode cX12_search 288 = .ok (.iload_n 3, 1) := by decide +kernel
theorem dX12_search_289 : decode cX12_search 289 = .ok (.iaload, 1) := by decide +kernel
theorem dX12_search_290 : decode cX12_search 290 = .ok (.iadd, 1) := by decide +kernel
theorem dX12_search_291 : decode cX12_search 291 = .ok (.bipush 8, 2) := by decide +kernel
theorem dX12_search_293 : decode cX12_search 293 = .ok (.iload_n 3, 1) := by decide +kernel
theorem dX12_search_294 : decode cX12_search 294 = .ok (.imul, 1) := by decide +kernel
theorem dX12_search_295 : decode cX12_search 295 = .ok (.iload 4, 2) := by decide +kernel
theorem dX12_search_297 : decode cX12_search 297 = .ok (.iload_n 2, 1) := by decide +kernel
theorem dX12_search_298 : decode cX12_search 298 = .ok (.invokevirtual 239, 3) := by decide +kernel
theorem dX12_search_301 : decode cX12_search 301 = .ok (.iinc 4 1, 3) := by decide +kernel
theorem dX12_search_304 : decode cX12_search 304 = .ok (.goto (-119), 3) := by decide +kernel
theorem dX12_search_307 : decode cX12_search 307 = .ok (.iinc 3 1, 3) := by decide +kernel
theorem dX12_search_310 : decode cX12_search 310 = .ok (.goto (-181), 3) := by decide +kernel
theorem dX12_search_313 : decode cX12_search 313 = .ok (.aload_n 0, 1) := by decide +kernel
theorem dX12_search_314 : decode cX12_search 314 = .ok (.invokevirtual 243, 3) := by decide +kernel
theorem dX12_search_317 : decode cX12_search 317 = .ok (.istore_n 2, 1) := by decide +kernel
theorem dX12_search_318 : decode cX12_search 318 = .ok (.goto (-201), 3) := by decide +kernel
theorem dX12_search_321 : decode cX12_search 321 = .ok (.return_, 1) := by decide +kernel
theorem dX12_cheapestLeft_0 : decode cX12_cheapestLeft 0 = .ok (.iconst (-1), 1) := by decide +kernel
theorem dX12_cheapestLeft_1 : decode cX12_cheapestLeft 1 = .ok (.istore_n 1, 1) := by decide +kernel
theorem dX12_cheapestLeft_2 : decode cX12_cheapestLeft 2 = .ok (.iconst 0, 1) := by decide +kernel
theorem dX12_cheapestLeft_3 : decode cX12_cheapestLeft 3 = .ok (.istore_n 2, 1) := by decide +kernel
theorem dX12_cheapestLeft_4 : decode cX12_cheapestLeft 4 = .ok (.iload_n 2, 1) := by decide +kernel
theorem dX12_cheapestLeft_5 : decode cX12_cheapestLeft 5 = .ok (.aload_n 0, 1) := by decide +kernel
theorem dX12_cheapestLeft_6 : decode cX12_cheapestLeft 6 = .ok (.invokevirtual 204, 3) := by decide +kernel
theorem dX12_cheapestLeft_9 : decode cX12_cheapestLeft 9 = .ok (.if_icmp .gt 54, 3) := by decide +kernel
theorem dX12_cheapestLeft_12 : decode cX12_cheapestLeft 12 = .ok (.aload_n 0, 1) := by decide +kernel
theorem dX12_cheapestLeft_13 : decode cX12_cheapestLeft 13 = .ok (.getfield 70, 3) := by decide +kernel
theorem dX12_cheapestLeft_16 : decode cX12_cheapestLeft 16 = .ok (.iload_n 2, 1) := by decide +kernel
theorem dX12_cheapestLeft_17 : decode cX12_cheapestLeft 17 = .ok (.baload, 1) := by decide +kernel
theorem dX12_cheapestLeft_18 : decode cX12_cheapestLeft 18 = .ok (.ifCond .ne 37, 3) := by decide +kernel
theorem dX12_cheapestLeft_21 : decode cX12_cheapestLeft 21 = .ok (.aload_n 0, 1) := by decide +kernel
theorem dX12_cheapestLeft_22 : decode cX12_cheapestLeft 22 = .ok (.getfield 52, 3) := by decide +kernel
theorem dX12_cheapestLeft_25 : decode cX12_cheapestLeft 25 = .ok (.iload_n 2, 1) := by decide +kernel
theorem dX12_cheapestLeft_26 : decode cX12_cheapestLeft 26 = .ok (.iaload, 1) := by decide +kernel
theorem dX12_cheapestLeft_27 : decode cX12_cheapestLeft 27 = .ok (.iconst (-1), 1) := by decide +kernel
theorem dX12_cheapestLeft_28 : decode cX12_cheapestLeft 28 = .ok (.if_icmp .eq 27, 3) := by decide +kernel
theorem dX12_cheapestLeft_31 : decode cX12_cheapestLeft 31 = .ok (.iload_n 1, 1) := by decide +kernel
theorem dX12_cheapestLeft_32 : decode cX12_cheapestLeft 32 = .ok (.iconst (-1), 1) := by decide +kernel
theorem dX12_cheapestLeft_33 : decode cX12_cheapestLeft 33 = .ok (.if_icmp .eq 18, 3) := by decide +kernel
theorem dX12_cheapestLeft_36 : decode cX12_cheapestLeft 36 = .ok (.aload_n 0, 1) := by decide +kernel
theorem dX12_cheapestLeft_37 : decode cX12_cheapestLeft 37 = .ok (.getfield 52, 3) := by decide +kernel
theorem dX12_cheapestLeft_40 : decode cX12_cheapestLeft 40 = .ok (.iload_n 2, 1) := by decide +kernel
theorem dX12_cheapestLeft_41 : decode cX12_cheapestLeft 41 = .ok (.iaload, 1) := by decide +kernel
theorem dX12_cheapestLeft_42 : decode cX12_cheapestLeft 42 = .ok (.aload_n 0, 1) := by decide +kernel
theorem dX12_cheapestLeft_43 : decode cX12_cheapestLeft 43 = .ok (.getfield 52, 3) := by decide +kernel
theorem dX12_cheapestLeft_46 : decode cX12_cheapestLeft 46 = .ok (.iload_n 1, 1) := by decide +kernel
theorem dX12_cheapestLeft_47 : decode cX12_cheapestLeft 47 = .ok (.iaload, 1) := by decide +kernel
theorem dX12_cheapestLeft_48 : decode cX12_cheapestLeft 48 = .ok (.if_icmp .ge 7, 3) := by decide +kernel
theorem dX12_cheapestLeft_51 : decode cX12_cheapestLeft 51 = .ok (.iload_n 2, 1) := by decide +kernel
theorem dX12_cheapestLeft_52 : decode cX12_cheapestLeft 52 = .ok (.goto 4, 3) := by decide +kernel
theorem dX12_cheapestLeft_55 : decode cX12_cheapestLeft 55 = .ok (.iload_n 1, 1) := by decide +kernel
theorem dX12_cheapestLeft_56 : decode cX12_cheapestLeft 56 = .ok (.istore_n 1, 1) := by decide +kernel
theorem dX12_cheapestLeft_57 : decode cX12_cheapestLeft 57 = .ok (.iinc 2 1, 3) := by decide +kernel
theorem dX12_cheapestLeft_60 : decode cX12_cheapestLeft 60 = .ok (.goto (-56), 3) := by decide +kernel
theorem dX12_cheapestLeft_63 : decode cX12_cheapestLeft 63 = .ok (.iload_n 1, 1) := by decide +kernel
theorem dX12_cheapestLeft_64 : decode cX12_cheapestLeft 64 = .ok (.ireturn, 1) := by decide +kernel
theorem dX12_areWords_0 : decode cX12_areWords 0 = .ok (.iload_n 0, 1) := by decide +kernel
theorem dX12_areWords_1 : decode cX12_areWords 1 = .ok (.iconst 0, 1) := by decide +kernel
theorem dX12_areWords_2 : decode cX12_areWords 2 = .ok (.sipush 32767, 3) := by decide +kernel
theorem dX12_areWords_5 : decode cX12_areWords 5 = .ok (.invokestatic 102, 3) := by decide +kernel
theorem dX12_areWords_8 : decode cX12_areWords 8 = .ok (.ireturn, 1) := by decide +kernel
theorem dX12_cheapest_0 : decode cX12_cheapest 0 = .ok (.iload_n 1, 1) := by decide +kernel
theorem dX12_cheapest_1 : decode cX12_cheapest 1 = .ok (.iconst 0, 1) := by decide +kernel
theorem dX12_cheapest_2 : decode cX12_cheapest 2 = .ok (.aload_n 0, 1) := by decide +kernel
theorem dX12_cheapest_3 : decode cX12_cheapest 3 = .ok (.invokevirtual 204, 3) := by decide +kernel
theorem dX12_cheapest_6 : decode cX12_cheapest 6 = .ok (.invokestatic 102, 3) := by decide +kernel
theorem dX12_cheapest_9 : decode cX12_cheapest 9 = .ok (.ifCond .eq 16, 3) := by decide +kernel
theorem dX12_cheapest_12 : decode cX12_cheapest 12 = .ok (.iload_n 2, 1) := by decide +kernel
theorem dX12_cheapest_13 : decode cX12_cheapest 13 = .ok (.invokestatic 249, 3) := by decide +kernel
theorem dX12_cheapest_16 : decode cX12_cheapest 16 = .ok (.ifCond .eq 9, 3) := by decide +kernel
theorem dX12_cheapest_19 : decode cX12_cheapest 19 = .ok (.iload_n 3, 1) := by decide +kernel
theorem dX12_cheapest_20 : decode cX12_cheapest 20 = .ok (.bipush (-2), 2) := by decide +kernel
theorem dX12_cheapest_22 : decode cX12_cheapest 22 = .ok (.if_icmp .ge 6, 3) := by decide +kernel
theorem dX12_cheapest_25 : decode cX12_cheapest 25 = .ok (.bipush (-3), 2) := by decide +kernel
theorem dX12_cheapest_27 : decode cX12_cheapest 27 = .ok (.ireturn, 1) := by decide +kernel
theorem dX12_cheapest_28 : decode cX12_cheapest 28 = .ok (.aload_n 0, 1) := by decide +kernel
theorem dX12_cheapest_29 : decode cX12_cheapest 29 = .ok (.iload_n 2, 1) := by decide +kernel
theorem dX12_cheapest_30 : decode cX12_cheapest 30 = .ok (.invokevirtual 252, 3) := by decide +kernel
theorem dX12_cheapest_33 : decode cX12_cheapest 33 = .ok (.aload_n 0, 1) := by decide +kernel
theorem dX12_cheapest_34 : decode cX12_cheapest 34 = .ok (.getfield 52, 3) := by decide +kernel
theorem dX12_cheapest_37 : decode cX12_cheapest 37 = .ok (.iload_n 1, 1) := by decide +kernel
theorem dX12_cheapest_38 : decode cX12_cheapest 38 = .ok (.iaload, 1) := by decide +kernel
theorem dX12_cheapest_39 : decode cX12_cheapest 39 = .ok (.iconst (-1), 1) := by decide +kernel
theorem dX12_cheapest_40 : decode cX12_cheapest 40 = .ok (.if_icmp .eq 13, 3) := by decide +kernel
theorem dX12_cheapest_43 : decode cX12_cheapest 43 = .ok (.iload_n 3, 1) := by decide +kernel
theorem dX12_cheapest_44 : decode cX12_cheapest 44 = .ok (.aload_n 0, 1) := by decide +kernel
theorem dX12_cheapest_45 : decode cX12_cheapest 45 = .ok (.getfield 64, 3) := by decide +kernel
theorem dX12_cheapest_48 : decode cX12_cheapest 48 = .ok (.iload_n 1, 1) := by decide +kernel
theorem dX12_cheapest_49 : decode cX12_cheapest 49 = .ok (.iaload, 1) := by decide +kernel
theorem dX12_cheapest_50 : decode cX12_cheapest 50 = .ok (.if_icmp .lt 5, 3) := by decide +kernel
theorem dX12_cheapest_53 : decode cX12_cheapest 53 = .ok (.iconst (-1), 1) := by decide +kernel
theorem dX12_cheapest_54 : decode cX12_cheapest 54 = .ok (.ireturn, 1) := by decide +kernel
theorem dX12_cheapest_55 : decode cX12_cheapest 55 = .ok (.iload_n 3, 1) := by decide +kernel
theorem dX12_cheapest_56 : decode cX12_cheapest 56 = .ok (.ifCond .ge 24, 3) := by decide +kernel
theorem dX12_cheapest_59 : decode cX12_cheapest 59 = .ok (.iload_n 3, 1) := by decide +kernel
theorem dX12_cheapest_60 : decode cX12_cheapest 60 = .ok (.iconst (-1), 1) := by decide +kernel
theorem dX12_cheapest_61 : decode cX12_cheapest 61 = .ok (.if_icmp .ne 12, 3) := by decide +kernel
theorem dX12_cheapest_64 : decode cX12_cheapest 64 = .ok (.aload_n 0, 1) := by decide +kernel
theorem dX12_cheapest_65 : decode cX12_cheapest 65 = .ok (.getfield 52, 3) := by decide +kernel
theorem dX12_cheapest_68 : decode cX12_cheapest 68 = .ok (.iload_n 1, 1) := by decide +kernel
theorem dX12_cheapest_69 : decode cX12_cheapest 69 = .ok (.iaload, 1) := by decide +kernel
theorem dX12_cheapest_70 : decode cX12_cheapest 70 = .ok (.goto 9, 3) := by decide +kernel
theorem dX12_cheapest_73 : decode cX12_cheapest 73 = .ok (.aload_n 0, 1) := by decide +kernel
theorem dX12_cheapest_74 : decode cX12_cheapest 74 = .ok (.getfield 64, 3) := by decide +kernel
theorem dX12_cheapest_77 : decode cX12_cheapest 77 = .ok (.iload_n 1, 1) := by decide +kernel
theorem dX12_cheapest_78 : decode cX12_cheapest 78 = .ok (.iaload, 1) := by decide +kernel
theorem dX12_cheapest_79 : decode cX12_cheapest 79 = .ok (.ireturn, 1) := by decide +kernel
theorem dX12_cheapest_80 : decode cX12_cheapest 80 = .ok (.iload_n 1, 1) := by decide +kernel
theorem dX12_cheapest_81 : decode cX12_cheapest 81 = .ok (.istore 4, 2) := by decide +kernel
theorem dX12_cheapest_83 : decode cX12_cheapest 83 = .ok (.iload_n 3, 1) := by decide +kernel
theorem dX12_cheapest_84 : decode cX12_cheapest 84 = .ok (.istore 5, 2) := by decide +kernel
theorem dX12_cheapest_86 : decode cX12_cheapest 86 = .ok (.iload 5, 2) := by decide +kernel
theorem dX12_cheapest_88 : decode cX12_cheapest 88 = .ok (.ifCond .le 85, 3) := by decide +kernel
theorem dX12_cheapest_91 : decode cX12_cheapest 91 = .ok (.iload 5, 2) := by decide +kernel
theorem dX12_cheapest_93 : decode cX12_cheapest 93 = .ok (.aload_n 0, 1) := by decide +kernel
theorem dX12_cheapest_94 : decode cX12_cheapest 94 = .ok (.getfield 64, 3) := by decide +kernel
theorem dX12_cheapest_97 : decode cX12_cheapest 97 = .ok (.aload_n 0, 1) := by decide +kernel
theorem dX12_cheapest_98 : decode cX12_cheapest 98 = .ok (.getfield 58, 3) := by decide +kernel
theorem dX12_cheapest_101 : decode cX12_cheapest 101 = .ok (.iload 4, 2) := by decide +kernel
theorem dX12_cheapest_103 : decode cX12_cheapest 103 = .ok (.iaload, 1) := by decide +kernel
theorem dX12_cheapest_104 : decode cX12_cheapest 104 = .ok (.iaload, 1) := by decide +kernel
theorem dX12_cheapest_105 : decode cX12_cheapest 105 = .ok (.if_icmp .gt 7, 3) := by decide +kernel
theorem dX12_cheapest_108 : decode cX12_cheapest 108 = .ok (.iconst 1, 1) := by decide +kernel
theorem dX12_cheapest_109 : decode cX12_cheapest 109 = .ok (.goto 4, 3) := by decide +kernel
theorem dX12_cheapest_112 : decode cX12_cheapest 112 = .ok (.iconst 0, 1) := by decide +kernel
theorem dX12_cheapest_113 : decode cX12_cheapest 113 = .ok (.istore 6, 2) := by decide +kernel
theorem dX12_cheapest_115 : decode cX12_cheapest 115 = .ok (.iload 6, 2) := by decide +kernel
theorem dX12_cheapest_117 : decode cX12_cheapest 117 = .ok (.ifCond .eq 10, 3) := by decide +kernel
theorem dX12_cheapest_120 : decode cX12_cheapest 120 = .ok (.iload 5, 2) := by decide +kernel
theorem dX12_cheapest_122 : decode cX12_cheapest 122 = .ok (.iconst 1, 1) := by decide +kernel
theorem dX12_cheapest_123 : decode cX12_cheapest 123 = .ok (.isub, 1) := by decide +kernel
theorem dX12_cheapest_124 : decode cX12_cheapest 124 = .ok (.goto 20, 3) := by decide +kernel
theorem dX12_cheapest_127 : decode cX12_cheapest 127 = .ok (.iload 5, 2) := by decide +kernel
theorem dX12_cheapest_129 : decode cX12_cheapest 129 = .ok (.iconst 1, 1) := by decide +kernel
theorem dX12_cheapest_130 : decode cX12_cheapest 130 = .ok (.isub, 1) := by decide +kernel
theorem dX12_cheapest_131 : decode cX12_cheapest 131 = .ok (.aload_n 0, 1) := by decide +kernel
theorem dX12_cheapest_132 : decode cX12_cheapest 132 = .ok (.getfield 64, 3) := by decide +kernel
theorem dX12_cheapest_135 : decode cX12_cheapest 135 = .ok (.aload_n 0, 1) := by decide +kernel
theorem dX12_cheapest_136 : decode cX12_cheapest 136 = .ok (.getfield 58, 3) := by decide +kernel
theorem dX12_cheapest_139 : decode cX12_cheapest 139 = .ok (.iload 4, 2) := by decide +kernel
theorem dX12_cheapest_141 : decode cX12_cheapest 141 = .ok (.iaload, 1) := by decide +kernel
theorem dX12_cheapest_142 : decode cX12_cheapest 142 = .ok (.iaload, 1) := by decide +kernel
theorem dX12_cheapest_143 : decode cX12_cheapest 143 = .ok (.isub, 1) := by decide +kernel
theorem dX12_cheapest_144 : decode cX12_cheapest 144 = .ok (.istore 5, 2) := by decide +kernel
theorem dX12_cheapest_146 : decode cX12_cheapest 146 = .ok (.iload 6, 2) := by decide +kernel
theorem dX12_cheapest_148 : decode cX12_cheapest 148 = .ok (.ifCond .eq 13, 3) := by decide +kernel
theorem dX12_cheapest_151 : decode cX12_cheapest 151 = .ok (.aload_n 0, 1) := by decide +kernel
theorem dX12_cheapest_152 : decode cX12_cheapest 152 = .ok (.getfield 58, 3) := by decide +kernel
theorem dX12_cheapest_155 : decode cX12_cheapest 155 = .ok (.iload 4, 2) := by decide +kernel
theorem dX12_cheapest_157 : decode cX12_cheapest 157 = .ok (.iaload, 1) := by decide +kernel
theorem dX12_cheapest_158 : decode cX12_cheapest 158 = .ok (.goto 10, 3) := by decide +kernel
theorem dX12_cheapest_161 : decode cX12_cheapest 161 = .ok (.aload_n 0, 1) := by decide +kernel
theorem dX12_cheapest_162 : decode cX12_cheapest 162 = .ok (.getfield 61, 3) := by decide +kernel
theorem dX12_cheapest_165 : decode cX12_cheapest 165 = .ok (.iload 4, 2) := by decide +kernel
theorem dX12_cheapest_167 : decode cX12_cheapest 167 = .ok (.iaload, 1) := by decide +kernel
theorem dX12_cheapest_168 : decode cX12_cheapest 168 = .ok (.istore 4, 2) := by decide +kernel
theorem dX12_cheapest_170 : decode cX12_cheapest 170 = .ok (.goto (-84), 3) := by decide +kernel
theorem dX12_cheapest_173 : decode cX12_cheapest 173 = .ok (.aload_n 0, 1) := by decide +kernel
theorem dX12_cheapest_174 : decode cX12_cheapest 174 = .ok (.getfield 55, 3) := by decide +kernel
theorem dX12_cheapest_177 : decode cX12_cheapest 177 = .ok (.iload 4, 2) := by decide +kernel
theorem dX12_cheapest_179 : decode cX12_cheapest 179 = .ok (.iaload, 1) := by decide +kernel
theorem dX12_cheapest_180 : decode cX12_cheapest 180 = .ok (.ireturn, 1) := by decide +kernel
theorem dX12_sets_0 : decode cX12_sets 0 = .ok (.iload_n 1, 1) := by decide +kernel
theorem dX12_sets_1 : decode cX12_sets 1 = .ok (.invokestatic 249, 3) := by decide +kernel
theorem dX12_sets_4 : decode cX12_sets 4 = .ok (.ifCond .ne 6, 3) := by decide +kernel
theorem dX12_sets_7 : decode cX12_sets 7 = .ok (.bipush (-3), 2) := by decide +kernel
theorem dX12_sets_9 : decode cX12_sets 9 = .ok (.ireturn, 1) := by decide +kernel
theorem dX12_sets_10 : decode cX12_sets 10 = .ok (.aload_n 0, 1) := by decide +kernel
theorem dX12_sets_11 : decode cX12_sets 11 = .ok (.iload_n 1, 1) := by decide +kernel
theorem dX12_sets_12 : decode cX12_sets 12 = .ok (.invokevirtual 252, 3) := by decide +kernel
theorem dX12_sets_15 : decode cX12_sets 15 = .ok (.iconst 0, 1) := by decide +kernel
theorem dX12_sets_16 : decode cX12_sets 16 = .ok (.istore_n 2, 1) := by decide +kernel
theorem dX12_sets_17 : decode cX12_sets 17 = .ok (.iconst 0, 1) := by decide +kernel
theorem dX12_sets_18 : decode cX12_sets 18 = .ok (.istore_n 3, 1) := by decide +kernel
theorem dX12_sets_19 : decode cX12_sets 19 = .ok (.iload_n 3, 1) := by decide +kernel
theorem dX12_sets_20 : decode cX12_sets 20 = .ok (.aload_n 0, 1) := by decide +kernel
theorem dX12_sets_21 : decode cX12_sets 21 = .ok (.invokevirtual 204, 3) := by decide +kernel
theorem dX12_sets_24 : decode cX12_sets 24 = .ok (.if_icmp .gt 27, 3) := by decide +kernel
theorem dX12_sets_27 : decode cX12_sets 27 = .ok (.iload_n 2, 1) := by decide +kernel
theorem dX12_sets_28 : decode cX12_sets 28 = .ok (.aload_n 0, 1) := by decide +kernel
theorem dX12_sets_29 : decode cX12_sets 29 = .ok (.getfield 52, 3) := by decide +kernel
theorem dX12_sets_32 : decode cX12_sets 32 = .ok (.iload_n 3, 1) := by decide +kernel
theorem dX12_sets_33 : decode cX12_sets 33 = .ok (.iaload, 1) := by decide +kernel
theorem dX12_sets_34 : decode cX12_sets 34 = .ok (.iconst (-1), 1) := by decide +kernel
theorem dX12_sets_35 : decode cX12_sets 35 = .ok (.if_icmp .ne 7, 3) := by decide +kernel
theorem dX12_sets_38 : decode cX12_sets 38 = .ok (.iconst 0, 1) := by decide +kernel
theorem dX12_sets_39 : decode cX12_sets 39 = .ok (.goto 4, 3) := by decide +kernel
theorem dX12_sets_42 : decode cX12_sets 42 = .ok (.iconst 1, 1) := by decide +kernel
theorem dX12_sets_43 : decode cX12_sets 43 = .ok (.iadd, 1) := by decide +kernel
theorem dX12_sets_44 : decode cX12_sets 44 = .ok (.istore_n 2, 1) := by decide +kernel
theorem dX12_sets_45 : decode cX12_sets 45 = .ok (.iinc 3 1, 3) := by decide +kernel
theorem dX12_sets_48 : decode cX12_sets 48 = .ok (.goto (-29), 3) := by decide +kernel
theorem dX12_sets_51 : decode cX12_sets 51 = .ok (.iload_n 2, 1) := by decide +kernel
theorem dX12_sets_52 : decode cX12_sets 52 = .ok (.ireturn, 1) := by decide +kernel
theorem dX12_quick_0 : decode cX12_quick 0 = .ok (.aload_n 0, 1) := by decide +kernel
theorem dX12_quick_1 : decode cX12_quick 1 = .ok (.iload_n 1, 1) := by decide +kernel
theorem dX12_quick_2 : decode cX12_quick 2 = .ok (.invokevirtual 106, 3) := by decide +kernel
theorem dX12_quick_5 : decode cX12_quick 5 = .ok (.ifCond .ne 6, 3) := by decide +kernel
theorem dX12_quick_8 : decode cX12_quick 8 = .ok (.bipush (-2), 2) := by decide +kernel
theorem dX12_quick_10 : decode cX12_quick 10 = .ok (.ireturn, 1) := by decide +kernel
theorem dX12_quick_11 : decode cX12_quick 11 = .ok (.aload_n 0, 1) := by decide +kernel
theorem dX12_quick_12 : decode cX12_quick 12 = .ok (.invokevirtual 204, 3) := by decide +kernel
theorem dX12_quick_15 : decode cX12_quick 15 = .ok (.istore_n 2, 1) := by decide +kernel
theorem dX12_quick_16 : decode cX12_quick 16 = .ok (.iconst 0, 1) := by decide +kernel
theorem dX12_quick_17 : decode cX12_quick 17 = .ok (.istore_n 3, 1) := by decide +kernel
theorem dX12_quick_18 : decode cX12_quick 18 = .ok (.iconst 0, 1) := by decide +kernel
theorem dX12_quick_19 : decode cX12_quick 19 = .ok (.istore 4, 2) := by decide +kernel
theorem dX12_quick_21 : decode cX12_quick 21 = .ok (.iconst 0, 1) := by decide +kernel
theorem dX12_quick_22 : decode cX12_quick 22 = .ok (.istore 5, 2) := by decide +kernel
theorem dX12_quick_24 : decode cX12_quick 24 = .ok (.iload 5, 2) := by decide +kernel
theorem dX12_quick_26 : decode cX12_quick 26 = .ok (.bipush 8, 2) := by decide +kernel
theorem dX12_quick_28 : decode cX12_quick 28 = .ok (.if_icmp .ge 177, 3) := by decide +kernel
theorem dX12_quick_31 : decode cX12_quick 31 = .ok (.iload_n 2, 1) := by decide +kernel
theorem dX12_quick_32 : decode cX12_quick 32 = .ok (.iconst 1, 1) := by decide +kernel
theorem dX12_quick_33 : decode cX12_quick 33 = .ok (.iload_n 1, 1) := by decide +kernel
theorem dX12_quick_34 : decode cX12_quick 34 = .ok (.ishl, 1) := by decide +kernel
theorem dX12_quick_35 : decode cX12_quick 35 = .ok (.if_icmp .eq 170, 3) := by decide +kernel
theorem dX12_quick_38 : decode cX12_quick 38 = .ok (.iload 5, 2) := by decide +kernel
theorem dX12_quick_40 : decode cX12_quick 40 = .ok (.ifCond .ne 17, 3) := by decide +kernel
theorem dX12_quick_43 : decode cX12_quick 43 = .ok (.aload_n 0, 1) := by decide +kernel
theorem dX12_quick_44 : decode cX12_quick 44 = .ok (.iconst 1, 1) := by decide +kernel
theorem dX12_quick_45 : decode cX12_quick 45 = .ok (.aload_n 0, 1) := by decide +kernel
theorem dX12_quick_46 : decode cX12_quick 46 = .ok (.getfield 7, 3) := by decide +kernel
theorem dX12_quick_49 : decode cX12_quick 49 = .ok (.iload_n 1, 1) := by decide +kernel
theorem dX12_quick_50 : decode cX12_quick 50 = .ok (.iaload, 1) := by decide +kernel
theorem dX12_quick_51 : decode cX12_quick 51 = .ok (.invokevirtual 214, 3) := by decide +kernel
theorem dX12_quick_54 : decode cX12_quick 54 = .ok (.goto 57, 3) := by decide +kernel
theorem dX12_quick_57 : decode cX12_quick 57 = .ok (.iload 5, 2) := by decide +kernel
theorem dX12_quick_59 : decode cX12_quick 59 = .ok (.iconst 1, 1) := by decide +kernel
theorem dX12_quick_60 : decode cX12_quick 60 = .ok (.if_icmp .ne 17, 3) := by decide +kernel
theorem dX12_quick_63 : decode cX12_quick 63 = .ok (.aload_n 0, 1) := by decide +kernel
theorem dX12_quick_64 : decode cX12_quick 64 = .ok (.iconst 2, 1) := by decide +kernel
theorem dX12_quick_65 : decode cX12_quick 65 = .ok (.aload_n 0, 1) := by decide +kernel
theorem dX12_quick_66 : decode cX12_quick 66 = .ok (.getfield 13, 3) := by decide +kernel
theorem dX12_quick_69 : decode cX12_quick 69 = .ok (.iload_n 1, 1) := by decide +kernel
theorem dX12_quick_70 : decode cX12_quick 70 = .ok (.iaload, 1) := by decide +kernel
theorem dX12_quick_71 : decode cX12_quick 71 = .ok (.invokevirtual 214, 3) := by decide +kernel
theorem dX12_quick_74 : decode cX12_quick 74 = .ok (.goto 37, 3) := by decide +kernel
theorem dX12_quick_77 : decode cX12_quick 77 = .ok (.iload 5, 2) := by decide +kernel
theorem dX12_quick_79 : decode cX12_quick 79 = .ok (.iconst 5, 1) := by decide +kernel
theorem dX12_quick_80 : decode cX12_quick 80 = .ok (.if_icmp .ge 15, 3) := by decide +kernel
theorem dX12_quick_83 : decode cX12_quick 83 = .ok (.aload_n 0, 1) := by decide +kernel
theorem dX12_quick_84 : decode cX12_quick 84 = .ok (.iconst 3, 1) := by decide +kernel
theorem dX12_quick_85 : decode cX12_quick 85 = .ok (.iload 5, 2) := by decide +kernel
theorem dX12_quick_87 : decode cX12_quick 87 = .ok (.iconst 2, 1) := by decide +kernel
theorem dX12_quick_88 : decode cX12_quick 88 = .ok (.isub, 1) := by decide +kernel
theorem dX12_quick_89 : decode cX12_quick 89 = .ok (.invokevirtual 214, 3) := by decide +kernel
theorem dX12_quick_92 : decode cX12_quick 92 = .ok (.goto 19, 3) := by decide +kernel
theorem dX12_quick_95 : decode cX12_quick 95 = .ok (.aload_n 0, 1) := by decide +kernel
theorem dX12_quick_96 : decode cX12_quick 96 = .ok (.invokevirtual 204, 3) := by decide +kernel
theorem dX12_quick_99 : decode cX12_quick 99 = .ok (.aload_n 0, 1) := by decide +kernel
theorem dX12_quick_100 : decode cX12_quick 100 = .ok (.iconst 3, 1) := by decide +kernel
theorem dX12_quick_101 : decode cX12_quick 101 = .ok (.iload 5, 2) := by decide +kernel
theorem dX12_quick_103 : decode cX12_quick 103 = .ok (.iconst 5, 1) := by decide +kernel
theorem dX12_quick_104 : decode cX12_quick 104 = .ok (.isub, 1) := by decide +kernel
theorem dX12_quick_105 : decode cX12_quick 105 = .ok (.invokevirtual 214, 3) := by decide +kernel
theorem dX12_quick_108 : decode cX12_quick 108 = .ok (.iconst (-1), 1) := by decide +kernel
theorem dX12_quick_109 : decode cX12_quick 109 = .ok (.ixor, 1) := by decide +kernel
theorem dX12_quick_110 : decode cX12_quick 110 = .ok (.iand, 1) := by decide +kernel
theorem dX12_quick_111 : decode cX12_quick 111 = .ok (.istore 6, 2) := by decide +kernel
theorem dX12_quick_113 : decode cX12_quick 113 = .ok (.iload 6, 2) := by decide +kernel
theorem dX12_quick_115 : decode cX12_quick 115 = .ok (.iload_n 1, 1) := by decide +kernel
theorem dX12_quick_116 : decode cX12_quick 116 = .ok (.ishr, 1) := by decide +kernel
theorem dX12_quick_117 : decode cX12_quick 117 = .ok (.iconst 1, 1) := by decide +kernel
theorem dX12_quick_118 : decode cX12_quick 118 = .ok (.iand, 1) := by decide +kernel
theorem dX12_quick_119 : decode cX12_quick 119 = .ok (.iconst 1, 1) := by decide +kernel
theorem dX12_quick_120 : decode cX12_quick 120 = .ok (.if_icmp .ne 79, 3) := by decide +kernel
theorem dX12_quick_123 : decode cX12_quick 123 = .ok (.iload_n 2, 1) := by decide +kernel
theorem dX12_quick_124 : decode cX12_quick 124 = .ok (.iload 6, 2) := by decide +kernel
theorem dX12_quick_126 : decode cX12_quick 126 = .ok (.iand, 1) := by decide +kernel
theorem dX12_quick_127 : decode cX12_quick 127 = .ok (.iload_n 2, 1) := by decide +kernel
theorem dX12_quick_128 : decode cX12_quick 128 = .ok (.if_icmp .eq 71, 3) := by decide +kernel
theorem dX12_quick_131 : decode cX12_quick 131 = .ok (.iload_n 2, 1) := by decide +kernel
theorem dX12_quick_132 : decode cX12_quick 132 = .ok (.iload 6, 2) := by decide +kernel
theorem dX12_quick_134 : decode cX12_quick 134 = .ok (.iand, 1) := by decide +kernel
theorem dX12_quick_135 : decode cX12_quick 135 = .ok (.istore_n 2, 1) := by decide +kernel
theorem dX12_quick_136 : decode cX12_quick 136 = .ok (.iload_n 3, 1) := by decide +kernel
theorem dX12_quick_137 : decode cX12_quick 137 = .ok (.iload 5, 2) := by decide +kernel
theorem dX12_quick_139 : decode cX12_quick 139 = .ok (.ifCond .ne 12, 3) := by decide +kernel
theorem dX12_quick_142 : decode cX12_quick 142 = .ok (.aload_n 0, 1) := by decide +kernel
theorem dX12_quick_143 : decode cX12_quick 143 = .ok (.getfield 28, 3) := by decide +kernel
theorem dX12_quick_146 : decode cX12_quick 146 = .ok (.iconst 1, 1) := by decide +kernel
theorem dX12_quick_147 : decode cX12_quick 147 = .ok (.iaload, 1) := by decide +kernel
theorem dX12_quick_148 : decode cX12_quick 148 = .ok (.goto 46, 3) := by decide +kernel
theorem dX12_quick_151 : decode cX12_quick 151 = .ok (.iload 5, 2) := by decide +kernel
theorem dX12_quick_153 : decode cX12_quick 153 = .ok (.iconst 1, 1) := by decide +kernel
theorem dX12_quick_154 : decode cX12_quick 154 = .ok (.if_icmp .ne 12, 3) := by decide +kernel
theorem dX12_quick_157 : decode cX12_quick 157 = .ok (.aload_n 0, 1) := by decide +kernel
theorem dX12_quick_158 : decode cX12_quick 158 = .ok (.getfield 28, 3) := by decide +kernel
theorem dX12_quick_161 : decode cX12_quick 161 = .ok (.iconst 2, 1) := by decide +kernel
theorem dX12_quick_162 : decode cX12_quick 162 = .ok (.iaload, 1) := by decide +kernel
theorem dX12_quick_163 : decode cX12_quick 163 = .ok (.goto 31, 3) := by decide +kernel
theorem dX12_quick_166 : decode cX12_quick 166 = .ok (.iload 5, 2) := by decide +kernel
theorem dX12_quick_168 : decode cX12_quick 168 = .ok (.iconst 5, 1) := by decide +kernel
theorem dX12_quick_169 : decode cX12_quick 169 = .ok (.if_icmp .ge 12, 3) := by decide +kernel
theorem dX12_quick_172 : decode cX12_quick 172 = .ok (.aload_n 0, 1) := by decide +kernel
theorem dX12_quick_173 : decode cX12_quick 173 = .ok (.getfield 28, 3) := by decide +kernel
theorem dX12_quick_176 : decode cX12_quick 176 = .ok (.iconst 3, 1) := by decide +kernel
theorem dX12_quick_177 : decode cX12_quick 177 = .ok (.iaload, 1) := by decide +kernel
theorem dX12_quick_178 : decode cX12_quick 178 = .ok (.goto 16, 3) := by decide +kernel
theorem dX12_quick_181 : decode cX12_quick 181 = .ok (.aload_n 0, 1) := by decide +kernel
theorem dX12_quick_182 : decode cX12_quick 182 = .ok (.getfield 28, 3) := by decide +kernel
theorem dX12_quick_185 : decode cX12_quick 185 = .ok (.iconst 4, 1) := by decide +kernel
theorem dX12_quick_186 : decode cX12_quick 186 = .ok (.iaload, 1) := by decide +kernel
theorem dX12_quick_187 : decode cX12_quick 187 = .ok (.aload_n 0, 1) := by decide +kernel
theorem dX12_quick_188 : decode cX12_quick 188 = .ok (.getfield 28, 3) := by decide +kernel
theorem dX12_quick_191 : decode cX12_quick 191 = .ok (.iconst 3, 1) := by decide +kernel
theorem dX12_quick_192 : decode cX12_quick 192 = .ok (.iaload, 1) := by decide +kernel
theorem dX12_quick_193 : decode cX12_quick 193 = .ok (.iadd, 1) := by decide +kernel
theorem dX12_quick_194 : decode cX12_quick 194 = .ok (.iadd, 1) := by decide +kernel
theorem dX12_quick_195 : decode cX12_quick 195 = .ok (.istore_n 3, 1) := by decide +kernel
theorem dX12_quick_196 : decode cX12_quick 196 = .ok (.iinc 4 1, 3) := by decide +kernel
theorem dX12_quick_199 : decode cX12_quick 199 = .ok (.iinc 5 1, 3) := by decide +kernel
theorem dX12_quick_202 : decode cX12_quick 202 = .ok (.goto (-178), 3) := by decide +kernel
theorem dX12_quick_205 : decode cX12_quick 205 = .ok (.iload_n 2, 1) := by decide +kernel
theorem dX12_quick_206 : decode cX12_quick 206 = .ok (.iconst 1, 1) := by decide +kernel
theorem dX12_quick_207 : decode cX12_quick 207 = .ok (.iload_n 1, 1) := by decide +kernel
theorem dX12_quick_208 : decode cX12_quick 208 = .ok (.ishl, 1) := by decide +kernel
theorem dX12_quick_209 : decode cX12_quick 209 = .ok (.if_icmp .eq 5, 3) := by decide +kernel
theorem dX12_quick_212 : decode cX12_quick 212 = .ok (.iconst (-1), 1) := by decide +kernel
theorem dX12_quick_213 : decode cX12_quick 213 = .ok (.ireturn, 1) := by decide +kernel
theorem dX12_quick_214 : decode cX12_quick 214 = .ok (.iload 4, 2) := by decide +kernel
theorem dX12_quick_216 : decode cX12_quick 216 = .ok (.ifCond .ne 12, 3) := by decide +kernel
theorem dX12_quick_219 : decode cX12_quick 219 = .ok (.aload_n 0, 1) := by decide +kernel
theorem dX12_quick_220 : decode cX12_quick 220 = .ok (.getfield 28, 3) := by decide +kernel
theorem dX12_quick_223 : decode cX12_quick 223 = .ok (.iconst 0, 1) := by decide +kernel
theorem dX12_quick_224 : decode cX12_quick 224 = .ok (.iaload, 1) := by decide +kernel
theorem dX12_quick_225 : decode cX12_quick 225 = .ok (.goto 16, 3) := by decide +kernel
theorem dX12_quick_228 : decode cX12_quick 228 = .ok (.iload_n 3, 1) := by decide +kernel
theorem dX12_quick_229 : decode cX12_quick 229 = .ok (.iload 4, 2) := by decide +kernel
theorem dX12_quick_231 : decode cX12_quick 231 = .ok (.iconst 1, 1) := by decide +kernel
theorem dX12_quick_232 : decode cX12_quick 232 = .ok (.isub, 1) := by decide +kernel
theorem dX12_quick_233 : decode cX12_quick 233 = .ok (.aload_n 0, 1) := by decide +kernel
theorem dX12_quick_234 : decode cX12_quick 234 = .ok (.getfield 28, 3) := by decide +kernel
theorem dX12_quick_237 : decode cX12_quick 237 = .ok (.iconst 5, 1) := by decide +kernel
theorem dX12_quick_238 : decode cX12_quick 238 = .ok (.iaload, 1) := by decide +kernel
theorem dX12_quick_239 : decode cX12_quick 239 = .ok (.imul, 1) := by decide +kernel
theorem dX12_quick_240 : decode cX12_quick 240 = .ok (.iadd, 1) := by decide +kernel
theorem dX12_quick_241 : decode cX12_quick 241 = .ok (.ireturn, 1) := by decide +kernel
theorem dX12_howMany_0 : decode cX12_howMany 0 = .ok (.iconst 0, 1) := by decide +kernel
theorem dX12_howMany_1 : decode cX12_howMany 1 = .ok (.istore_n 3, 1) := by decide +kernel
theorem dX12_howMany_2 : decode cX12_howMany 2 = .ok (.iconst 0, 1) := by decide +kernel
theorem dX12_howMany_3 : decode cX12_howMany 3 = .ok (.istore 4, 2) := by decide +kernel
theorem dX12_howMany_5 : decode cX12_howMany 5 = .ok (.iload 4, 2) := by decide +kernel
theorem dX12_howMany_7 : decode cX12_howMany 7 = .ok (.aload_n 0, 1) := by decide +kernel
theorem dX12_howMany_8 : decode cX12_howMany 8 = .ok (.getfield 98, 3) := by decide +kernel
theorem dX12_howMany_11 : decode cX12_howMany 11 = .ok (.if_icmp .ge 38, 3) := by decide +kernel
theorem dX12_howMany_14 : decode cX12_howMany 14 = .ok (.iload_n 3, 1) := by decide +kernel
theorem dX12_howMany_15 : decode cX12_howMany 15 = .ok (.iload_n 1, 1) := by decide +kernel
theorem dX12_howMany_16 : decode cX12_howMany 16 = .ok (.iload 4, 2) := by decide +kernel
theorem dX12_howMany_18 : decode cX12_howMany 18 = .ok (.ishr, 1) := by decide +kernel
theorem dX12_howMany_19 : decode cX12_howMany 19 = .ok (.iconst 1, 1) := by decide +kernel
theorem dX12_howMany_20 : decode cX12_howMany 20 = .ok (.iand, 1) := by decide +kernel
theorem dX12_howMany_21 : decode cX12_howMany 21 = .ok (.iconst 1, 1) := by decide +kernel
theorem dX12_howMany_22 : decode cX12_howMany 22 = .ok (.if_icmp .ne 18, 3) := by decide +kernel
theorem dX12_howMany_25 : decode cX12_howMany 25 = .ok (.aload_n 0, 1) := by decide +kernel
theorem dX12_howMany_26 : decode cX12_howMany 26 = .ok (.getfield 74, 3) := by decide +kernel
theorem dX12_howMany_29 : decode cX12_howMany 29 = .ok (.iload 4, 2) := by decide +kernel
theorem dX12_howMany_31 : decode cX12_howMany 31 = .ok (.iaload, 1) := by decide +kernel
theorem dX12_howMany_32 : decode cX12_howMany 32 = .ok (.iload_n 2, 1) := by decide +kernel
theorem dX12_howMany_33 : decode cX12_howMany 33 = .ok (.if_icmp .ne 7, 3) := by decide +kernel
theorem dX12_howMany_36 : decode cX12_howMany 36 = .ok (.iconst 1, 1) := by decide +kernel
theorem dX12_howMany_37 : decode cX12_howMany 37 = .ok (.goto 4, 3) := by decide +kernel
theorem dX12_howMany_40 : decode cX12_howMany 40 = .ok (.iconst 0, 1) := by decide +kernel
theorem dX12_howMany_41 : decode cX12_howMany 41 = .ok (.iadd, 1) := by decide +kernel
theorem dX12_howMany_42 : decode cX12_howMany 42 = .ok (.istore_n 3, 1) := by decide +kernel
theorem dX12_howMany_43 : decode cX12_howMany 43 = .ok (.iinc 4 1, 3) := by decide +kernel
theorem dX12_howMany_46 : decode cX12_howMany 46 = .ok (.goto (-41), 3) := by decide +kernel
theorem dX12_howMany_49 : decode cX12_howMany 49 = .ok (.iload_n 3, 1) := by decide +kernel
theorem dX12_howMany_50 : decode cX12_howMany 50 = .ok (.ireturn, 1) := by decide +kernel
theorem dX12_tiesTo_0 : decode cX12_tiesTo 0 = .ok (.iconst 0, 1) := by decide +kernel
theorem dX12_tiesTo_1 : decode cX12_tiesTo 1 = .ok (.istore_n 2, 1) := by decide +kernel
theorem dX12_tiesTo_2 : decode cX12_tiesTo 2 = .ok (.iconst 0, 1) := by decide +kernel
theorem dX12_tiesTo_3 : decode cX12_tiesTo 3 = .ok (.istore_n 3, 1) := by decide +kernel
theorem dX12_tiesTo_4 : decode cX12_tiesTo 4 = .ok (.iload_n 3, 1) := by decide +kernel
theorem dX12_tiesTo_5 : decode cX12_tiesTo 5 = .ok (.aload_n 0, 1) := by decide +kernel
theorem dX12_tiesTo_6 : decode cX12_tiesTo 6 = .ok (.getfield 98, 3) := by decide +kernel
theorem dX12_tiesTo_9 : decode cX12_tiesTo 9 = .ok (.if_icmp .ge 24, 3) := by decide +kernel
theorem dX12_tiesTo_12 : decode cX12_tiesTo 12 = .ok (.iload_n 2, 1) := by decide +kernel
theorem dX12_tiesTo_13 : decode cX12_tiesTo 13 = .ok (.aload_n 0, 1) := by decide +kernel
theorem dX12_tiesTo_14 : decode cX12_tiesTo 14 = .ok (.getfield 25, 3) := by decide +kernel
theorem dX12_tiesTo_17 : decode cX12_tiesTo 17 = .ok (.iload_n 3, 1) := by decide +kernel
theorem dX12_tiesTo_18 : decode cX12_tiesTo 18 = .ok (.iaload, 1) := by decide +kernel
theorem dX12_tiesTo_19 : decode cX12_tiesTo 19 = .ok (.iload_n 1, 1) := by decide +kernel
theorem dX12_tiesTo_20 : decode cX12_tiesTo 20 = .ok (.ishr, 1) := by decide +kernel
theorem dX12_tiesTo_21 : decode cX12_tiesTo 21 = .ok (.iconst 1, 1) := by decide +kernel
theorem dX12_tiesTo_22 : decode cX12_tiesTo 22 = .ok (.iand, 1) := by decide +kernel
theorem dX12_tiesTo_23 : decode cX12_tiesTo 23 = .ok (.iload_n 3, 1) := by decide +kernel
theorem dX12_tiesTo_24 : decode cX12_tiesTo 24 = .ok (.ishl, 1) := by decide +kernel
theorem dX12_tiesTo_25 : decode cX12_tiesTo 25 = .ok (.ior, 1) := by decide +kernel
theorem dX12_tiesTo_26 : decode cX12_tiesTo 26 = .ok (.istore_n 2, 1) := by decide +kernel
theorem dX12_tiesTo_27 : decode cX12_tiesTo 27 = .ok (.iinc 3 1, 3) := by decide +kernel
theorem dX12_tiesTo_30 : decode cX12_tiesTo 30 = .ok (.goto (-26), 3) := by decide +kernel
theorem dX12_tiesTo_33 : decode cX12_tiesTo 33 = .ok (.iload_n 2, 1) := by decide +kernel
theorem dX12_tiesTo_34 : decode cX12_tiesTo 34 = .ok (.ireturn, 1) := by decide +kernel
theorem dX12_areAlike_0 : decode cX12_areAlike 0 = .ok (.aload_n 0, 1) := by decide +kernel
theorem dX12_areAlike_1 : decode cX12_areAlike 1 = .ok (.getfield 74, 3) := by decide +kernel
theorem dX12_areAlike_4 : decode cX12_areAlike 4 = .ok (.iload_n 1, 1) := by decide +kernel
theorem dX12_areAlike_5 : decode cX12_areAlike 5 = .ok (.iaload, 1) := by decide +kernel
theorem dX12_areAlike_6 : decode cX12_areAlike 6 = .ok (.aload_n 0, 1) := by decide +kernel
theorem dX12_areAlike_7 : decode cX12_areAlike 7 = .ok (.getfield 74, 3) := by decide +kernel
theorem dX12_areAlike_10 : decode cX12_areAlike 10 = .ok (.iload_n 2, 1) := by decide +kernel
theorem dX12_areAlike_11 : decode cX12_areAlike 11 = .ok (.iaload, 1) := by decide +kernel
theorem dX12_areAlike_12 : decode cX12_areAlike 12 = .ok (.if_icmp .ne 7, 3) := by decide +kernel
theorem dX12_areAlike_15 : decode cX12_areAlike 15 = .ok (.iconst 1, 1) := by decide +kernel
theorem dX12_areAlike_16 : decode cX12_areAlike 16 = .ok (.goto 4, 3) := by decide +kernel
theorem dX12_areAlike_19 : decode cX12_areAlike 19 = .ok (.iconst 0, 1) := by decide +kernel
theorem dX12_areAlike_20 : decode cX12_areAlike 20 = .ok (.istore_n 3, 1) := by decide +kernel
theorem dX12_areAlike_21 : decode cX12_areAlike 21 = .ok (.iconst 0, 1) := by decide +kernel
theorem dX12_areAlike_22 : decode cX12_areAlike 22 = .ok (.istore 4, 2) := by decide +kernel
theorem dX12_areAlike_24 : decode cX12_areAlike 24 = .ok (.iload 4, 2) := by decide +kernel
theorem dX12_areAlike_26 : decode cX12_areAlike 26 = .ok (.aload_n 0, 1) := by decide +kernel
end
section
theorem dX12_areAlike_27 : decode cX12_areAlike 27 = .ok (.getfield 98, 3) := by decide +kernel
theorem dX12_areAlike_30 : decode cX12_areAlike 30 = .ok (.if_icmp .ge 96, 3) := by decide +kernel
theorem dX12_areAlike_33 : decode cX12_areAlike 33 = .ok (.iload_n 3, 1) := by decide +kernel
theorem dX12_areAlike_34 : decode cX12_areAlike 34 = .ok (.ifCond .eq 92, 3) := by decide +kernel
theorem dX12_areAlike_37 : decode cX12_areAlike 37 = .ok (.aload_n 0, 1) := by decide +kernel
theorem dX12_areAlike_38 : decode cX12_areAlike 38 = .ok (.aload_n 0, 1) := by decide +kernel
theorem dX12_areAlike_39 : decode cX12_areAlike 39 = .ok (.iload_n 1, 1) := by decide +kernel
theorem dX12_areAlike_40 : decode cX12_areAlike 40 = .ok (.invokevirtual 118, 3) := by decide +kernel
theorem dX12_areAlike_43 : decode cX12_areAlike 43 = .ok (.iload 4, 2) := by decide +kernel
theorem dX12_areAlike_45 : decode cX12_areAlike 45 = .ok (.invokevirtual 255, 3) := by decide +kernel
theorem dX12_areAlike_48 : decode cX12_areAlike 48 = .ok (.aload_n 0, 1) := by decide +kernel
theorem dX12_areAlike_49 : decode cX12_areAlike 49 = .ok (.aload_n 0, 1) := by decide +kernel
theorem dX12_areAlike_50 : decode cX12_areAlike 50 = .ok (.iload_n 2, 1) := by decide +kernel
theorem dX12_areAlike_51 : decode cX12_areAlike 51 = .ok (.invokevirtual 118, 3) := by decide +kernel
theorem dX12_areAlike_54 : decode cX12_areAlike 54 = .ok (.iload 4, 2) := by decide +kernel
theorem dX12_areAlike_56 : decode cX12_areAlike 56 = .ok (.invokevirtual 255, 3) := by decide +kernel
theorem dX12_areAlike_59 : decode cX12_areAlike 59 = .ok (.if_icmp .ne 59, 3) := by decide +kernel
theorem dX12_areAlike_62 : decode cX12_areAlike 62 = .ok (.aload_n 0, 1) := by decide +kernel
theorem dX12_areAlike_63 : decode cX12_areAlike 63 = .ok (.aload_n 0, 1) := by decide +kernel
theorem dX12_areAlike_64 : decode cX12_areAlike 64 = .ok (.getfield 25, 3) := by decide +kernel
theorem dX12_areAlike_67 : decode cX12_areAlike 67 = .ok (.iload_n 1, 1) := by decide +kernel
theorem dX12_areAlike_68 : decode cX12_areAlike 68 = .ok (.iaload, 1) := by decide +kernel
theorem dX12_areAlike_69 : decode cX12_areAlike 69 = .ok (.iload 4, 2) := by decide +kernel
theorem dX12_areAlike_71 : decode cX12_areAlike 71 = .ok (.invokevirtual 255, 3) := by decide +kernel
theorem dX12_areAlike_74 : decode cX12_areAlike 74 = .ok (.aload_n 0, 1) := by decide +kernel
theorem dX12_areAlike_75 : decode cX12_areAlike 75 = .ok (.aload_n 0, 1) := by decide +kernel
theorem dX12_areAlike_76 : decode cX12_areAlike 76 = .ok (.getfield 25, 3) := by decide +kernel
theorem dX12_areAlike_79 : decode cX12_areAlike 79 = .ok (.iload_n 2, 1) := by decide +kernel
theorem dX12_areAlike_80 : decode cX12_areAlike 80 = .ok (.iaload, 1) := by decide +kernel
theorem dX12_areAlike_81 : decode cX12_areAlike 81 = .ok (.iload 4, 2) := by decide +kernel
theorem dX12_areAlike_83 : decode cX12_areAlike 83 = .ok (.invokevirtual 255, 3) := by decide +kernel
theorem dX12_areAlike_86 : decode cX12_areAlike 86 = .ok (.if_icmp .ne 32, 3) := by decide +kernel
theorem dX12_areAlike_89 : decode cX12_areAlike 89 = .ok (.aload_n 0, 1) := by decide +kernel
theorem dX12_areAlike_90 : decode cX12_areAlike 90 = .ok (.aload_n 0, 1) := by decide +kernel
theorem dX12_areAlike_91 : decode cX12_areAlike 91 = .ok (.iload_n 1, 1) := by decide +kernel
theorem dX12_areAlike_92 : decode cX12_areAlike 92 = .ok (.invokevirtual 258, 3) := by decide +kernel
theorem dX12_areAlike_95 : decode cX12_areAlike 95 = .ok (.iload 4, 2) := by decide +kernel
theorem dX12_areAlike_97 : decode cX12_areAlike 97 = .ok (.invokevirtual 255, 3) := by decide +kernel
theorem dX12_areAlike_100 : decode cX12_areAlike 100 = .ok (.aload_n 0, 1) := by decide +kernel
theorem dX12_areAlike_101 : decode cX12_areAlike 101 = .ok (.aload_n 0, 1) := by decide +kernel
theorem dX12_areAlike_102 : decode cX12_areAlike 102 = .ok (.iload_n 2, 1) := by decide +kernel
theorem dX12_areAlike_103 : decode cX12_areAlike 103 = .ok (.invokevirtual 258, 3) := by decide +kernel
theorem dX12_areAlike_106 : decode cX12_areAlike 106 = .ok (.iload 4, 2) := by decide +kernel
theorem dX12_areAlike_108 : decode cX12_areAlike 108 = .ok (.invokevirtual 255, 3) := by decide +kernel
theorem dX12_areAlike_111 : decode cX12_areAlike 111 = .ok (.if_icmp .ne 7, 3) := by decide +kernel
theorem dX12_areAlike_114 : decode cX12_areAlike 114 = .ok (.iconst 1, 1) := by decide +kernel
theorem dX12_areAlike_115 : decode cX12_areAlike 115 = .ok (.goto 4, 3) := by decide +kernel
theorem dX12_areAlike_118 : decode cX12_areAlike 118 = .ok (.iconst 0, 1) := by decide +kernel
theorem dX12_areAlike_119 : decode cX12_areAlike 119 = .ok (.istore_n 3, 1) := by decide +kernel
theorem dX12_areAlike_120 : decode cX12_areAlike 120 = .ok (.iinc 4 1, 3) := by decide +kernel
theorem dX12_areAlike_123 : decode cX12_areAlike 123 = .ok (.goto (-99), 3) := by decide +kernel
theorem dX12_areAlike_126 : decode cX12_areAlike 126 = .ok (.iload_n 3, 1) := by decide +kernel
theorem dX12_areAlike_127 : decode cX12_areAlike 127 = .ok (.ireturn, 1) := by decide +kernel
theorem dX12_findTwins_0 : decode cX12_findTwins 0 = .ok (.iconst 0, 1) := by decide +kernel
theorem dX12_findTwins_1 : decode cX12_findTwins 1 = .ok (.istore_n 1, 1) := by decide +kernel
theorem dX12_findTwins_2 : decode cX12_findTwins 2 = .ok (.iload_n 1, 1) := by decide +kernel
theorem dX12_findTwins_3 : decode cX12_findTwins 3 = .ok (.aload_n 0, 1) := by decide +kernel
theorem dX12_findTwins_4 : decode cX12_findTwins 4 = .ok (.getfield 98, 3) := by decide +kernel
theorem dX12_findTwins_7 : decode cX12_findTwins 7 = .ok (.if_icmp .ge 98, 3) := by decide +kernel
theorem dX12_findTwins_10 : decode cX12_findTwins 10 = .ok (.aload_n 0, 1) := by decide +kernel
theorem dX12_findTwins_11 : decode cX12_findTwins 11 = .ok (.getfield 74, 3) := by decide +kernel
theorem dX12_findTwins_14 : decode cX12_findTwins 14 = .ok (.iload_n 1, 1) := by decide +kernel
theorem dX12_findTwins_15 : decode cX12_findTwins 15 = .ok (.iload_n 1, 1) := by decide +kernel
theorem dX12_findTwins_16 : decode cX12_findTwins 16 = .ok (.iastore, 1) := by decide +kernel
theorem dX12_findTwins_17 : decode cX12_findTwins 17 = .ok (.aload_n 0, 1) := by decide +kernel
theorem dX12_findTwins_18 : decode cX12_findTwins 18 = .ok (.getfield 80, 3) := by decide +kernel
theorem dX12_findTwins_21 : decode cX12_findTwins 21 = .ok (.iload_n 1, 1) := by decide +kernel
theorem dX12_findTwins_22 : decode cX12_findTwins 22 = .ok (.iconst 0, 1) := by decide +kernel
theorem dX12_findTwins_23 : decode cX12_findTwins 23 = .ok (.iastore, 1) := by decide +kernel
theorem dX12_findTwins_24 : decode cX12_findTwins 24 = .ok (.iload_n 1, 1) := by decide +kernel
theorem dX12_findTwins_25 : decode cX12_findTwins 25 = .ok (.iconst 1, 1) := by decide +kernel
theorem dX12_findTwins_26 : decode cX12_findTwins 26 = .ok (.isub, 1) := by decide +kernel
theorem dX12_findTwins_27 : decode cX12_findTwins 27 = .ok (.istore_n 2, 1) := by decide +kernel
theorem dX12_findTwins_28 : decode cX12_findTwins 28 = .ok (.iload_n 2, 1) := by decide +kernel
theorem dX12_findTwins_29 : decode cX12_findTwins 29 = .ok (.ifCond .lt 70, 3) := by decide +kernel
theorem dX12_findTwins_32 : decode cX12_findTwins 32 = .ok (.aload_n 0, 1) := by decide +kernel
theorem dX12_findTwins_33 : decode cX12_findTwins 33 = .ok (.getfield 74, 3) := by decide +kernel
theorem dX12_findTwins_36 : decode cX12_findTwins 36 = .ok (.iload_n 1, 1) := by decide +kernel
theorem dX12_findTwins_37 : decode cX12_findTwins 37 = .ok (.aload_n 0, 1) := by decide +kernel
theorem dX12_findTwins_38 : decode cX12_findTwins 38 = .ok (.getfield 7, 3) := by decide +kernel
theorem dX12_findTwins_41 : decode cX12_findTwins 41 = .ok (.iload_n 2, 1) := by decide +kernel
theorem dX12_findTwins_42 : decode cX12_findTwins 42 = .ok (.iaload, 1) := by decide +kernel
theorem dX12_findTwins_43 : decode cX12_findTwins 43 = .ok (.aload_n 0, 1) := by decide +kernel
theorem dX12_findTwins_44 : decode cX12_findTwins 44 = .ok (.getfield 7, 3) := by decide +kernel
theorem dX12_findTwins_47 : decode cX12_findTwins 47 = .ok (.iload_n 1, 1) := by decide +kernel
theorem dX12_findTwins_48 : decode cX12_findTwins 48 = .ok (.iaload, 1) := by decide +kernel
theorem dX12_findTwins_49 : decode cX12_findTwins 49 = .ok (.if_icmp .ne 37, 3) := by decide +kernel
theorem dX12_findTwins_52 : decode cX12_findTwins 52 = .ok (.aload_n 0, 1) := by decide +kernel
theorem dX12_findTwins_53 : decode cX12_findTwins 53 = .ok (.getfield 13, 3) := by decide +kernel
theorem dX12_findTwins_56 : decode cX12_findTwins 56 = .ok (.iload_n 2, 1) := by decide +kernel
theorem dX12_findTwins_57 : decode cX12_findTwins 57 = .ok (.iaload, 1) := by decide +kernel
theorem dX12_findTwins_58 : decode cX12_findTwins 58 = .ok (.aload_n 0, 1) := by decide +kernel
theorem dX12_findTwins_59 : decode cX12_findTwins 59 = .ok (.getfield 13, 3) := by decide +kernel
theorem dX12_findTwins_62 : decode cX12_findTwins 62 = .ok (.iload_n 1, 1) := by decide +kernel
theorem dX12_findTwins_63 : decode cX12_findTwins 63 = .ok (.iaload, 1) := by decide +kernel
theorem dX12_findTwins_64 : decode cX12_findTwins 64 = .ok (.if_icmp .ne 22, 3) := by decide +kernel
theorem dX12_findTwins_67 : decode cX12_findTwins 67 = .ok (.aload_n 0, 1) := by decide +kernel
theorem dX12_findTwins_68 : decode cX12_findTwins 68 = .ok (.getfield 19, 3) := by decide +kernel
theorem dX12_findTwins_71 : decode cX12_findTwins 71 = .ok (.iload_n 2, 1) := by decide +kernel
theorem dX12_findTwins_72 : decode cX12_findTwins 72 = .ok (.iaload, 1) := by decide +kernel
theorem dX12_findTwins_73 : decode cX12_findTwins 73 = .ok (.aload_n 0, 1) := by decide +kernel
theorem dX12_findTwins_74 : decode cX12_findTwins 74 = .ok (.getfield 19, 3) := by decide +kernel
theorem dX12_findTwins_77 : decode cX12_findTwins 77 = .ok (.iload_n 1, 1) := by decide +kernel
theorem dX12_findTwins_78 : decode cX12_findTwins 78 = .ok (.iaload, 1) := by decide +kernel
theorem dX12_findTwins_79 : decode cX12_findTwins 79 = .ok (.if_icmp .ne 7, 3) := by decide +kernel
theorem dX12_findTwins_82 : decode cX12_findTwins 82 = .ok (.iload_n 2, 1) := by decide +kernel
theorem dX12_findTwins_83 : decode cX12_findTwins 83 = .ok (.goto 9, 3) := by decide +kernel
theorem dX12_findTwins_86 : decode cX12_findTwins 86 = .ok (.aload_n 0, 1) := by decide +kernel
theorem dX12_findTwins_87 : decode cX12_findTwins 87 = .ok (.getfield 74, 3) := by decide +kernel
theorem dX12_findTwins_90 : decode cX12_findTwins 90 = .ok (.iload_n 1, 1) := by decide +kernel
theorem dX12_findTwins_91 : decode cX12_findTwins 91 = .ok (.iaload, 1) := by decide +kernel
theorem dX12_findTwins_92 : decode cX12_findTwins 92 = .ok (.iastore, 1) := by decide +kernel
theorem dX12_findTwins_93 : decode cX12_findTwins 93 = .ok (.iinc 2 (-1), 3) := by decide +kernel
theorem dX12_findTwins_96 : decode cX12_findTwins 96 = .ok (.goto (-68), 3) := by decide +kernel
theorem dX12_findTwins_99 : decode cX12_findTwins 99 = .ok (.iinc 1 1, 3) := by decide +kernel
theorem dX12_findTwins_102 : decode cX12_findTwins 102 = .ok (.goto (-100), 3) := by decide +kernel
theorem dX12_findTwins_105 : decode cX12_findTwins 105 = .ok (.iconst 1, 1) := by decide +kernel
theorem dX12_findTwins_106 : decode cX12_findTwins 106 = .ok (.istore_n 1, 1) := by decide +kernel
theorem dX12_findTwins_107 : decode cX12_findTwins 107 = .ok (.iconst 1, 1) := by decide +kernel
theorem dX12_findTwins_108 : decode cX12_findTwins 108 = .ok (.istore_n 2, 1) := by decide +kernel
theorem dX12_findTwins_109 : decode cX12_findTwins 109 = .ok (.iload_n 1, 1) := by decide +kernel
theorem dX12_findTwins_110 : decode cX12_findTwins 110 = .ok (.ifCond .eq 222, 3) := by decide +kernel
theorem dX12_findTwins_113 : decode cX12_findTwins 113 = .ok (.iconst 0, 1) := by decide +kernel
theorem dX12_findTwins_114 : decode cX12_findTwins 114 = .ok (.istore_n 1, 1) := by decide +kernel
theorem dX12_findTwins_115 : decode cX12_findTwins 115 = .ok (.iconst 0, 1) := by decide +kernel
theorem dX12_findTwins_116 : decode cX12_findTwins 116 = .ok (.istore_n 3, 1) := by decide +kernel
theorem dX12_findTwins_117 : decode cX12_findTwins 117 = .ok (.iload_n 3, 1) := by decide +kernel
theorem dX12_findTwins_118 : decode cX12_findTwins 118 = .ok (.aload_n 0, 1) := by decide +kernel
theorem dX12_findTwins_119 : decode cX12_findTwins 119 = .ok (.getfield 98, 3) := by decide +kernel
theorem dX12_findTwins_122 : decode cX12_findTwins 122 = .ok (.if_icmp .ge 59, 3) := by decide +kernel
theorem dX12_findTwins_125 : decode cX12_findTwins 125 = .ok (.aload_n 0, 1) := by decide +kernel
theorem dX12_findTwins_126 : decode cX12_findTwins 126 = .ok (.getfield 77, 3) := by decide +kernel
theorem dX12_findTwins_129 : decode cX12_findTwins 129 = .ok (.iload_n 3, 1) := by decide +kernel
theorem dX12_findTwins_130 : decode cX12_findTwins 130 = .ok (.iload_n 3, 1) := by decide +kernel
theorem dX12_findTwins_131 : decode cX12_findTwins 131 = .ok (.iastore, 1) := by decide +kernel
theorem dX12_findTwins_132 : decode cX12_findTwins 132 = .ok (.iload_n 3, 1) := by decide +kernel
theorem dX12_findTwins_133 : decode cX12_findTwins 133 = .ok (.iconst 1, 1) := by decide +kernel
theorem dX12_findTwins_134 : decode cX12_findTwins 134 = .ok (.isub, 1) := by decide +kernel
theorem dX12_findTwins_135 : decode cX12_findTwins 135 = .ok (.istore 4, 2) := by decide +kernel
theorem dX12_findTwins_137 : decode cX12_findTwins 137 = .ok (.iload 4, 2) := by decide +kernel
theorem dX12_findTwins_139 : decode cX12_findTwins 139 = .ok (.ifCond .lt 36, 3) := by decide +kernel
theorem dX12_findTwins_142 : decode cX12_findTwins 142 = .ok (.aload_n 0, 1) := by decide +kernel
theorem dX12_findTwins_143 : decode cX12_findTwins 143 = .ok (.getfield 77, 3) := by decide +kernel
theorem dX12_findTwins_146 : decode cX12_findTwins 146 = .ok (.iload_n 3, 1) := by decide +kernel
theorem dX12_findTwins_147 : decode cX12_findTwins 147 = .ok (.aload_n 0, 1) := by decide +kernel
theorem dX12_findTwins_148 : decode cX12_findTwins 148 = .ok (.iload 4, 2) := by decide +kernel
theorem dX12_findTwins_150 : decode cX12_findTwins 150 = .ok (.iload_n 3, 1) := by decide +kernel
theorem dX12_findTwins_151 : decode cX12_findTwins 151 = .ok (.invokevirtual 261, 3) := by decide +kernel
theorem dX12_findTwins_154 : decode cX12_findTwins 154 = .ok (.ifCond .eq 8, 3) := by decide +kernel
theorem dX12_findTwins_157 : decode cX12_findTwins 157 = .ok (.iload 4, 2) := by decide +kernel
theorem dX12_findTwins_159 : decode cX12_findTwins 159 = .ok (.goto 9, 3) := by decide +kernel
theorem dX12_findTwins_162 : decode cX12_findTwins 162 = .ok (.aload_n 0, 1) := by decide +kernel
theorem dX12_findTwins_163 : decode cX12_findTwins 163 = .ok (.getfield 77, 3) := by decide +kernel
theorem dX12_findTwins_166 : decode cX12_findTwins 166 = .ok (.iload_n 3, 1) := by decide +kernel
theorem dX12_findTwins_167 : decode cX12_findTwins 167 = .ok (.iaload, 1) := by decide +kernel
theorem dX12_findTwins_168 : decode cX12_findTwins 168 = .ok (.iastore, 1) := by decide +kernel
theorem dX12_findTwins_169 : decode cX12_findTwins 169 = .ok (.iinc 4 (-1), 3) := by decide +kernel
theorem dX12_findTwins_172 : decode cX12_findTwins 172 = .ok (.goto (-35), 3) := by decide +kernel
theorem dX12_findTwins_175 : decode cX12_findTwins 175 = .ok (.iinc 3 1, 3) := by decide +kernel
theorem dX12_findTwins_178 : decode cX12_findTwins 178 = .ok (.goto (-61), 3) := by decide +kernel
theorem dX12_findTwins_181 : decode cX12_findTwins 181 = .ok (.iconst 0, 1) := by decide +kernel
theorem dX12_findTwins_182 : decode cX12_findTwins 182 = .ok (.istore_n 3, 1) := by decide +kernel
theorem dX12_findTwins_183 : decode cX12_findTwins 183 = .ok (.iload_n 3, 1) := by decide +kernel
theorem dX12_findTwins_184 : decode cX12_findTwins 184 = .ok (.aload_n 0, 1) := by decide +kernel
theorem dX12_findTwins_185 : decode cX12_findTwins 185 = .ok (.getfield 98, 3) := by decide +kernel
theorem dX12_findTwins_188 : decode cX12_findTwins 188 = .ok (.if_icmp .ge 110, 3) := by decide +kernel
theorem dX12_findTwins_191 : decode cX12_findTwins 191 = .ok (.iconst 0, 1) := by decide +kernel
theorem dX12_findTwins_192 : decode cX12_findTwins 192 = .ok (.istore 4, 2) := by decide +kernel
theorem dX12_findTwins_194 : decode cX12_findTwins 194 = .ok (.iconst 0, 1) := by decide +kernel
theorem dX12_findTwins_195 : decode cX12_findTwins 195 = .ok (.istore 5, 2) := by decide +kernel
theorem dX12_findTwins_197 : decode cX12_findTwins 197 = .ok (.iload 5, 2) := by decide +kernel
theorem dX12_findTwins_199 : decode cX12_findTwins 199 = .ok (.aload_n 0, 1) := by decide +kernel
theorem dX12_findTwins_200 : decode cX12_findTwins 200 = .ok (.getfield 98, 3) := by decide +kernel
theorem dX12_findTwins_203 : decode cX12_findTwins 203 = .ok (.if_icmp .ge 53, 3) := by decide +kernel
theorem dX12_findTwins_206 : decode cX12_findTwins 206 = .ok (.iload 4, 2) := by decide +kernel
theorem dX12_findTwins_208 : decode cX12_findTwins 208 = .ok (.ifCond .ne 35, 3) := by decide +kernel
theorem dX12_findTwins_211 : decode cX12_findTwins 211 = .ok (.aload_n 0, 1) := by decide +kernel
theorem dX12_findTwins_212 : decode cX12_findTwins 212 = .ok (.getfield 74, 3) := by decide +kernel
theorem dX12_findTwins_215 : decode cX12_findTwins 215 = .ok (.iload 5, 2) := by decide +kernel
theorem dX12_findTwins_217 : decode cX12_findTwins 217 = .ok (.iaload, 1) := by decide +kernel
theorem dX12_findTwins_218 : decode cX12_findTwins 218 = .ok (.aload_n 0, 1) := by decide +kernel
theorem dX12_findTwins_219 : decode cX12_findTwins 219 = .ok (.getfield 74, 3) := by decide +kernel
theorem dX12_findTwins_222 : decode cX12_findTwins 222 = .ok (.iload_n 3, 1) := by decide +kernel
theorem dX12_findTwins_223 : decode cX12_findTwins 223 = .ok (.iaload, 1) := by decide +kernel
theorem dX12_findTwins_224 : decode cX12_findTwins 224 = .ok (.if_icmp .ne 23, 3) := by decide +kernel
theorem dX12_findTwins_227 : decode cX12_findTwins 227 = .ok (.aload_n 0, 1) := by decide +kernel
theorem dX12_findTwins_228 : decode cX12_findTwins 228 = .ok (.getfield 77, 3) := by decide +kernel
theorem dX12_findTwins_231 : decode cX12_findTwins 231 = .ok (.iload 5, 2) := by decide +kernel
theorem dX12_findTwins_233 : decode cX12_findTwins 233 = .ok (.iaload, 1) := by decide +kernel
theorem dX12_findTwins_234 : decode cX12_findTwins 234 = .ok (.aload_n 0, 1) := by decide +kernel
theorem dX12_findTwins_235 : decode cX12_findTwins 235 = .ok (.getfield 77, 3) := by decide +kernel
theorem dX12_findTwins_238 : decode cX12_findTwins 238 = .ok (.iload_n 3, 1) := by decide +kernel
theorem dX12_findTwins_239 : decode cX12_findTwins 239 = .ok (.iaload, 1) := by decide +kernel
theorem dX12_findTwins_240 : decode cX12_findTwins 240 = .ok (.if_icmp .eq 7, 3) := by decide +kernel
theorem dX12_findTwins_243 : decode cX12_findTwins 243 = .ok (.iconst 1, 1) := by decide +kernel
theorem dX12_findTwins_244 : decode cX12_findTwins 244 = .ok (.goto 4, 3) := by decide +kernel
theorem dX12_findTwins_247 : decode cX12_findTwins 247 = .ok (.iconst 0, 1) := by decide +kernel
theorem dX12_findTwins_248 : decode cX12_findTwins 248 = .ok (.istore 4, 2) := by decide +kernel
theorem dX12_findTwins_250 : decode cX12_findTwins 250 = .ok (.iinc 5 1, 3) := by decide +kernel
theorem dX12_findTwins_253 : decode cX12_findTwins 253 = .ok (.goto (-56), 3) := by decide +kernel
theorem dX12_findTwins_256 : decode cX12_findTwins 256 = .ok (.aload_n 0, 1) := by decide +kernel
theorem dX12_findTwins_257 : decode cX12_findTwins 257 = .ok (.getfield 80, 3) := by decide +kernel
theorem dX12_findTwins_260 : decode cX12_findTwins 260 = .ok (.iload_n 3, 1) := by decide +kernel
theorem dX12_findTwins_261 : decode cX12_findTwins 261 = .ok (.iload 4, 2) := by decide +kernel
theorem dX12_findTwins_263 : decode cX12_findTwins 263 = .ok (.ifCond .eq 7, 3) := by decide +kernel
theorem dX12_findTwins_266 : decode cX12_findTwins 266 = .ok (.iload_n 2, 1) := by decide +kernel
theorem dX12_findTwins_267 : decode cX12_findTwins 267 = .ok (.goto 9, 3) := by decide +kernel
theorem dX12_findTwins_270 : decode cX12_findTwins 270 = .ok (.aload_n 0, 1) := by decide +kernel
theorem dX12_findTwins_271 : decode cX12_findTwins 271 = .ok (.getfield 80, 3) := by decide +kernel
theorem dX12_findTwins_274 : decode cX12_findTwins 274 = .ok (.iload_n 3, 1) := by decide +kernel
theorem dX12_findTwins_275 : decode cX12_findTwins 275 = .ok (.iaload, 1) := by decide +kernel
theorem dX12_findTwins_276 : decode cX12_findTwins 276 = .ok (.iastore, 1) := by decide +kernel
theorem dX12_findTwins_277 : decode cX12_findTwins 277 = .ok (.iload_n 1, 1) := by decide +kernel
theorem dX12_findTwins_278 : decode cX12_findTwins 278 = .ok (.ifCond .ne 8, 3) := by decide +kernel
theorem dX12_findTwins_281 : decode cX12_findTwins 281 = .ok (.iload 4, 2) := by decide +kernel
theorem dX12_findTwins_283 : decode cX12_findTwins 283 = .ok (.ifCond .eq 7, 3) := by decide +kernel
theorem dX12_findTwins_286 : decode cX12_findTwins 286 = .ok (.iconst 1, 1) := by decide +kernel
theorem dX12_findTwins_287 : decode cX12_findTwins 287 = .ok (.goto 4, 3) := by decide +kernel
theorem dX12_findTwins_290 : decode cX12_findTwins 290 = .ok (.iconst 0, 1) := by decide +kernel
theorem dX12_findTwins_291 : decode cX12_findTwins 291 = .ok (.istore_n 1, 1) := by decide +kernel
theorem dX12_findTwins_292 : decode cX12_findTwins 292 = .ok (.iinc 3 1, 3) := by decide +kernel
theorem dX12_findTwins_295 : decode cX12_findTwins 295 = .ok (.goto (-112), 3) := by decide +kernel
theorem dX12_findTwins_298 : decode cX12_findTwins 298 = .ok (.iconst 0, 1) := by decide +kernel
theorem dX12_findTwins_299 : decode cX12_findTwins 299 = .ok (.istore_n 3, 1) := by decide +kernel
theorem dX12_findTwins_300 : decode cX12_findTwins 300 = .ok (.iload_n 3, 1) := by decide +kernel
theorem dX12_findTwins_301 : decode cX12_findTwins 301 = .ok (.aload_n 0, 1) := by decide +kernel
theorem dX12_findTwins_302 : decode cX12_findTwins 302 = .ok (.getfield 98, 3) := by decide +kernel
theorem dX12_findTwins_305 : decode cX12_findTwins 305 = .ok (.if_icmp .ge 21, 3) := by decide +kernel
theorem dX12_findTwins_308 : decode cX12_findTwins 308 = .ok (.aload_n 0, 1) := by decide +kernel
theorem dX12_findTwins_309 : decode cX12_findTwins 309 = .ok (.getfield 74, 3) := by decide +kernel
theorem dX12_findTwins_312 : decode cX12_findTwins 312 = .ok (.iload_n 3, 1) := by decide +kernel
theorem dX12_findTwins_313 : decode cX12_findTwins 313 = .ok (.aload_n 0, 1) := by decide +kernel
theorem dX12_findTwins_314 : decode cX12_findTwins 314 = .ok (.getfield 77, 3) := by decide +kernel
theorem dX12_findTwins_317 : decode cX12_findTwins 317 = .ok (.iload_n 3, 1) := by decide +kernel
theorem dX12_findTwins_318 : decode cX12_findTwins 318 = .ok (.iaload, 1) := by decide +kernel
theorem dX12_findTwins_319 : decode cX12_findTwins 319 = .ok (.iastore, 1) := by decide +kernel
theorem dX12_findTwins_320 : decode cX12_findTwins 320 = .ok (.iinc 3 1, 3) := by decide +kernel
theorem dX12_findTwins_323 : decode cX12_findTwins 323 = .ok (.goto (-23), 3) := by decide +kernel
theorem dX12_findTwins_326 : decode cX12_findTwins 326 = .ok (.iinc 2 1, 3) := by decide +kernel
theorem dX12_findTwins_329 : decode cX12_findTwins 329 = .ok (.goto (-220), 3) := by decide +kernel
theorem dX12_findTwins_332 : decode cX12_findTwins 332 = .ok (.return_, 1) := by decide +kernel
theorem dX12_twin_0 : decode cX12_twin 0 = .ok (.aload_n 0, 1) := by decide +kernel
theorem dX12_twin_1 : decode cX12_twin 1 = .ok (.iload_n 1, 1) := by decide +kernel
theorem dX12_twin_2 : decode cX12_twin 2 = .ok (.invokevirtual 106, 3) := by decide +kernel
theorem dX12_twin_5 : decode cX12_twin 5 = .ok (.ifCond .ne 6, 3) := by decide +kernel
theorem dX12_twin_8 : decode cX12_twin 8 = .ok (.bipush (-2), 2) := by decide +kernel
theorem dX12_twin_10 : decode cX12_twin 10 = .ok (.ireturn, 1) := by decide +kernel
theorem dX12_twin_11 : decode cX12_twin 11 = .ok (.iload_n 2, 1) := by decide +kernel
theorem dX12_twin_12 : decode cX12_twin 12 = .ok (.iconst 0, 1) := by decide +kernel
theorem dX12_twin_13 : decode cX12_twin 13 = .ok (.iconst 2, 1) := by decide +kernel
theorem dX12_twin_14 : decode cX12_twin 14 = .ok (.invokestatic 102, 3) := by decide +kernel
theorem dX12_twin_17 : decode cX12_twin 17 = .ok (.ifCond .ne 6, 3) := by decide +kernel
theorem dX12_twin_20 : decode cX12_twin 20 = .ok (.bipush (-3), 2) := by decide +kernel
theorem dX12_twin_22 : decode cX12_twin 22 = .ok (.ireturn, 1) := by decide +kernel
theorem dX12_twin_23 : decode cX12_twin 23 = .ok (.aload_n 0, 1) := by decide +kernel
theorem dX12_twin_24 : decode cX12_twin 24 = .ok (.invokevirtual 264, 3) := by decide +kernel
theorem dX12_twin_27 : decode cX12_twin 27 = .ok (.iconst 0, 1) := by decide +kernel
theorem dX12_twin_28 : decode cX12_twin 28 = .ok (.istore_n 3, 1) := by decide +kernel
theorem dX12_twin_29 : decode cX12_twin 29 = .ok (.iconst 0, 1) := by decide +kernel
theorem dX12_twin_30 : decode cX12_twin 30 = .ok (.istore 4, 2) := by decide +kernel
theorem dX12_twin_32 : decode cX12_twin 32 = .ok (.iload 4, 2) := by decide +kernel
theorem dX12_twin_34 : decode cX12_twin 34 = .ok (.aload_n 0, 1) := by decide +kernel
theorem dX12_twin_35 : decode cX12_twin 35 = .ok (.getfield 98, 3) := by decide +kernel
theorem dX12_twin_38 : decode cX12_twin 38 = .ok (.if_icmp .ge 29, 3) := by decide +kernel
theorem dX12_twin_41 : decode cX12_twin 41 = .ok (.iload_n 3, 1) := by decide +kernel
theorem dX12_twin_42 : decode cX12_twin 42 = .ok (.aload_n 0, 1) := by decide +kernel
theorem dX12_twin_43 : decode cX12_twin 43 = .ok (.getfield 74, 3) := by decide +kernel
theorem dX12_twin_46 : decode cX12_twin 46 = .ok (.iload 4, 2) := by decide +kernel
theorem dX12_twin_48 : decode cX12_twin 48 = .ok (.iaload, 1) := by decide +kernel
theorem dX12_twin_49 : decode cX12_twin 49 = .ok (.iload 4, 2) := by decide +kernel
theorem dX12_twin_51 : decode cX12_twin 51 = .ok (.if_icmp .ne 7, 3) := by decide +kernel
theorem dX12_twin_54 : decode cX12_twin 54 = .ok (.iconst 1, 1) := by decide +kernel
theorem dX12_twin_55 : decode cX12_twin 55 = .ok (.goto 4, 3) := by decide +kernel
theorem dX12_twin_58 : decode cX12_twin 58 = .ok (.iconst 0, 1) := by decide +kernel
theorem dX12_twin_59 : decode cX12_twin 59 = .ok (.iadd, 1) := by decide +kernel
theorem dX12_twin_60 : decode cX12_twin 60 = .ok (.istore_n 3, 1) := by decide +kernel
theorem dX12_twin_61 : decode cX12_twin 61 = .ok (.iinc 4 1, 3) := by decide +kernel
theorem dX12_twin_64 : decode cX12_twin 64 = .ok (.goto (-32), 3) := by decide +kernel
theorem dX12_twin_67 : decode cX12_twin 67 = .ok (.iload_n 2, 1) := by decide +kernel
theorem dX12_twin_68 : decode cX12_twin 68 = .ok (.ifCond .ne 12, 3) := by decide +kernel
theorem dX12_twin_71 : decode cX12_twin 71 = .ok (.aload_n 0, 1) := by decide +kernel
theorem dX12_twin_72 : decode cX12_twin 72 = .ok (.getfield 74, 3) := by decide +kernel
theorem dX12_twin_75 : decode cX12_twin 75 = .ok (.iload_n 1, 1) := by decide +kernel
theorem dX12_twin_76 : decode cX12_twin 76 = .ok (.iaload, 1) := by decide +kernel
theorem dX12_twin_77 : decode cX12_twin 77 = .ok (.goto 18, 3) := by decide +kernel
theorem dX12_twin_80 : decode cX12_twin 80 = .ok (.iload_n 2, 1) := by decide +kernel
theorem dX12_twin_81 : decode cX12_twin 81 = .ok (.iconst 1, 1) := by decide +kernel
theorem dX12_twin_82 : decode cX12_twin 82 = .ok (.if_icmp .ne 12, 3) := by decide +kernel
theorem dX12_twin_85 : decode cX12_twin 85 = .ok (.aload_n 0, 1) := by decide +kernel
theorem dX12_twin_86 : decode cX12_twin 86 = .ok (.getfield 80, 3) := by decide +kernel
theorem dX12_twin_89 : decode cX12_twin 89 = .ok (.iload_n 1, 1) := by decide +kernel
theorem dX12_twin_90 : decode cX12_twin 90 = .ok (.iaload, 1) := by decide +kernel
theorem dX12_twin_91 : decode cX12_twin 91 = .ok (.goto 4, 3) := by decide +kernel
theorem dX12_twin_94 : decode cX12_twin 94 = .ok (.iload_n 3, 1) := by decide +kernel
theorem dX12_twin_95 : decode cX12_twin 95 = .ok (.ireturn, 1) := by decide +kernel
theorem dX12_breaks_0 : decode cX12_breaks 0 = .ok (.aload_n 0, 1) := by decide +kernel
theorem dX12_breaks_1 : decode cX12_breaks 1 = .ok (.invokevirtual 201, 3) := by decide +kernel
theorem dX12_breaks_4 : decode cX12_breaks 4 = .ok (.ifCond .ne 6, 3) := by decide +kernel
theorem dX12_breaks_7 : decode cX12_breaks 7 = .ok (.bipush (-4), 2) := by decide +kernel
theorem dX12_breaks_9 : decode cX12_breaks 9 = .ok (.ireturn, 1) := by decide +kernel
theorem dX12_breaks_10 : decode cX12_breaks 10 = .ok (.aload_n 0, 1) := by decide +kernel
theorem dX12_breaks_11 : decode cX12_breaks 11 = .ok (.invokevirtual 222, 3) := by decide +kernel
theorem dX12_breaks_14 : decode cX12_breaks 14 = .ok (.istore_n 1, 1) := by decide +kernel
theorem dX12_breaks_15 : decode cX12_breaks 15 = .ok (.iconst 0, 1) := by decide +kernel
theorem dX12_breaks_16 : decode cX12_breaks 16 = .ok (.istore_n 2, 1) := by decide +kernel
theorem dX12_breaks_17 : decode cX12_breaks 17 = .ok (.iload_n 2, 1) := by decide +kernel
theorem dX12_breaks_18 : decode cX12_breaks 18 = .ok (.aload_n 0, 1) := by decide +kernel
theorem dX12_breaks_19 : decode cX12_breaks 19 = .ok (.getfield 98, 3) := by decide +kernel
theorem dX12_breaks_22 : decode cX12_breaks 22 = .ok (.if_icmp .ge 84, 3) := by decide +kernel
theorem dX12_breaks_25 : decode cX12_breaks 25 = .ok (.aload_n 0, 1) := by decide +kernel
theorem dX12_breaks_26 : decode cX12_breaks 26 = .ok (.getfield 13, 3) := by decide +kernel
theorem dX12_breaks_29 : decode cX12_breaks 29 = .ok (.iload_n 2, 1) := by decide +kernel
theorem dX12_breaks_30 : decode cX12_breaks 30 = .ok (.iaload, 1) := by decide +kernel
theorem dX12_breaks_31 : decode cX12_breaks 31 = .ok (.istore_n 3, 1) := by decide +kernel
theorem dX12_breaks_32 : decode cX12_breaks 32 = .ok (.iconst (-1), 1) := by decide +kernel
theorem dX12_breaks_33 : decode cX12_breaks 33 = .ok (.istore 4, 2) := by decide +kernel
theorem dX12_breaks_35 : decode cX12_breaks 35 = .ok (.iconst 3, 1) := by decide +kernel
theorem dX12_breaks_36 : decode cX12_breaks 36 = .ok (.istore 5, 2) := by decide +kernel
theorem dX12_breaks_38 : decode cX12_breaks 38 = .ok (.iload 5, 2) := by decide +kernel
theorem dX12_breaks_40 : decode cX12_breaks 40 = .ok (.ifCond .lt 40, 3) := by decide +kernel
theorem dX12_breaks_43 : decode cX12_breaks 43 = .ok (.aload_n 0, 1) := by decide +kernel
theorem dX12_breaks_44 : decode cX12_breaks 44 = .ok (.getfield 13, 3) := by decide +kernel
theorem dX12_breaks_47 : decode cX12_breaks 47 = .ok (.iload_n 2, 1) := by decide +kernel
theorem dX12_breaks_48 : decode cX12_breaks 48 = .ok (.iload 5, 2) := by decide +kernel
theorem dX12_breaks_50 : decode cX12_breaks 50 = .ok (.iastore, 1) := by decide +kernel
theorem dX12_breaks_51 : decode cX12_breaks 51 = .ok (.iload 5, 2) := by decide +kernel
theorem dX12_breaks_53 : decode cX12_breaks 53 = .ok (.iload_n 3, 1) := by decide +kernel
theorem dX12_breaks_54 : decode cX12_breaks 54 = .ok (.if_icmp .eq 16, 3) := by decide +kernel
theorem dX12_breaks_57 : decode cX12_breaks 57 = .ok (.aload_n 0, 1) := by decide +kernel
theorem dX12_breaks_58 : decode cX12_breaks 58 = .ok (.invokevirtual 222, 3) := by decide +kernel
theorem dX12_breaks_61 : decode cX12_breaks 61 = .ok (.iload_n 1, 1) := by decide +kernel
theorem dX12_breaks_62 : decode cX12_breaks 62 = .ok (.if_icmp .eq 8, 3) := by decide +kernel
theorem dX12_breaks_65 : decode cX12_breaks 65 = .ok (.iload 5, 2) := by decide +kernel
theorem dX12_breaks_67 : decode cX12_breaks 67 = .ok (.goto 5, 3) := by decide +kernel
theorem dX12_breaks_70 : decode cX12_breaks 70 = .ok (.iload 4, 2) := by decide +kernel
theorem dX12_breaks_72 : decode cX12_breaks 72 = .ok (.istore 4, 2) := by decide +kernel
theorem dX12_breaks_74 : decode cX12_breaks 74 = .ok (.iinc 5 (-1), 3) := by decide +kernel
theorem dX12_breaks_77 : decode cX12_breaks 77 = .ok (.goto (-39), 3) := by decide +kernel
theorem dX12_breaks_80 : decode cX12_breaks 80 = .ok (.aload_n 0, 1) := by decide +kernel
theorem dX12_breaks_81 : decode cX12_breaks 81 = .ok (.getfield 13, 3) := by decide +kernel
theorem dX12_breaks_84 : decode cX12_breaks 84 = .ok (.iload_n 2, 1) := by decide +kernel
theorem dX12_breaks_85 : decode cX12_breaks 85 = .ok (.iload_n 3, 1) := by decide +kernel
theorem dX12_breaks_86 : decode cX12_breaks 86 = .ok (.iastore, 1) := by decide +kernel
theorem dX12_breaks_87 : decode cX12_breaks 87 = .ok (.iload 4, 2) := by decide +kernel
theorem dX12_breaks_89 : decode cX12_breaks 89 = .ok (.iconst (-1), 1) := by decide +kernel
theorem dX12_breaks_90 : decode cX12_breaks 90 = .ok (.if_icmp .eq 10, 3) := by decide +kernel
theorem dX12_breaks_93 : decode cX12_breaks 93 = .ok (.iconst 4, 1) := by decide +kernel
theorem dX12_breaks_94 : decode cX12_breaks 94 = .ok (.iload_n 2, 1) := by decide +kernel
theorem dX12_breaks_95 : decode cX12_breaks 95 = .ok (.imul, 1) := by decide +kernel
theorem dX12_breaks_96 : decode cX12_breaks 96 = .ok (.iload 4, 2) := by decide +kernel
theorem dX12_breaks_98 : decode cX12_breaks 98 = .ok (.iadd, 1) := by decide +kernel
theorem dX12_breaks_99 : decode cX12_breaks 99 = .ok (.ireturn, 1) := by decide +kernel
theorem dX12_breaks_100 : decode cX12_breaks 100 = .ok (.iinc 2 1, 3) := by decide +kernel
theorem dX12_breaks_103 : decode cX12_breaks 103 = .ok (.goto (-86), 3) := by decide +kernel
theorem dX12_breaks_106 : decode cX12_breaks 106 = .ok (.iconst (-1), 1) := by decide +kernel
theorem dX12_breaks_107 : decode cX12_breaks 107 = .ok (.ireturn, 1) := by decide +kernel
theorem dX12_think_0 : decode cX12_think 0 = .ok (.iconst 0, 1) := by decide +kernel
theorem dX12_think_1 : decode cX12_think 1 = .ok (.istore_n 2, 1) := by decide +kernel
theorem dX12_think_2 : decode cX12_think 2 = .ok (.iload_n 2, 1) := by decide +kernel
theorem dX12_think_3 : decode cX12_think 3 = .ok (.aload_n 0, 1) := by decide +kernel
theorem dX12_think_4 : decode cX12_think 4 = .ok (.getfield 228, 3) := by decide +kernel
theorem dX12_think_7 : decode cX12_think 7 = .ok (.if_icmp .ge 24, 3) := by decide +kernel
theorem dX12_think_10 : decode cX12_think 10 = .ok (.aload_n 0, 1) := by decide +kernel
theorem dX12_think_11 : decode cX12_think 11 = .ok (.iload_n 2, 1) := by decide +kernel
theorem dX12_think_12 : decode cX12_think 12 = .ok (.invokevirtual 231, 3) := by decide +kernel
theorem dX12_think_15 : decode cX12_think 15 = .ok (.aload_n 0, 1) := by decide +kernel
theorem dX12_think_16 : decode cX12_think 16 = .ok (.getfield 83, 3) := by decide +kernel
theorem dX12_think_19 : decode cX12_think 19 = .ok (.iload_n 2, 1) := by decide +kernel
theorem dX12_think_20 : decode cX12_think 20 = .ok (.aload_n 0, 1) := by decide +kernel
theorem dX12_think_21 : decode cX12_think 21 = .ok (.invokevirtual 222, 3) := by decide +kernel
theorem dX12_think_24 : decode cX12_think 24 = .ok (.iastore, 1) := by decide +kernel
theorem dX12_think_25 : decode cX12_think 25 = .ok (.iinc 2 1, 3) := by decide +kernel
theorem dX12_think_28 : decode cX12_think 28 = .ok (.goto (-26), 3) := by decide +kernel
theorem dX12_think_31 : decode cX12_think 31 = .ok (.iconst 0, 1) := by decide +kernel
theorem dX12_think_32 : decode cX12_think 32 = .ok (.istore_n 2, 1) := by decide +kernel
theorem dX12_think_33 : decode cX12_think 33 = .ok (.iload_n 2, 1) := by decide +kernel
theorem dX12_think_34 : decode cX12_think 34 = .ok (.iload_n 1, 1) := by decide +kernel
theorem dX12_think_35 : decode cX12_think 35 = .ok (.if_icmp .ge 132, 3) := by decide +kernel
theorem dX12_think_38 : decode cX12_think 38 = .ok (.aload_n 0, 1) := by decide +kernel
theorem dX12_think_39 : decode cX12_think 39 = .ok (.invokevirtual 267, 3) := by decide +kernel
theorem dX12_think_42 : decode cX12_think 42 = .ok (.iconst 0, 1) := by decide +kernel
theorem dX12_think_43 : decode cX12_think 43 = .ok (.istore_n 3, 1) := by decide +kernel
theorem dX12_think_44 : decode cX12_think 44 = .ok (.iload_n 3, 1) := by decide +kernel
theorem dX12_think_45 : decode cX12_think 45 = .ok (.aload_n 0, 1) := by decide +kernel
theorem dX12_think_46 : decode cX12_think 46 = .ok (.getfield 228, 3) := by decide +kernel
theorem dX12_think_49 : decode cX12_think 49 = .ok (.if_icmp .ge 66, 3) := by decide +kernel
theorem dX12_think_52 : decode cX12_think 52 = .ok (.aload_n 0, 1) := by decide +kernel
theorem dX12_think_53 : decode cX12_think 53 = .ok (.getfield 86, 3) := by decide +kernel
theorem dX12_think_56 : decode cX12_think 56 = .ok (.iload_n 3, 1) := by decide +kernel
theorem dX12_think_57 : decode cX12_think 57 = .ok (.iconst 0, 1) := by decide +kernel
theorem dX12_think_58 : decode cX12_think 58 = .ok (.iastore, 1) := by decide +kernel
theorem dX12_think_59 : decode cX12_think 59 = .ok (.iconst 0, 1) := by decide +kernel
theorem dX12_think_60 : decode cX12_think 60 = .ok (.istore 4, 2) := by decide +kernel
theorem dX12_think_62 : decode cX12_think 62 = .ok (.iload 4, 2) := by decide +kernel
theorem dX12_think_64 : decode cX12_think 64 = .ok (.aload_n 0, 1) := by decide +kernel
theorem dX12_think_65 : decode cX12_think 65 = .ok (.getfield 98, 3) := by decide +kernel
theorem dX12_think_68 : decode cX12_think 68 = .ok (.if_icmp .ge 41, 3) := by decide +kernel
theorem dX12_think_71 : decode cX12_think 71 = .ok (.aload_n 0, 1) := by decide +kernel
theorem dX12_think_72 : decode cX12_think 72 = .ok (.getfield 86, 3) := by decide +kernel
theorem dX12_think_75 : decode cX12_think 75 = .ok (.iload_n 3, 1) := by decide +kernel
theorem dX12_think_76 : decode cX12_think 76 = .ok (.aload_n 0, 1) := by decide +kernel
theorem dX12_think_77 : decode cX12_think 77 = .ok (.getfield 86, 3) := by decide +kernel
theorem dX12_think_80 : decode cX12_think 80 = .ok (.iload_n 3, 1) := by decide +kernel
theorem dX12_think_81 : decode cX12_think 81 = .ok (.iaload, 1) := by decide +kernel
theorem dX12_think_82 : decode cX12_think 82 = .ok (.aload_n 0, 1) := by decide +kernel
theorem dX12_think_83 : decode cX12_think 83 = .ok (.getfield 89, 3) := by decide +kernel
theorem dX12_think_86 : decode cX12_think 86 = .ok (.iload 4, 2) := by decide +kernel
theorem dX12_think_88 : decode cX12_think 88 = .ok (.iaload, 1) := by decide +kernel
theorem dX12_think_89 : decode cX12_think 89 = .ok (.iload_n 3, 1) := by decide +kernel
theorem dX12_think_90 : decode cX12_think 90 = .ok (.if_icmp .ne 10, 3) := by decide +kernel
theorem dX12_think_93 : decode cX12_think 93 = .ok (.iconst 1, 1) := by decide +kernel
theorem dX12_think_94 : decode cX12_think 94 = .ok (.iload 4, 2) := by decide +kernel
theorem dX12_think_96 : decode cX12_think 96 = .ok (.ishl, 1) := by decide +kernel
theorem dX12_think_97 : decode cX12_think 97 = .ok (.goto 4, 3) := by decide +kernel
theorem dX12_think_100 : decode cX12_think 100 = .ok (.iconst 0, 1) := by decide +kernel
theorem dX12_think_101 : decode cX12_think 101 = .ok (.ior, 1) := by decide +kernel
theorem dX12_think_102 : decode cX12_think 102 = .ok (.iastore, 1) := by decide +kernel
theorem dX12_think_103 : decode cX12_think 103 = .ok (.iinc 4 1, 3) := by decide +kernel
theorem dX12_think_106 : decode cX12_think 106 = .ok (.goto (-44), 3) := by decide +kernel
theorem dX12_think_109 : decode cX12_think 109 = .ok (.iinc 3 1, 3) := by decide +kernel
theorem dX12_think_112 : decode cX12_think 112 = .ok (.goto (-68), 3) := by decide +kernel
theorem dX12_think_115 : decode cX12_think 115 = .ok (.iconst 0, 1) := by decide +kernel
theorem dX12_think_116 : decode cX12_think 116 = .ok (.istore_n 3, 1) := by decide +kernel
theorem dX12_think_117 : decode cX12_think 117 = .ok (.iload_n 3, 1) := by decide +kernel
theorem dX12_think_118 : decode cX12_think 118 = .ok (.aload_n 0, 1) := by decide +kernel
theorem dX12_think_119 : decode cX12_think 119 = .ok (.getfield 228, 3) := by decide +kernel
theorem dX12_think_122 : decode cX12_think 122 = .ok (.if_icmp .ge 39, 3) := by decide +kernel
theorem dX12_think_125 : decode cX12_think 125 = .ok (.aload_n 0, 1) := by decide +kernel
theorem dX12_think_126 : decode cX12_think 126 = .ok (.getfield 83, 3) := by decide +kernel
theorem dX12_think_129 : decode cX12_think 129 = .ok (.iload_n 3, 1) := by decide +kernel
theorem dX12_think_130 : decode cX12_think 130 = .ok (.aload_n 0, 1) := by decide +kernel
theorem dX12_think_131 : decode cX12_think 131 = .ok (.getfield 86, 3) := by decide +kernel
theorem dX12_think_134 : decode cX12_think 134 = .ok (.iload_n 3, 1) := by decide +kernel
theorem dX12_think_135 : decode cX12_think 135 = .ok (.iaload, 1) := by decide +kernel
theorem dX12_think_136 : decode cX12_think 136 = .ok (.ifCond .ne 12, 3) := by decide +kernel
theorem dX12_think_139 : decode cX12_think 139 = .ok (.aload_n 0, 1) := by decide +kernel
theorem dX12_think_140 : decode cX12_think 140 = .ok (.getfield 83, 3) := by decide +kernel
theorem dX12_think_143 : decode cX12_think 143 = .ok (.iload_n 3, 1) := by decide +kernel
theorem dX12_think_144 : decode cX12_think 144 = .ok (.iaload, 1) := by decide +kernel
theorem dX12_think_145 : decode cX12_think 145 = .ok (.goto 9, 3) := by decide +kernel
theorem dX12_think_148 : decode cX12_think 148 = .ok (.aload_n 0, 1) := by decide +kernel
theorem dX12_think_149 : decode cX12_think 149 = .ok (.getfield 86, 3) := by decide +kernel
theorem dX12_think_152 : decode cX12_think 152 = .ok (.iload_n 3, 1) := by decide +kernel
theorem dX12_think_153 : decode cX12_think 153 = .ok (.iaload, 1) := by decide +kernel
theorem dX12_think_154 : decode cX12_think 154 = .ok (.iastore, 1) := by decide +kernel
theorem dX12_think_155 : decode cX12_think 155 = .ok (.iinc 3 1, 3) := by decide +kernel
theorem dX12_think_158 : decode cX12_think 158 = .ok (.goto (-41), 3) := by decide +kernel
theorem dX12_think_161 : decode cX12_think 161 = .ok (.iinc 2 1, 3) := by decide +kernel
theorem dX12_think_164 : decode cX12_think 164 = .ok (.goto (-131), 3) := by decide +kernel
theorem dX12_think_167 : decode cX12_think 167 = .ok (.return_, 1) := by decide +kernel
theorem dX12_findSaid_0 : decode cX12_findSaid 0 = .ok (.iconst 0, 1) := by decide +kernel
theorem dX12_findSaid_1 : decode cX12_findSaid 1 = .ok (.istore_n 1, 1) := by decide +kernel
theorem dX12_findSaid_2 : decode cX12_findSaid 2 = .ok (.iload_n 1, 1) := by decide +kernel
theorem dX12_findSaid_3 : decode cX12_findSaid 3 = .ok (.aload_n 0, 1) := by decide +kernel
theorem dX12_findSaid_4 : decode cX12_findSaid 4 = .ok (.getfield 98, 3) := by decide +kernel
theorem dX12_findSaid_7 : decode cX12_findSaid 7 = .ok (.if_icmp .ge 99, 3) := by decide +kernel
theorem dX12_findSaid_10 : decode cX12_findSaid 10 = .ok (.aload_n 0, 1) := by decide +kernel
theorem dX12_findSaid_11 : decode cX12_findSaid 11 = .ok (.getfield 89, 3) := by decide +kernel
theorem dX12_findSaid_14 : decode cX12_findSaid 14 = .ok (.iload_n 1, 1) := by decide +kernel
theorem dX12_findSaid_15 : decode cX12_findSaid 15 = .ok (.iconst (-1), 1) := by decide +kernel
theorem dX12_findSaid_16 : decode cX12_findSaid 16 = .ok (.iastore, 1) := by decide +kernel
theorem dX12_findSaid_17 : decode cX12_findSaid 17 = .ok (.iconst 0, 1) := by decide +kernel
theorem dX12_findSaid_18 : decode cX12_findSaid 18 = .ok (.istore_n 2, 1) := by decide +kernel
theorem dX12_findSaid_19 : decode cX12_findSaid 19 = .ok (.iconst 0, 1) := by decide +kernel
theorem dX12_findSaid_20 : decode cX12_findSaid 20 = .ok (.istore_n 3, 1) := by decide +kernel
theorem dX12_findSaid_21 : decode cX12_findSaid 21 = .ok (.iload_n 3, 1) := by decide +kernel
theorem dX12_findSaid_22 : decode cX12_findSaid 22 = .ok (.aload_n 0, 1) := by decide +kernel
theorem dX12_findSaid_23 : decode cX12_findSaid 23 = .ok (.getfield 228, 3) := by decide +kernel
theorem dX12_findSaid_26 : decode cX12_findSaid 26 = .ok (.if_icmp .ge 74, 3) := by decide +kernel
theorem dX12_findSaid_29 : decode cX12_findSaid 29 = .ok (.aload_n 0, 1) := by decide +kernel
theorem dX12_findSaid_30 : decode cX12_findSaid 30 = .ok (.iload_n 3, 1) := by decide +kernel
theorem dX12_findSaid_31 : decode cX12_findSaid 31 = .ok (.invokevirtual 231, 3) := by decide +kernel
theorem dX12_findSaid_34 : decode cX12_findSaid 34 = .ok (.sipush 1000, 3) := by decide +kernel
theorem dX12_findSaid_37 : decode cX12_findSaid 37 = .ok (.aload_n 0, 1) := by decide +kernel
theorem dX12_findSaid_38 : decode cX12_findSaid 38 = .ok (.getfield 83, 3) := by decide +kernel
theorem dX12_findSaid_41 : decode cX12_findSaid 41 = .ok (.iload_n 3, 1) := by decide +kernel
theorem dX12_findSaid_42 : decode cX12_findSaid 42 = .ok (.iaload, 1) := by decide +kernel
theorem dX12_findSaid_43 : decode cX12_findSaid 43 = .ok (.invokestatic 110, 3) := by decide +kernel
theorem dX12_findSaid_46 : decode cX12_findSaid 46 = .ok (.imul, 1) := by decide +kernel
theorem dX12_findSaid_47 : decode cX12_findSaid 47 = .ok (.aload_n 0, 1) := by decide +kernel
theorem dX12_findSaid_48 : decode cX12_findSaid 48 = .ok (.invokevirtual 225, 3) := by decide +kernel
theorem dX12_findSaid_51 : decode cX12_findSaid 51 = .ok (.iadd, 1) := by decide +kernel
theorem dX12_findSaid_52 : decode cX12_findSaid 52 = .ok (.istore 4, 2) := by decide +kernel
theorem dX12_findSaid_54 : decode cX12_findSaid 54 = .ok (.aload_n 0, 1) := by decide +kernel
theorem dX12_findSaid_55 : decode cX12_findSaid 55 = .ok (.getfield 83, 3) := by decide +kernel
theorem dX12_findSaid_58 : decode cX12_findSaid 58 = .ok (.iload_n 3, 1) := by decide +kernel
theorem dX12_findSaid_59 : decode cX12_findSaid 59 = .ok (.iaload, 1) := by decide +kernel
theorem dX12_findSaid_60 : decode cX12_findSaid 60 = .ok (.iload_n 1, 1) := by decide +kernel
theorem dX12_findSaid_61 : decode cX12_findSaid 61 = .ok (.ishr, 1) := by decide +kernel
theorem dX12_findSaid_62 : decode cX12_findSaid 62 = .ok (.iconst 1, 1) := by decide +kernel
theorem dX12_findSaid_63 : decode cX12_findSaid 63 = .ok (.iand, 1) := by decide +kernel
theorem dX12_findSaid_64 : decode cX12_findSaid 64 = .ok (.iconst 1, 1) := by decide +kernel
theorem dX12_findSaid_65 : decode cX12_findSaid 65 = .ok (.if_icmp .ne 29, 3) := by decide +kernel
theorem dX12_findSaid_68 : decode cX12_findSaid 68 = .ok (.aload_n 0, 1) := by decide +kernel
theorem dX12_findSaid_69 : decode cX12_findSaid 69 = .ok (.getfield 89, 3) := by decide +kernel
theorem dX12_findSaid_72 : decode cX12_findSaid 72 = .ok (.iload_n 1, 1) := by decide +kernel
theorem dX12_findSaid_73 : decode cX12_findSaid 73 = .ok (.iaload, 1) := by decide +kernel
theorem dX12_findSaid_74 : decode cX12_findSaid 74 = .ok (.iconst (-1), 1) := by decide +kernel
theorem dX12_findSaid_75 : decode cX12_findSaid 75 = .ok (.if_icmp .eq 9, 3) := by decide +kernel
theorem dX12_findSaid_78 : decode cX12_findSaid 78 = .ok (.iload 4, 2) := by decide +kernel
theorem dX12_findSaid_80 : decode cX12_findSaid 80 = .ok (.iload_n 2, 1) := by decide +kernel
theorem dX12_findSaid_81 : decode cX12_findSaid 81 = .ok (.if_icmp .ge 13, 3) := by decide +kernel
theorem dX12_findSaid_84 : decode cX12_findSaid 84 = .ok (.aload_n 0, 1) := by decide +kernel
theorem dX12_findSaid_85 : decode cX12_findSaid 85 = .ok (.getfield 89, 3) := by decide +kernel
theorem dX12_findSaid_88 : decode cX12_findSaid 88 = .ok (.iload_n 1, 1) := by decide +kernel
theorem dX12_findSaid_89 : decode cX12_findSaid 89 = .ok (.iload_n 3, 1) := by decide +kernel
theorem dX12_findSaid_90 : decode cX12_findSaid 90 = .ok (.iastore, 1) := by decide +kernel
theorem dX12_findSaid_91 : decode cX12_findSaid 91 = .ok (.iload 4, 2) := by decide +kernel
theorem dX12_findSaid_93 : decode cX12_findSaid 93 = .ok (.istore_n 2, 1) := by decide +kernel
theorem dX12_findSaid_94 : decode cX12_findSaid 94 = .ok (.iinc 3 1, 3) := by decide +kernel
theorem dX12_findSaid_97 : decode cX12_findSaid 97 = .ok (.goto (-76), 3) := by decide +kernel
theorem dX12_findSaid_100 : decode cX12_findSaid 100 = .ok (.iinc 1 1, 3) := by decide +kernel
theorem dX12_findSaid_103 : decode cX12_findSaid 103 = .ok (.goto (-101), 3) := by decide +kernel
theorem dX12_findSaid_106 : decode cX12_findSaid 106 = .ok (.return_, 1) := by decide +kernel
theorem dX12_hears_0 : decode cX12_hears 0 = .ok (.iload_n 1, 1) := by decide +kernel
theorem dX12_hears_1 : decode cX12_hears 1 = .ok (.iconst 0, 1) := by decide +kernel
theorem dX12_hears_2 : decode cX12_hears 2 = .ok (.aload_n 0, 1) := by decide +kernel
theorem dX12_hears_3 : decode cX12_hears 3 = .ok (.getfield 228, 3) := by decide +kernel
theorem dX12_hears_6 : decode cX12_hears 6 = .ok (.iconst 1, 1) := by decide +kernel
theorem dX12_hears_7 : decode cX12_hears 7 = .ok (.isub, 1) := by decide +kernel
theorem dX12_hears_8 : decode cX12_hears 8 = .ok (.invokestatic 102, 3) := by decide +kernel
theorem dX12_hears_11 : decode cX12_hears 11 = .ok (.ifCond .ne 6, 3) := by decide +kernel
theorem dX12_hears_14 : decode cX12_hears 14 = .ok (.bipush (-2), 2) := by decide +kernel
theorem dX12_hears_16 : decode cX12_hears 16 = .ok (.ireturn, 1) := by decide +kernel
theorem dX12_hears_17 : decode cX12_hears 17 = .ok (.iload_n 2, 1) := by decide +kernel
theorem dX12_hears_18 : decode cX12_hears 18 = .ok (.iconst 0, 1) := by decide +kernel
theorem dX12_hears_19 : decode cX12_hears 19 = .ok (.bipush 20, 2) := by decide +kernel
theorem dX12_hears_21 : decode cX12_hears 21 = .ok (.invokestatic 102, 3) := by decide +kernel
theorem dX12_hears_24 : decode cX12_hears 24 = .ok (.ifCond .ne 6, 3) := by decide +kernel
theorem dX12_hears_27 : decode cX12_hears 27 = .ok (.bipush (-3), 2) := by decide +kernel
theorem dX12_hears_29 : decode cX12_hears 29 = .ok (.ireturn, 1) := by decide +kernel
theorem dX12_hears_30 : decode cX12_hears 30 = .ok (.aload_n 0, 1) := by decide +kernel
theorem dX12_hears_31 : decode cX12_hears 31 = .ok (.iload_n 2, 1) := by decide +kernel
theorem dX12_hears_32 : decode cX12_hears 32 = .ok (.invokevirtual 270, 3) := by decide +kernel
theorem dX12_hears_35 : decode cX12_hears 35 = .ok (.aload_n 0, 1) := by decide +kernel
theorem dX12_hears_36 : decode cX12_hears 36 = .ok (.getfield 83, 3) := by decide +kernel
theorem dX12_hears_39 : decode cX12_hears 39 = .ok (.iload_n 1, 1) := by decide +kernel
theorem dX12_hears_40 : decode cX12_hears 40 = .ok (.iaload, 1) := by decide +kernel
theorem dX12_hears_41 : decode cX12_hears 41 = .ok (.ireturn, 1) := by decide +kernel
theorem dX12_tells_0 : decode cX12_tells 0 = .ok (.aload_n 0, 1) := by decide +kernel
theorem dX12_tells_1 : decode cX12_tells 1 = .ok (.iload_n 1, 1) := by decide +kernel
theorem dX12_tells_2 : decode cX12_tells 2 = .ok (.invokevirtual 106, 3) := by decide +kernel
theorem dX12_tells_5 : decode cX12_tells 5 = .ok (.ifCond .ne 6, 3) := by decide +kernel
theorem dX12_tells_8 : decode cX12_tells 8 = .ok (.bipush (-2), 2) := by decide +kernel
theorem dX12_tells_10 : decode cX12_tells 10 = .ok (.ireturn, 1) := by decide +kernel
theorem dX12_tells_11 : decode cX12_tells 11 = .ok (.iload_n 2, 1) := by decide +kernel
theorem dX12_tells_12 : decode cX12_tells 12 = .ok (.iconst 0, 1) := by decide +kernel
theorem dX12_tells_13 : decode cX12_tells 13 = .ok (.bipush 20, 2) := by decide +kernel
theorem dX12_tells_15 : decode cX12_tells 15 = .ok (.invokestatic 102, 3) := by decide +kernel
theorem dX12_tells_18 : decode cX12_tells 18 = .ok (.ifCond .ne 6, 3) := by decide +kernel
theorem dX12_tells_21 : decode cX12_tells 21 = .ok (.bipush (-3), 2) := by decide +kernel
theorem dX12_tells_23 : decode cX12_tells 23 = .ok (.ireturn, 1) := by decide +kernel
theorem dX12_tells_24 : decode cX12_tells 24 = .ok (.aload_n 0, 1) := by decide +kernel
theorem dX12_tells_25 : decode cX12_tells 25 = .ok (.iload_n 2, 1) := by decide +kernel
theorem dX12_tells_26 : decode cX12_tells 26 = .ok (.invokevirtual 270, 3) := by decide +kernel
theorem dX12_tells_29 : decode cX12_tells 29 = .ok (.aload_n 0, 1) := by decide +kernel
theorem dX12_tells_30 : decode cX12_tells 30 = .ok (.invokevirtual 267, 3) := by decide +kernel
theorem dX12_tells_33 : decode cX12_tells 33 = .ok (.aload_n 0, 1) := by decide +kernel
theorem dX12_tells_34 : decode cX12_tells 34 = .ok (.getfield 89, 3) := by decide +kernel
theorem dX12_tells_37 : decode cX12_tells 37 = .ok (.iload_n 1, 1) := by decide +kernel
theorem dX12_tells_38 : decode cX12_tells 38 = .ok (.iaload, 1) := by decide +kernel
theorem dX12_tells_39 : decode cX12_tells 39 = .ok (.ireturn, 1) := by decide +kernel
theorem dX12_ends_0 : decode cX12_ends 0 = .ok (.iconst 0, 1) := by decide +kernel
theorem dX12_ends_1 : decode cX12_ends 1 = .ok (.istore_n 1, 1) := by decide +kernel
theorem dX12_ends_2 : decode cX12_ends 2 = .ok (.iload_n 1, 1) := by decide +kernel
theorem dX12_ends_3 : decode cX12_ends 3 = .ok (.bipush 21, 2) := by decide +kernel
theorem dX12_ends_5 : decode cX12_ends 5 = .ok (.if_icmp .ge 98, 3) := by decide +kernel
theorem dX12_ends_8 : decode cX12_ends 8 = .ok (.aload_n 0, 1) := by decide +kernel
theorem dX12_ends_9 : decode cX12_ends 9 = .ok (.iload_n 1, 1) := by decide +kernel
theorem dX12_ends_10 : decode cX12_ends 10 = .ok (.invokevirtual 270, 3) := by decide +kernel
theorem dX12_ends_13 : decode cX12_ends 13 = .ok (.iconst 0, 1) := by decide +kernel
theorem dX12_ends_14 : decode cX12_ends 14 = .ok (.istore_n 2, 1) := by decide +kernel
theorem dX12_ends_15 : decode cX12_ends 15 = .ok (.iload_n 2, 1) := by decide +kernel
theorem dX12_ends_16 : decode cX12_ends 16 = .ok (.aload_n 0, 1) := by decide +kernel
theorem dX12_ends_17 : decode cX12_ends 17 = .ok (.getfield 228, 3) := by decide +kernel
theorem dX12_ends_20 : decode cX12_ends 20 = .ok (.if_icmp .ge 21, 3) := by decide +kernel
theorem dX12_ends_23 : decode cX12_ends 23 = .ok (.aload_n 0, 1) := by decide +kernel
theorem dX12_ends_24 : decode cX12_ends 24 = .ok (.getfield 77, 3) := by decide +kernel
theorem dX12_ends_27 : decode cX12_ends 27 = .ok (.iload_n 2, 1) := by decide +kernel
theorem dX12_ends_28 : decode cX12_ends 28 = .ok (.aload_n 0, 1) := by decide +kernel
theorem dX12_ends_29 : decode cX12_ends 29 = .ok (.getfield 83, 3) := by decide +kernel
theorem dX12_ends_32 : decode cX12_ends 32 = .ok (.iload_n 2, 1) := by decide +kernel
theorem dX12_ends_33 : decode cX12_ends 33 = .ok (.iaload, 1) := by decide +kernel
theorem dX12_ends_34 : decode cX12_ends 34 = .ok (.iastore, 1) := by decide +kernel
theorem dX12_ends_35 : decode cX12_ends 35 = .ok (.iinc 2 1, 3) := by decide +kernel
theorem dX12_ends_38 : decode cX12_ends 38 = .ok (.goto (-23), 3) := by decide +kernel
theorem dX12_ends_41 : decode cX12_ends 41 = .ok (.aload_n 0, 1) := by decide +kernel
theorem dX12_ends_42 : decode cX12_ends 42 = .ok (.iload_n 1, 1) := by decide +kernel
theorem dX12_ends_43 : decode cX12_ends 43 = .ok (.iconst 1, 1) := by decide +kernel
theorem dX12_ends_44 : decode cX12_ends 44 = .ok (.iadd, 1) := by decide +kernel
theorem dX12_ends_45 : decode cX12_ends 45 = .ok (.invokevirtual 270, 3) := by decide +kernel
theorem dX12_ends_48 : decode cX12_ends 48 = .ok (.iconst 1, 1) := by decide +kernel
theorem dX12_ends_49 : decode cX12_ends 49 = .ok (.istore_n 2, 1) := by decide +kernel
theorem dX12_ends_50 : decode cX12_ends 50 = .ok (.iconst 0, 1) := by decide +kernel
theorem dX12_ends_51 : decode cX12_ends 51 = .ok (.istore_n 3, 1) := by decide +kernel
theorem dX12_ends_52 : decode cX12_ends 52 = .ok (.iload_n 3, 1) := by decide +kernel
theorem dX12_ends_53 : decode cX12_ends 53 = .ok (.aload_n 0, 1) := by decide +kernel
theorem dX12_ends_54 : decode cX12_ends 54 = .ok (.getfield 228, 3) := by decide +kernel
theorem dX12_ends_57 : decode cX12_ends 57 = .ok (.if_icmp .ge 34, 3) := by decide +kernel
theorem dX12_ends_60 : decode cX12_ends 60 = .ok (.iload_n 2, 1) := by decide +kernel
theorem dX12_ends_61 : decode cX12_ends 61 = .ok (.ifCond .eq 22, 3) := by decide +kernel
theorem dX12_ends_64 : decode cX12_ends 64 = .ok (.aload_n 0, 1) := by decide +kernel
theorem dX12_ends_65 : decode cX12_ends 65 = .ok (.getfield 77, 3) := by decide +kernel
theorem dX12_ends_68 : decode cX12_ends 68 = .ok (.iload_n 3, 1) := by decide +kernel
theorem dX12_ends_69 : decode cX12_ends 69 = .ok (.iaload, 1) := by decide +kernel
theorem dX12_ends_70 : decode cX12_ends 70 = .ok (.aload_n 0, 1) := by decide +kernel
theorem dX12_ends_71 : decode cX12_ends 71 = .ok (.getfield 83, 3) := by decide +kernel
theorem dX12_ends_74 : decode cX12_ends 74 = .ok (.iload_n 3, 1) := by decide +kernel
theorem dX12_ends_75 : decode cX12_ends 75 = .ok (.iaload, 1) := by decide +kernel
theorem dX12_ends_76 : decode cX12_ends 76 = .ok (.if_icmp .ne 7, 3) := by decide +kernel
theorem dX12_ends_79 : decode cX12_ends 79 = .ok (.iconst 1, 1) := by decide +kernel
theorem dX12_ends_80 : decode cX12_ends 80 = .ok (.goto 4, 3) := by decide +kernel
theorem dX12_ends_83 : decode cX12_ends 83 = .ok (.iconst 0, 1) := by decide +kernel
theorem dX12_ends_84 : decode cX12_ends 84 = .ok (.istore_n 2, 1) := by decide +kernel
theorem dX12_ends_85 : decode cX12_ends 85 = .ok (.iinc 3 1, 3) := by decide +kernel
theorem dX12_ends_88 : decode cX12_ends 88 = .ok (.goto (-36), 3) := by decide +kernel
theorem dX12_ends_91 : decode cX12_ends 91 = .ok (.iload_n 2, 1) := by decide +kernel
theorem dX12_ends_92 : decode cX12_ends 92 = .ok (.ifCond .eq 5, 3) := by decide +kernel
theorem dX12_ends_95 : decode cX12_ends 95 = .ok (.iload_n 1, 1) := by decide +kernel
theorem dX12_ends_96 : decode cX12_ends 96 = .ok (.ireturn, 1) := by decide +kernel
theorem dX12_ends_97 : decode cX12_ends 97 = .ok (.iinc 1 1, 3) := by decide +kernel
theorem dX12_ends_100 : decode cX12_ends 100 = .ok (.goto (-98), 3) := by decide +kernel
theorem dX12_ends_103 : decode cX12_ends 103 = .ok (.iconst (-1), 1) := by decide +kernel
theorem dX12_ends_104 : decode cX12_ends 104 = .ok (.ireturn, 1) := by decide +kernel
theorem dX12_tryWord_0 : decode cX12_tryWord 0 = .ok (.aload_n 0, 1) := by decide +kernel
theorem dX12_tryWord_1 : decode cX12_tryWord 1 = .ok (.getfield 34, 3) := by decide +kernel
theorem dX12_tryWord_4 : decode cX12_tryWord 4 = .ok (.iload_n 1, 1) := by decide +kernel
theorem dX12_tryWord_5 : decode cX12_tryWord 5 = .ok (.iaload, 1) := by decide +kernel
theorem dX12_tryWord_6 : decode cX12_tryWord 6 = .ok (.istore 4, 2) := by decide +kernel
theorem dX12_tryWord_8 : decode cX12_tryWord 8 = .ok (.aload_n 0, 1) := by decide +kernel
theorem dX12_tryWord_9 : decode cX12_tryWord 9 = .ok (.getfield 37, 3) := by decide +kernel
theorem dX12_tryWord_12 : decode cX12_tryWord 12 = .ok (.iload_n 1, 1) := by decide +kernel
theorem dX12_tryWord_13 : decode cX12_tryWord 13 = .ok (.iaload, 1) := by decide +kernel
theorem dX12_tryWord_14 : decode cX12_tryWord 14 = .ok (.istore 5, 2) := by decide +kernel
theorem dX12_tryWord_16 : decode cX12_tryWord 16 = .ok (.iload_n 2, 1) := by decide +kernel
theorem dX12_tryWord_17 : decode cX12_tryWord 17 = .ok (.iload 4, 2) := by decide +kernel
theorem dX12_tryWord_19 : decode cX12_tryWord 19 = .ok (.if_icmp .ne 9, 3) := by decide +kernel
theorem dX12_tryWord_22 : decode cX12_tryWord 22 = .ok (.iload_n 3, 1) := by decide +kernel
theorem dX12_tryWord_23 : decode cX12_tryWord 23 = .ok (.iload 5, 2) := by decide +kernel
theorem dX12_tryWord_25 : decode cX12_tryWord 25 = .ok (.if_icmp .eq 56, 3) := by decide +kernel
theorem dX12_tryWord_28 : decode cX12_tryWord 28 = .ok (.aload_n 0, 1) := by decide +kernel
theorem dX12_tryWord_29 : decode cX12_tryWord 29 = .ok (.getfield 34, 3) := by decide +kernel
theorem dX12_tryWord_32 : decode cX12_tryWord 32 = .ok (.iload_n 1, 1) := by decide +kernel
theorem dX12_tryWord_33 : decode cX12_tryWord 33 = .ok (.iload_n 2, 1) := by decide +kernel
theorem dX12_tryWord_34 : decode cX12_tryWord 34 = .ok (.iastore, 1) := by decide +kernel
theorem dX12_tryWord_35 : decode cX12_tryWord 35 = .ok (.aload_n 0, 1) := by decide +kernel
theorem dX12_tryWord_36 : decode cX12_tryWord 36 = .ok (.getfield 37, 3) := by decide +kernel
theorem dX12_tryWord_39 : decode cX12_tryWord 39 = .ok (.iload_n 1, 1) := by decide +kernel
theorem dX12_tryWord_40 : decode cX12_tryWord 40 = .ok (.iload_n 3, 1) := by decide +kernel
theorem dX12_tryWord_41 : decode cX12_tryWord 41 = .ok (.iastore, 1) := by decide +kernel
theorem dX12_tryWord_42 : decode cX12_tryWord 42 = .ok (.aload_n 0, 1) := by decide +kernel
theorem dX12_tryWord_43 : decode cX12_tryWord 43 = .ok (.getfield 92, 3) := by decide +kernel
theorem dX12_tryWord_46 : decode cX12_tryWord 46 = .ok (.aload_n 0, 1) := by decide +kernel
theorem dX12_tryWord_47 : decode cX12_tryWord 47 = .ok (.invokevirtual 222, 3) := by decide +kernel
theorem dX12_tryWord_50 : decode cX12_tryWord 50 = .ok (.dup2, 1) := by decide +kernel
theorem dX12_tryWord_51 : decode cX12_tryWord 51 = .ok (.iaload, 1) := by decide +kernel
theorem dX12_tryWord_52 : decode cX12_tryWord 52 = .ok (.iconst 1, 1) := by decide +kernel
theorem dX12_tryWord_53 : decode cX12_tryWord 53 = .ok (.iadd, 1) := by decide +kernel
theorem dX12_tryWord_54 : decode cX12_tryWord 54 = .ok (.iastore, 1) := by decide +kernel
theorem dX12_tryWord_55 : decode cX12_tryWord 55 = .ok (.aload_n 0, 1) := by decide +kernel
theorem dX12_tryWord_56 : decode cX12_tryWord 56 = .ok (.dup, 1) := by decide +kernel
theorem dX12_tryWord_57 : decode cX12_tryWord 57 = .ok (.getfield 273, 3) := by decide +kernel
theorem dX12_tryWord_60 : decode cX12_tryWord 60 = .ok (.iconst 1, 1) := by decide +kernel
theorem dX12_tryWord_61 : decode cX12_tryWord 61 = .ok (.iadd, 1) := by decide +kernel
theorem dX12_tryWord_62 : decode cX12_tryWord 62 = .ok (.putfield 273, 3) := by decide +kernel
theorem dX12_tryWord_65 : decode cX12_tryWord 65 = .ok (.aload_n 0, 1) := by decide +kernel
theorem dX12_tryWord_66 : decode cX12_tryWord 66 = .ok (.getfield 34, 3) := by decide +kernel
theorem dX12_tryWord_69 : decode cX12_tryWord 69 = .ok (.iload_n 1, 1) := by decide +kernel
theorem dX12_tryWord_70 : decode cX12_tryWord 70 = .ok (.iload 4, 2) := by decide +kernel
theorem dX12_tryWord_72 : decode cX12_tryWord 72 = .ok (.iastore, 1) := by decide +kernel
theorem dX12_tryWord_73 : decode cX12_tryWord 73 = .ok (.aload_n 0, 1) := by decide +kernel
theorem dX12_tryWord_74 : decode cX12_tryWord 74 = .ok (.getfield 37, 3) := by decide +kernel
theorem dX12_tryWord_77 : decode cX12_tryWord 77 = .ok (.iload_n 1, 1) := by decide +kernel
theorem dX12_tryWord_78 : decode cX12_tryWord 78 = .ok (.iload 5, 2) := by decide +kernel
theorem dX12_tryWord_80 : decode cX12_tryWord 80 = .ok (.iastore, 1) := by decide +kernel
theorem dX12_tryWord_81 : decode cX12_tryWord 81 = .ok (.return_, 1) := by decide +kernel
theorem dX12_wrong_0 : decode cX12_wrong 0 = .ok (.iload_n 1, 1) := by decide +kernel
theorem dX12_wrong_1 : decode cX12_wrong 1 = .ok (.iconst 0, 1) := by decide +kernel
theorem dX12_wrong_2 : decode cX12_wrong 2 = .ok (.iconst 2, 1) := by decide +kernel
theorem dX12_wrong_3 : decode cX12_wrong 3 = .ok (.invokestatic 102, 3) := by decide +kernel
theorem dX12_wrong_6 : decode cX12_wrong 6 = .ok (.ifCond .ne 6, 3) := by decide +kernel
theorem dX12_wrong_9 : decode cX12_wrong 9 = .ok (.bipush (-3), 2) := by decide +kernel
theorem dX12_wrong_11 : decode cX12_wrong 11 = .ok (.ireturn, 1) := by decide +kernel
theorem dX12_wrong_12 : decode cX12_wrong 12 = .ok (.aload_n 0, 1) := by decide +kernel
theorem dX12_wrong_13 : decode cX12_wrong 13 = .ok (.invokevirtual 201, 3) := by decide +kernel
theorem dX12_wrong_16 : decode cX12_wrong 16 = .ok (.ifCond .ne 6, 3) := by decide +kernel
theorem dX12_wrong_19 : decode cX12_wrong 19 = .ok (.bipush (-4), 2) := by decide +kernel
theorem dX12_wrong_21 : decode cX12_wrong 21 = .ok (.ireturn, 1) := by decide +kernel
theorem dX12_wrong_22 : decode cX12_wrong 22 = .ok (.iconst 0, 1) := by decide +kernel
theorem dX12_wrong_23 : decode cX12_wrong 23 = .ok (.istore_n 2, 1) := by decide +kernel
theorem dX12_wrong_24 : decode cX12_wrong 24 = .ok (.iload_n 2, 1) := by decide +kernel
theorem dX12_wrong_25 : decode cX12_wrong 25 = .ok (.sipush 256, 3) := by decide +kernel
theorem dX12_wrong_28 : decode cX12_wrong 28 = .ok (.if_icmp .ge 16, 3) := by decide +kernel
theorem dX12_wrong_31 : decode cX12_wrong 31 = .ok (.aload_n 0, 1) := by decide +kernel
theorem dX12_wrong_32 : decode cX12_wrong 32 = .ok (.getfield 92, 3) := by decide +kernel
theorem dX12_wrong_35 : decode cX12_wrong 35 = .ok (.iload_n 2, 1) := by decide +kernel
theorem dX12_wrong_36 : decode cX12_wrong 36 = .ok (.iconst 0, 1) := by decide +kernel
theorem dX12_wrong_37 : decode cX12_wrong 37 = .ok (.iastore, 1) := by decide +kernel
theorem dX12_wrong_38 : decode cX12_wrong 38 = .ok (.iinc 2 1, 3) := by decide +kernel
theorem dX12_wrong_41 : decode cX12_wrong 41 = .ok (.goto (-17), 3) := by decide +kernel
theorem dX12_wrong_44 : decode cX12_wrong 44 = .ok (.aload_n 0, 1) := by decide +kernel
theorem dX12_wrong_45 : decode cX12_wrong 45 = .ok (.iconst 0, 1) := by decide +kernel
theorem dX12_wrong_46 : decode cX12_wrong 46 = .ok (.putfield 273, 3) := by decide +kernel
theorem dX12_wrong_49 : decode cX12_wrong 49 = .ok (.iconst 0, 1) := by decide +kernel
theorem dX12_wrong_50 : decode cX12_wrong 50 = .ok (.istore_n 2, 1) := by decide +kernel
theorem dX12_wrong_51 : decode cX12_wrong 51 = .ok (.iload_n 2, 1) := by decide +kernel
theorem dX12_wrong_52 : decode cX12_wrong 52 = .ok (.aload_n 0, 1) := by decide +kernel
theorem dX12_wrong_53 : decode cX12_wrong 53 = .ok (.getfield 185, 3) := by decide +kernel
theorem dX12_wrong_56 : decode cX12_wrong 56 = .ok (.if_icmp .ge 123, 3) := by decide +kernel
theorem dX12_wrong_59 : decode cX12_wrong 59 = .ok (.aload_n 0, 1) := by decide +kernel
theorem dX12_wrong_60 : decode cX12_wrong 60 = .ok (.getfield 34, 3) := by decide +kernel
theorem dX12_wrong_63 : decode cX12_wrong 63 = .ok (.iload_n 2, 1) := by decide +kernel
theorem dX12_wrong_64 : decode cX12_wrong 64 = .ok (.iaload, 1) := by decide +kernel
theorem dX12_wrong_65 : decode cX12_wrong 65 = .ok (.istore_n 3, 1) := by decide +kernel
theorem dX12_wrong_66 : decode cX12_wrong 66 = .ok (.iconst 0, 1) := by decide +kernel
theorem dX12_wrong_67 : decode cX12_wrong 67 = .ok (.istore 4, 2) := by decide +kernel
theorem dX12_wrong_69 : decode cX12_wrong 69 = .ok (.iload 4, 2) := by decide +kernel
theorem dX12_wrong_71 : decode cX12_wrong 71 = .ok (.iload_n 3, 1) := by decide +kernel
theorem dX12_wrong_72 : decode cX12_wrong 72 = .ok (.iconst 3, 1) := by decide +kernel
theorem dX12_wrong_73 : decode cX12_wrong 73 = .ok (.if_icmp .ne 7, 3) := by decide +kernel
theorem dX12_wrong_76 : decode cX12_wrong 76 = .ok (.iconst 3, 1) := by decide +kernel
theorem dX12_wrong_77 : decode cX12_wrong 77 = .ok (.goto 4, 3) := by decide +kernel
theorem dX12_wrong_80 : decode cX12_wrong 80 = .ok (.iconst 4, 1) := by decide +kernel
theorem dX12_wrong_81 : decode cX12_wrong 81 = .ok (.if_icmp .ge 26, 3) := by decide +kernel
theorem dX12_wrong_84 : decode cX12_wrong 84 = .ok (.iload_n 3, 1) := by decide +kernel
theorem dX12_wrong_85 : decode cX12_wrong 85 = .ok (.iconst 1, 1) := by decide +kernel
theorem dX12_wrong_86 : decode cX12_wrong 86 = .ok (.iconst 3, 1) := by decide +kernel
theorem dX12_wrong_87 : decode cX12_wrong 87 = .ok (.invokestatic 102, 3) := by decide +kernel
theorem dX12_wrong_90 : decode cX12_wrong 90 = .ok (.ifCond .eq 17, 3) := by decide +kernel
theorem dX12_wrong_93 : decode cX12_wrong 93 = .ok (.aload_n 0, 1) := by decide +kernel
theorem dX12_wrong_94 : decode cX12_wrong 94 = .ok (.iload_n 2, 1) := by decide +kernel
theorem dX12_wrong_95 : decode cX12_wrong 95 = .ok (.iload_n 3, 1) := by decide +kernel
theorem dX12_wrong_96 : decode cX12_wrong 96 = .ok (.iload 4, 2) := by decide +kernel
theorem dX12_wrong_98 : decode cX12_wrong 98 = .ok (.invokevirtual 276, 3) := by decide +kernel
theorem dX12_wrong_101 : decode cX12_wrong 101 = .ok (.iinc 4 1, 3) := by decide +kernel
theorem dX12_wrong_104 : decode cX12_wrong 104 = .ok (.goto (-35), 3) := by decide +kernel
theorem dX12_wrong_107 : decode cX12_wrong 107 = .ok (.iconst 5, 1) := by decide +kernel
theorem dX12_wrong_108 : decode cX12_wrong 108 = .ok (.istore 4, 2) := by decide +kernel
theorem dX12_wrong_110 : decode cX12_wrong 110 = .ok (.iload 4, 2) := by decide +kernel
theorem dX12_wrong_112 : decode cX12_wrong 112 = .ok (.bipush 7, 2) := by decide +kernel
theorem dX12_wrong_114 : decode cX12_wrong 114 = .ok (.if_icmp .gt 27, 3) := by decide +kernel
theorem dX12_wrong_117 : decode cX12_wrong 117 = .ok (.iload_n 3, 1) := by decide +kernel
theorem dX12_wrong_118 : decode cX12_wrong 118 = .ok (.iconst 5, 1) := by decide +kernel
theorem dX12_wrong_119 : decode cX12_wrong 119 = .ok (.bipush 7, 2) := by decide +kernel
theorem dX12_wrong_121 : decode cX12_wrong 121 = .ok (.invokestatic 102, 3) := by decide +kernel
theorem dX12_wrong_124 : decode cX12_wrong 124 = .ok (.ifCond .eq 17, 3) := by decide +kernel
theorem dX12_wrong_127 : decode cX12_wrong 127 = .ok (.aload_n 0, 1) := by decide +kernel
theorem dX12_wrong_128 : decode cX12_wrong 128 = .ok (.iload_n 2, 1) := by decide +kernel
theorem dX12_wrong_129 : decode cX12_wrong 129 = .ok (.iload 4, 2) := by decide +kernel
theorem dX12_wrong_131 : decode cX12_wrong 131 = .ok (.iconst 0, 1) := by decide +kernel
theorem dX12_wrong_132 : decode cX12_wrong 132 = .ok (.invokevirtual 276, 3) := by decide +kernel
theorem dX12_wrong_135 : decode cX12_wrong 135 = .ok (.iinc 4 1, 3) := by decide +kernel
theorem dX12_wrong_138 : decode cX12_wrong 138 = .ok (.goto (-28), 3) := by decide +kernel
theorem dX12_wrong_141 : decode cX12_wrong 141 = .ok (.iload_n 3, 1) := by decide +kernel
theorem dX12_wrong_142 : decode cX12_wrong 142 = .ok (.bipush 8, 2) := by decide +kernel
theorem dX12_wrong_144 : decode cX12_wrong 144 = .ok (.bipush 13, 2) := by decide +kernel
theorem dX12_wrong_146 : decode cX12_wrong 146 = .ok (.invokestatic 102, 3) := by decide +kernel
theorem dX12_wrong_149 : decode cX12_wrong 149 = .ok (.ifCond .eq 24, 3) := by decide +kernel
theorem dX12_wrong_152 : decode cX12_wrong 152 = .ok (.aload_n 0, 1) := by decide +kernel
theorem dX12_wrong_153 : decode cX12_wrong 153 = .ok (.iload_n 2, 1) := by decide +kernel
theorem dX12_wrong_154 : decode cX12_wrong 154 = .ok (.iload_n 3, 1) := by decide +kernel
theorem dX12_wrong_155 : decode cX12_wrong 155 = .ok (.iconst 2, 1) := by decide +kernel
theorem dX12_wrong_156 : decode cX12_wrong 156 = .ok (.irem, 1) := by decide +kernel
theorem dX12_wrong_157 : decode cX12_wrong 157 = .ok (.ifCond .ne 9, 3) := by decide +kernel
theorem dX12_wrong_160 : decode cX12_wrong 160 = .ok (.iload_n 3, 1) := by decide +kernel
theorem dX12_wrong_161 : decode cX12_wrong 161 = .ok (.iconst 1, 1) := by decide +kernel
theorem dX12_wrong_162 : decode cX12_wrong 162 = .ok (.iadd, 1) := by decide +kernel
theorem dX12_wrong_163 : decode cX12_wrong 163 = .ok (.goto 6, 3) := by decide +kernel
theorem dX12_wrong_166 : decode cX12_wrong 166 = .ok (.iload_n 3, 1) := by decide +kernel
theorem dX12_wrong_167 : decode cX12_wrong 167 = .ok (.iconst 1, 1) := by decide +kernel
theorem dX12_wrong_168 : decode cX12_wrong 168 = .ok (.isub, 1) := by decide +kernel
theorem dX12_wrong_169 : decode cX12_wrong 169 = .ok (.iconst 0, 1) := by decide +kernel
theorem dX12_wrong_170 : decode cX12_wrong 170 = .ok (.invokevirtual 276, 3) := by decide +kernel
theorem dX12_wrong_173 : decode cX12_wrong 173 = .ok (.iinc 2 1, 3) := by decide +kernel
theorem dX12_wrong_176 : decode cX12_wrong 176 = .ok (.goto (-125), 3) := by decide +kernel
theorem dX12_wrong_179 : decode cX12_wrong 179 = .ok (.iconst 0, 1) := by decide +kernel
theorem dX12_wrong_180 : decode cX12_wrong 180 = .ok (.istore_n 2, 1) := by decide +kernel
theorem dX12_wrong_181 : decode cX12_wrong 181 = .ok (.iconst 0, 1) := by decide +kernel
theorem dX12_wrong_182 : decode cX12_wrong 182 = .ok (.istore_n 3, 1) := by decide +kernel
theorem dX12_wrong_183 : decode cX12_wrong 183 = .ok (.iload_n 3, 1) := by decide +kernel
theorem dX12_wrong_184 : decode cX12_wrong 184 = .ok (.sipush 256, 3) := by decide +kernel
theorem dX12_wrong_187 : decode cX12_wrong 187 = .ok (.if_icmp .ge 30, 3) := by decide +kernel
theorem dX12_wrong_190 : decode cX12_wrong 190 = .ok (.aload_n 0, 1) := by decide +kernel
theorem dX12_wrong_191 : decode cX12_wrong 191 = .ok (.getfield 92, 3) := by decide +kernel
theorem dX12_wrong_194 : decode cX12_wrong 194 = .ok (.iload_n 3, 1) := by decide +kernel
theorem dX12_wrong_195 : decode cX12_wrong 195 = .ok (.iaload, 1) := by decide +kernel
theorem dX12_wrong_196 : decode cX12_wrong 196 = .ok (.aload_n 0, 1) := by decide +kernel
theorem dX12_wrong_197 : decode cX12_wrong 197 = .ok (.getfield 92, 3) := by decide +kernel
theorem dX12_wrong_200 : decode cX12_wrong 200 = .ok (.iload_n 2, 1) := by decide +kernel
theorem dX12_wrong_201 : decode cX12_wrong 201 = .ok (.iaload, 1) := by decide +kernel
theorem dX12_wrong_202 : decode cX12_wrong 202 = .ok (.if_icmp .le 7, 3) := by decide +kernel
theorem dX12_wrong_205 : decode cX12_wrong 205 = .ok (.iload_n 3, 1) := by decide +kernel
theorem dX12_wrong_206 : decode cX12_wrong 206 = .ok (.goto 4, 3) := by decide +kernel
theorem dX12_wrong_209 : decode cX12_wrong 209 = .ok (.iload_n 2, 1) := by decide +kernel
theorem dX12_wrong_210 : decode cX12_wrong 210 = .ok (.istore_n 2, 1) := by decide +kernel
theorem dX12_wrong_211 : decode cX12_wrong 211 = .ok (.iinc 3 1, 3) := by decide +kernel
theorem dX12_wrong_214 : decode cX12_wrong 214 = .ok (.goto (-31), 3) := by decide +kernel
theorem dX12_wrong_217 : decode cX12_wrong 217 = .ok (.iload_n 1, 1) := by decide +kernel
theorem dX12_wrong_218 : decode cX12_wrong 218 = .ok (.iconst 2, 1) := by decide +kernel
theorem dX12_wrong_219 : decode cX12_wrong 219 = .ok (.if_icmp .ne 10, 3) := by decide +kernel
theorem dX12_wrong_222 : decode cX12_wrong 222 = .ok (.aload_n 0, 1) := by decide +kernel
theorem dX12_wrong_223 : decode cX12_wrong 223 = .ok (.getfield 273, 3) := by decide +kernel
theorem dX12_wrong_226 : decode cX12_wrong 226 = .ok (.goto 28, 3) := by decide +kernel
theorem dX12_wrong_229 : decode cX12_wrong 229 = .ok (.aload_n 0, 1) := by decide +kernel
theorem dX12_wrong_230 : decode cX12_wrong 230 = .ok (.getfield 273, 3) := by decide +kernel
theorem dX12_wrong_233 : decode cX12_wrong 233 = .ok (.ifCond .ne 7, 3) := by decide +kernel
theorem dX12_wrong_236 : decode cX12_wrong 236 = .ok (.iconst (-1), 1) := by decide +kernel
theorem dX12_wrong_237 : decode cX12_wrong 237 = .ok (.goto 17, 3) := by decide +kernel
theorem dX12_wrong_240 : decode cX12_wrong 240 = .ok (.iload_n 1, 1) := by decide +kernel
theorem dX12_wrong_241 : decode cX12_wrong 241 = .ok (.ifCond .ne 7, 3) := by decide +kernel
theorem dX12_wrong_244 : decode cX12_wrong 244 = .ok (.iload_n 2, 1) := by decide +kernel
theorem dX12_wrong_245 : decode cX12_wrong 245 = .ok (.goto 9, 3) := by decide +kernel
theorem dX12_wrong_248 : decode cX12_wrong 248 = .ok (.aload_n 0, 1) := by decide +kernel
theorem dX12_wrong_249 : decode cX12_wrong 249 = .ok (.getfield 92, 3) := by decide +kernel
theorem dX12_wrong_252 : decode cX12_wrong 252 = .ok (.iload_n 2, 1) := by decide +kernel
theorem dX12_wrong_253 : decode cX12_wrong 253 = .ok (.iaload, 1) := by decide +kernel
theorem dX12_wrong_254 : decode cX12_wrong 254 = .ok (.ireturn, 1) := by decide +kernel
theorem dX12_name_0 : decode cX12_name 0 = .ok (.aload_n 0, 1) := by decide +kernel
theorem dX12_name_1 : decode cX12_name 1 = .ok (.iload_n 1, 1) := by decide +kernel
theorem dX12_name_2 : decode cX12_name 2 = .ok (.invokevirtual 106, 3) := by decide +kernel
theorem dX12_name_5 : decode cX12_name 5 = .ok (.ifCond .ne 6, 3) := by decide +kernel
theorem dX12_name_8 : decode cX12_name 8 = .ok (.bipush (-2), 2) := by decide +kernel
theorem dX12_name_10 : decode cX12_name 10 = .ok (.ireturn, 1) := by decide +kernel
theorem dX12_name_11 : decode cX12_name 11 = .ok (.aload_n 0, 1) := by decide +kernel
theorem dX12_name_12 : decode cX12_name 12 = .ok (.getfield 280, 3) := by decide +kernel
theorem dX12_name_15 : decode cX12_name 15 = .ok (.bipush 12, 2) := by decide +kernel
theorem dX12_name_17 : decode cX12_name 17 = .ok (.if_icmp .ne 6, 3) := by decide +kernel
theorem dX12_name_20 : decode cX12_name 20 = .ok (.bipush (-5), 2) := by decide +kernel
theorem dX12_name_22 : decode cX12_name 22 = .ok (.ireturn, 1) := by decide +kernel
theorem dX12_name_23 : decode cX12_name 23 = .ok (.aload_n 0, 1) := by decide +kernel
theorem dX12_name_24 : decode cX12_name 24 = .ok (.getfield 95, 3) := by decide +kernel
theorem dX12_name_27 : decode cX12_name 27 = .ok (.aload_n 0, 1) := by decide +kernel
theorem dX12_name_28 : decode cX12_name 28 = .ok (.getfield 280, 3) := by decide +kernel
theorem dX12_name_31 : decode cX12_name 31 = .ok (.iload_n 1, 1) := by decide +kernel
theorem dX12_name_32 : decode cX12_name 32 = .ok (.iastore, 1) := by decide +kernel
theorem dX12_name_33 : decode cX12_name 33 = .ok (.aload_n 0, 1) := by decide +kernel
theorem dX12_name_34 : decode cX12_name 34 = .ok (.dup, 1) := by decide +kernel
theorem dX12_name_35 : decode cX12_name 35 = .ok (.getfield 280, 3) := by decide +kernel
theorem dX12_name_38 : decode cX12_name 38 = .ok (.iconst 1, 1) := by decide +kernel
theorem dX12_name_39 : decode cX12_name 39 = .ok (.iadd, 1) := by decide +kernel
theorem dX12_name_40 : decode cX12_name 40 = .ok (.putfield 280, 3) := by decide +kernel
theorem dX12_name_43 : decode cX12_name 43 = .ok (.aload_n 0, 1) := by decide +kernel
theorem dX12_name_44 : decode cX12_name 44 = .ok (.getfield 280, 3) := by decide +kernel
theorem dX12_name_47 : decode cX12_name 47 = .ok (.ireturn, 1) := by decide +kernel
theorem dX12_hush_0 : decode cX12_hush 0 = .ok (.aload_n 0, 1) := by decide +kernel
theorem dX12_hush_1 : decode cX12_hush 1 = .ok (.getfield 280, 3) := by decide +kernel
theorem dX12_hush_4 : decode cX12_hush 4 = .ok (.istore_n 1, 1) := by decide +kernel
theorem dX12_hush_5 : decode cX12_hush 5 = .ok (.aload_n 0, 1) := by decide +kernel
theorem dX12_hush_6 : decode cX12_hush 6 = .ok (.iconst 0, 1) := by decide +kernel
theorem dX12_hush_7 : decode cX12_hush 7 = .ok (.putfield 280, 3) := by decide +kernel
theorem dX12_hush_10 : decode cX12_hush 10 = .ok (.iload_n 1, 1) := by decide +kernel
theorem dX12_hush_11 : decode cX12_hush 11 = .ok (.ireturn, 1) := by decide +kernel
theorem dX12_talk_0 : decode cX12_talk 0 = .ok (.iload_n 1, 1) := by decide +kernel
theorem dX12_talk_1 : decode cX12_talk 1 = .ok (.invokestatic 249, 3) := by decide +kernel
theorem dX12_talk_4 : decode cX12_talk 4 = .ok (.ifCond .ne 6, 3) := by decide +kernel
theorem dX12_talk_7 : decode cX12_talk 7 = .ok (.bipush (-3), 2) := by decide +kernel
theorem dX12_talk_9 : decode cX12_talk 9 = .ok (.ireturn, 1) := by decide +kernel
theorem dX12_talk_10 : decode cX12_talk 10 = .ok (.aload_n 0, 1) := by decide +kernel
theorem dX12_talk_11 : decode cX12_talk 11 = .ok (.iload_n 1, 1) := by decide +kernel
theorem dX12_talk_12 : decode cX12_talk 12 = .ok (.invokevirtual 252, 3) := by decide +kernel
theorem dX12_talk_15 : decode cX12_talk 15 = .ok (.iconst 0, 1) := by decide +kernel
theorem dX12_talk_16 : decode cX12_talk 16 = .ok (.istore_n 2, 1) := by decide +kernel
theorem dX12_talk_17 : decode cX12_talk 17 = .ok (.iconst (-1), 1) := by decide +kernel
theorem dX12_talk_18 : decode cX12_talk 18 = .ok (.istore_n 3, 1) := by decide +kernel
theorem dX12_talk_19 : decode cX12_talk 19 = .ok (.iconst (-1), 1) := by decide +kernel
theorem dX12_talk_20 : decode cX12_talk 20 = .ok (.istore 4, 2) := by decide +kernel
theorem dX12_talk_22 : decode cX12_talk 22 = .ok (.iconst 0, 1) := by decide +kernel
theorem dX12_talk_23 : decode cX12_talk 23 = .ok (.istore 5, 2) := by decide +kernel
theorem dX12_talk_25 : decode cX12_talk 25 = .ok (.iload 5, 2) := by decide +kernel
theorem dX12_talk_27 : decode cX12_talk 27 = .ok (.aload_n 0, 1) := by decide +kernel
theorem dX12_talk_28 : decode cX12_talk 28 = .ok (.getfield 280, 3) := by decide +kernel
theorem dX12_talk_31 : decode cX12_talk 31 = .ok (.if_icmp .ge 96, 3) := by decide +kernel
theorem dX12_talk_34 : decode cX12_talk 34 = .ok (.aload_n 0, 1) := by decide +kernel
theorem dX12_talk_35 : decode cX12_talk 35 = .ok (.getfield 95, 3) := by decide +kernel
theorem dX12_talk_38 : decode cX12_talk 38 = .ok (.iload 5, 2) := by decide +kernel
theorem dX12_talk_40 : decode cX12_talk 40 = .ok (.iaload, 1) := by decide +kernel
theorem dX12_talk_41 : decode cX12_talk 41 = .ok (.istore 6, 2) := by decide +kernel
theorem dX12_talk_43 : decode cX12_talk 43 = .ok (.aload_n 0, 1) := by decide +kernel
theorem dX12_talk_44 : decode cX12_talk 44 = .ok (.getfield 52, 3) := by decide +kernel
theorem dX12_talk_47 : decode cX12_talk 47 = .ok (.iconst 1, 1) := by decide +kernel
theorem dX12_talk_48 : decode cX12_talk 48 = .ok (.iload 6, 2) := by decide +kernel
theorem dX12_talk_50 : decode cX12_talk 50 = .ok (.ishl, 1) := by decide +kernel
theorem dX12_talk_51 : decode cX12_talk 51 = .ok (.iaload, 1) := by decide +kernel
theorem dX12_talk_52 : decode cX12_talk 52 = .ok (.istore 7, 2) := by decide +kernel
theorem dX12_talk_54 : decode cX12_talk 54 = .ok (.iload 6, 2) := by decide +kernel
theorem dX12_talk_56 : decode cX12_talk 56 = .ok (.iload_n 3, 1) := by decide +kernel
theorem dX12_talk_57 : decode cX12_talk 57 = .ok (.if_icmp .ne 7, 3) := by decide +kernel
theorem dX12_talk_60 : decode cX12_talk 60 = .ok (.iconst 1, 1) := by decide +kernel
theorem dX12_talk_61 : decode cX12_talk 61 = .ok (.goto 28, 3) := by decide +kernel
theorem dX12_talk_64 : decode cX12_talk 64 = .ok (.iload 6, 2) := by decide +kernel
theorem dX12_talk_66 : decode cX12_talk 66 = .ok (.iload 4, 2) := by decide +kernel
theorem dX12_talk_68 : decode cX12_talk 68 = .ok (.if_icmp .ne 19, 3) := by decide +kernel
theorem dX12_talk_71 : decode cX12_talk 71 = .ok (.iload 7, 2) := by decide +kernel
theorem dX12_talk_73 : decode cX12_talk 73 = .ok (.iconst (-1), 1) := by decide +kernel
theorem dX12_talk_74 : decode cX12_talk 74 = .ok (.if_icmp .eq 9, 3) := by decide +kernel
theorem dX12_talk_77 : decode cX12_talk 77 = .ok (.iload 7, 2) := by decide +kernel
theorem dX12_talk_79 : decode cX12_talk 79 = .ok (.iconst 2, 1) := by decide +kernel
theorem dX12_talk_80 : decode cX12_talk 80 = .ok (.if_icmp .le 7, 3) := by decide +kernel
theorem dX12_talk_83 : decode cX12_talk 83 = .ok (.iconst 2, 1) := by decide +kernel
theorem dX12_talk_84 : decode cX12_talk 84 = .ok (.goto 5, 3) := by decide +kernel
theorem dX12_talk_87 : decode cX12_talk 87 = .ok (.iload 7, 2) := by decide +kernel
theorem dX12_talk_89 : decode cX12_talk 89 = .ok (.istore 7, 2) := by decide +kernel
theorem dX12_talk_91 : decode cX12_talk 91 = .ok (.iload 7, 2) := by decide +kernel
theorem dX12_talk_93 : decode cX12_talk 93 = .ok (.iconst (-1), 1) := by decide +kernel
theorem dX12_talk_94 : decode cX12_talk 94 = .ok (.if_icmp .ne 5, 3) := by decide +kernel
theorem dX12_talk_97 : decode cX12_talk 97 = .ok (.iconst (-1), 1) := by decide +kernel
theorem dX12_talk_98 : decode cX12_talk 98 = .ok (.ireturn, 1) := by decide +kernel
theorem dX12_talk_99 : decode cX12_talk 99 = .ok (.iload_n 2, 1) := by decide +kernel
theorem dX12_talk_100 : decode cX12_talk 100 = .ok (.iload 7, 2) := by decide +kernel
theorem dX12_talk_102 : decode cX12_talk 102 = .ok (.iadd, 1) := by decide +kernel
theorem dX12_talk_103 : decode cX12_talk 103 = .ok (.istore_n 2, 1) := by decide +kernel
theorem dX12_talk_104 : decode cX12_talk 104 = .ok (.iload 6, 2) := by decide +kernel
theorem dX12_talk_106 : decode cX12_talk 106 = .ok (.iload_n 3, 1) := by decide +kernel
theorem dX12_talk_107 : decode cX12_talk 107 = .ok (.if_icmp .ne 8, 3) := by decide +kernel
theorem dX12_talk_110 : decode cX12_talk 110 = .ok (.iload 4, 2) := by decide +kernel
theorem dX12_talk_112 : decode cX12_talk 112 = .ok (.goto 4, 3) := by decide +kernel
theorem dX12_talk_115 : decode cX12_talk 115 = .ok (.iload_n 3, 1) := by decide +kernel
theorem dX12_talk_116 : decode cX12_talk 116 = .ok (.istore 4, 2) := by decide +kernel
theorem dX12_talk_118 : decode cX12_talk 118 = .ok (.iload 6, 2) := by decide +kernel
theorem dX12_talk_120 : decode cX12_talk 120 = .ok (.istore_n 3, 1) := by decide +kernel
theorem dX12_talk_121 : decode cX12_talk 121 = .ok (.iinc 5 1, 3) := by decide +kernel
theorem dX12_talk_124 : decode cX12_talk 124 = .ok (.goto (-99), 3) := by decide +kernel
theorem dX12_talk_127 : decode cX12_talk 127 = .ok (.iload_n 2, 1) := by decide +kernel
theorem dX12_talk_128 : decode cX12_talk 128 = .ok (.ireturn, 1) := by decide +kernel
theorem dX12_worthOf_0 : decode cX12_worthOf 0 = .ok (.aload_n 0, 1) := by decide +kernel
theorem dX12_worthOf_1 : decode cX12_worthOf 1 = .ok (.iload_n 1, 1) := by decide +kernel
theorem dX12_worthOf_2 : decode cX12_worthOf 2 = .ok (.invokevirtual 252, 3) := by decide +kernel
theorem dX12_worthOf_5 : decode cX12_worthOf 5 = .ok (.iconst 0, 1) := by decide +kernel
theorem dX12_worthOf_6 : decode cX12_worthOf 6 = .ok (.istore_n 2, 1) := by decide +kernel
theorem dX12_worthOf_7 : decode cX12_worthOf 7 = .ok (.iconst 0, 1) := by decide +kernel
theorem dX12_worthOf_8 : decode cX12_worthOf 8 = .ok (.istore_n 3, 1) := by decide +kernel
theorem dX12_worthOf_9 : decode cX12_worthOf 9 = .ok (.iload_n 3, 1) := by decide +kernel
theorem dX12_worthOf_10 : decode cX12_worthOf 10 = .ok (.aload_n 0, 1) := by decide +kernel
theorem dX12_worthOf_11 : decode cX12_worthOf 11 = .ok (.getfield 98, 3) := by decide +kernel
theorem dX12_worthOf_14 : decode cX12_worthOf 14 = .ok (.if_icmp .ge 37, 3) := by decide +kernel
theorem dX12_worthOf_17 : decode cX12_worthOf 17 = .ok (.iload_n 2, 1) := by decide +kernel
theorem dX12_worthOf_18 : decode cX12_worthOf 18 = .ok (.aload_n 0, 1) := by decide +kernel
theorem dX12_worthOf_19 : decode cX12_worthOf 19 = .ok (.getfield 52, 3) := by decide +kernel
theorem dX12_worthOf_22 : decode cX12_worthOf 22 = .ok (.iconst 1, 1) := by decide +kernel
theorem dX12_worthOf_23 : decode cX12_worthOf 23 = .ok (.iload_n 3, 1) := by decide +kernel
theorem dX12_worthOf_24 : decode cX12_worthOf 24 = .ok (.ishl, 1) := by decide +kernel
theorem dX12_worthOf_25 : decode cX12_worthOf 25 = .ok (.iaload, 1) := by decide +kernel
theorem dX12_worthOf_26 : decode cX12_worthOf 26 = .ok (.iconst (-1), 1) := by decide +kernel
theorem dX12_worthOf_27 : decode cX12_worthOf 27 = .ok (.if_icmp .ne 8, 3) := by decide +kernel
theorem dX12_worthOf_30 : decode cX12_worthOf 30 = .ok (.bipush 50, 2) := by decide +kernel
theorem dX12_worthOf_32 : decode cX12_worthOf 32 = .ok (.goto 11, 3) := by decide +kernel
theorem dX12_worthOf_35 : decode cX12_worthOf 35 = .ok (.aload_n 0, 1) := by decide +kernel
theorem dX12_worthOf_36 : decode cX12_worthOf 36 = .ok (.getfield 52, 3) := by decide +kernel
theorem dX12_worthOf_39 : decode cX12_worthOf 39 = .ok (.iconst 1, 1) := by decide +kernel
theorem dX12_worthOf_40 : decode cX12_worthOf 40 = .ok (.iload_n 3, 1) := by decide +kernel
theorem dX12_worthOf_41 : decode cX12_worthOf 41 = .ok (.ishl, 1) := by decide +kernel
theorem dX12_worthOf_42 : decode cX12_worthOf 42 = .ok (.iaload, 1) := by decide +kernel
theorem dX12_worthOf_43 : decode cX12_worthOf 43 = .ok (.iadd, 1) := by decide +kernel
theorem dX12_worthOf_44 : decode cX12_worthOf 44 = .ok (.istore_n 2, 1) := by decide +kernel
theorem dX12_worthOf_45 : decode cX12_worthOf 45 = .ok (.iinc 3 1, 3) := by decide +kernel
theorem dX12_worthOf_48 : decode cX12_worthOf 48 = .ok (.goto (-39), 3) := by decide +kernel
theorem dX12_worthOf_51 : decode cX12_worthOf 51 = .ok (.iload_n 2, 1) := by decide +kernel
theorem dX12_worthOf_52 : decode cX12_worthOf 52 = .ok (.ireturn, 1) := by decide +kernel
theorem dX12_worth_0 : decode cX12_worth 0 = .ok (.iload_n 1, 1) := by decide +kernel
theorem dX12_worth_1 : decode cX12_worth 1 = .ok (.invokestatic 249, 3) := by decide +kernel
theorem dX12_worth_4 : decode cX12_worth 4 = .ok (.ifCond .eq 12, 3) := by decide +kernel
theorem dX12_worth_7 : decode cX12_worth 7 = .ok (.iload_n 2, 1) := by decide +kernel
theorem dX12_worth_8 : decode cX12_worth 8 = .ok (.iconst 0, 1) := by decide +kernel
theorem dX12_worth_9 : decode cX12_worth 9 = .ok (.iconst 2, 1) := by decide +kernel
theorem dX12_worth_10 : decode cX12_worth 10 = .ok (.invokestatic 102, 3) := by decide +kernel
theorem dX12_worth_13 : decode cX12_worth 13 = .ok (.ifCond .ne 6, 3) := by decide +kernel
theorem dX12_worth_16 : decode cX12_worth 16 = .ok (.bipush (-3), 2) := by decide +kernel
theorem dX12_worth_18 : decode cX12_worth 18 = .ok (.ireturn, 1) := by decide +kernel
theorem dX12_worth_19 : decode cX12_worth 19 = .ok (.iload_n 2, 1) := by decide +kernel
theorem dX12_worth_20 : decode cX12_worth 20 = .ok (.ifCond .ne 9, 3) := by decide +kernel
theorem dX12_worth_23 : decode cX12_worth 23 = .ok (.aload_n 0, 1) := by decide +kernel
theorem dX12_worth_24 : decode cX12_worth 24 = .ok (.iload_n 1, 1) := by decide +kernel
theorem dX12_worth_25 : decode cX12_worth 25 = .ok (.invokevirtual 283, 3) := by decide +kernel
theorem dX12_worth_28 : decode cX12_worth 28 = .ok (.ireturn, 1) := by decide +kernel
theorem dX12_worth_29 : decode cX12_worth 29 = .ok (.iconst (-1), 1) := by decide +kernel
theorem dX12_worth_30 : decode cX12_worth 30 = .ok (.istore_n 3, 1) := by decide +kernel
theorem dX12_worth_31 : decode cX12_worth 31 = .ok (.iconst (-1), 1) := by decide +kernel
theorem dX12_worth_32 : decode cX12_worth 32 = .ok (.istore 4, 2) := by decide +kernel
theorem dX12_worth_34 : decode cX12_worth 34 = .ok (.iconst 0, 1) := by decide +kernel
theorem dX12_worth_35 : decode cX12_worth 35 = .ok (.istore 5, 2) := by decide +kernel
theorem dX12_worth_37 : decode cX12_worth 37 = .ok (.iload 5, 2) := by decide +kernel
theorem dX12_worth_39 : decode cX12_worth 39 = .ok (.aload_n 0, 1) := by decide +kernel
theorem dX12_worth_40 : decode cX12_worth 40 = .ok (.getfield 98, 3) := by decide +kernel
theorem dX12_worth_43 : decode cX12_worth 43 = .ok (.if_icmp .ge 120, 3) := by decide +kernel
theorem dX12_worth_46 : decode cX12_worth 46 = .ok (.iconst 0, 1) := by decide +kernel
theorem dX12_worth_47 : decode cX12_worth 47 = .ok (.istore 6, 2) := by decide +kernel
theorem dX12_worth_49 : decode cX12_worth 49 = .ok (.iload 6, 2) := by decide +kernel
theorem dX12_worth_51 : decode cX12_worth 51 = .ok (.iconst 3, 1) := by decide +kernel
theorem dX12_worth_52 : decode cX12_worth 52 = .ok (.if_icmp .ge 105, 3) := by decide +kernel
theorem dX12_worth_55 : decode cX12_worth 55 = .ok (.aload_n 0, 1) := by decide +kernel
theorem dX12_worth_56 : decode cX12_worth 56 = .ok (.getfield 19, 3) := by decide +kernel
theorem dX12_worth_59 : decode cX12_worth 59 = .ok (.iload 5, 2) := by decide +kernel
theorem dX12_worth_61 : decode cX12_worth 61 = .ok (.iaload, 1) := by decide +kernel
theorem dX12_worth_62 : decode cX12_worth 62 = .ok (.istore 7, 2) := by decide +kernel
theorem dX12_worth_64 : decode cX12_worth 64 = .ok (.iload 7, 2) := by decide +kernel
theorem dX12_worth_66 : decode cX12_worth 66 = .ok (.iload 6, 2) := by decide +kernel
theorem dX12_worth_68 : decode cX12_worth 68 = .ok (.ishr, 1) := by decide +kernel
theorem dX12_worth_69 : decode cX12_worth 69 = .ok (.iconst 1, 1) := by decide +kernel
theorem dX12_worth_70 : decode cX12_worth 70 = .ok (.iand, 1) := by decide +kernel
theorem dX12_worth_71 : decode cX12_worth 71 = .ok (.ifCond .ne 80, 3) := by decide +kernel
theorem dX12_worth_74 : decode cX12_worth 74 = .ok (.aload_n 0, 1) := by decide +kernel
theorem dX12_worth_75 : decode cX12_worth 75 = .ok (.getfield 19, 3) := by decide +kernel
theorem dX12_worth_78 : decode cX12_worth 78 = .ok (.iload 5, 2) := by decide +kernel
theorem dX12_worth_80 : decode cX12_worth 80 = .ok (.iload 7, 2) := by decide +kernel
theorem dX12_worth_82 : decode cX12_worth 82 = .ok (.iconst 1, 1) := by decide +kernel
theorem dX12_worth_83 : decode cX12_worth 83 = .ok (.iload 6, 2) := by decide +kernel
theorem dX12_worth_85 : decode cX12_worth 85 = .ok (.ishl, 1) := by decide +kernel
theorem dX12_worth_86 : decode cX12_worth 86 = .ok (.ior, 1) := by decide +kernel
theorem dX12_worth_87 : decode cX12_worth 87 = .ok (.iastore, 1) := by decide +kernel
theorem dX12_worth_88 : decode cX12_worth 88 = .ok (.aload_n 0, 1) := by decide +kernel
theorem dX12_worth_89 : decode cX12_worth 89 = .ok (.iload_n 1, 1) := by decide +kernel
theorem dX12_worth_90 : decode cX12_worth 90 = .ok (.invokevirtual 283, 3) := by decide +kernel
theorem dX12_worth_93 : decode cX12_worth 93 = .ok (.istore 8, 2) := by decide +kernel
theorem dX12_worth_95 : decode cX12_worth 95 = .ok (.aload_n 0, 1) := by decide +kernel
theorem dX12_worth_96 : decode cX12_worth 96 = .ok (.getfield 19, 3) := by decide +kernel
theorem dX12_worth_99 : decode cX12_worth 99 = .ok (.iload 5, 2) := by decide +kernel
theorem dX12_worth_101 : decode cX12_worth 101 = .ok (.iload 7, 2) := by decide +kernel
theorem dX12_worth_103 : decode cX12_worth 103 = .ok (.iastore, 1) := by decide +kernel
theorem dX12_worth_104 : decode cX12_worth 104 = .ok (.iload 4, 2) := by decide +kernel
theorem dX12_worth_106 : decode cX12_worth 106 = .ok (.iconst (-1), 1) := by decide +kernel
theorem dX12_worth_107 : decode cX12_worth 107 = .ok (.if_icmp .eq 10, 3) := by decide +kernel
theorem dX12_worth_110 : decode cX12_worth 110 = .ok (.iload 8, 2) := by decide +kernel
theorem dX12_worth_112 : decode cX12_worth 112 = .ok (.iload 4, 2) := by decide +kernel
theorem dX12_worth_114 : decode cX12_worth 114 = .ok (.if_icmp .ge 13, 3) := by decide +kernel
theorem dX12_worth_117 : decode cX12_worth 117 = .ok (.iconst 4, 1) := by decide +kernel
theorem dX12_worth_118 : decode cX12_worth 118 = .ok (.iload 5, 2) := by decide +kernel
theorem dX12_worth_120 : decode cX12_worth 120 = .ok (.imul, 1) := by decide +kernel
theorem dX12_worth_121 : decode cX12_worth 121 = .ok (.iload 6, 2) := by decide +kernel
theorem dX12_worth_123 : decode cX12_worth 123 = .ok (.iadd, 1) := by decide +kernel
theorem dX12_worth_124 : decode cX12_worth 124 = .ok (.goto 4, 3) := by decide +kernel
theorem dX12_worth_127 : decode cX12_worth 127 = .ok (.iload_n 3, 1) := by decide +kernel
theorem dX12_worth_128 : decode cX12_worth 128 = .ok (.istore_n 3, 1) := by decide +kernel
theorem dX12_worth_129 : decode cX12_worth 129 = .ok (.iload 4, 2) := by decide +kernel
theorem dX12_worth_131 : decode cX12_worth 131 = .ok (.iconst (-1), 1) := by decide +kernel
theorem dX12_worth_132 : decode cX12_worth 132 = .ok (.if_icmp .eq 10, 3) := by decide +kernel
theorem dX12_worth_135 : decode cX12_worth 135 = .ok (.iload 8, 2) := by decide +kernel
theorem dX12_worth_137 : decode cX12_worth 137 = .ok (.iload 4, 2) := by decide +kernel
theorem dX12_worth_139 : decode cX12_worth 139 = .ok (.if_icmp .ge 8, 3) := by decide +kernel
theorem dX12_worth_142 : decode cX12_worth 142 = .ok (.iload 8, 2) := by decide +kernel
theorem dX12_worth_144 : decode cX12_worth 144 = .ok (.goto 5, 3) := by decide +kernel
theorem dX12_worth_147 : decode cX12_worth 147 = .ok (.iload 4, 2) := by decide +kernel
theorem dX12_worth_149 : decode cX12_worth 149 = .ok (.istore 4, 2) := by decide +kernel
theorem dX12_worth_151 : decode cX12_worth 151 = .ok (.iinc 6 1, 3) := by decide +kernel
theorem dX12_worth_154 : decode cX12_worth 154 = .ok (.goto (-105), 3) := by decide +kernel
theorem dX12_worth_157 : decode cX12_worth 157 = .ok (.iinc 5 1, 3) := by decide +kernel
theorem dX12_worth_160 : decode cX12_worth 160 = .ok (.goto (-123), 3) := by decide +kernel
theorem dX12_worth_163 : decode cX12_worth 163 = .ok (.iload_n 2, 1) := by decide +kernel
theorem dX12_worth_164 : decode cX12_worth 164 = .ok (.iconst 1, 1) := by decide +kernel
theorem dX12_worth_165 : decode cX12_worth 165 = .ok (.if_icmp .ne 8, 3) := by decide +kernel
theorem dX12_worth_168 : decode cX12_worth 168 = .ok (.iload 4, 2) := by decide +kernel
theorem dX12_worth_170 : decode cX12_worth 170 = .ok (.goto 4, 3) := by decide +kernel
theorem dX12_worth_173 : decode cX12_worth 173 = .ok (.iload_n 3, 1) := by decide +kernel
theorem dX12_worth_174 : decode cX12_worth 174 = .ok (.ireturn, 1) := by decide +kernel
theorem dX12_count_0 : decode cX12_count 0 = .ok (.iload_n 1, 1) := by decide +kernel
theorem dX12_count_1 : decode cX12_count 1 = .ok (.tableswitch 60 0 4 #[35, 40, 45, 50, 55], 35) := by decide +kernel
theorem dX12_count_36 : decode cX12_count 36 = .ok (.aload_n 0, 1) := by decide +kernel
theorem dX12_count_37 : decode cX12_count 37 = .ok (.getfield 98, 3) := by decide +kernel
theorem dX12_count_40 : decode cX12_count 40 = .ok (.ireturn, 1) := by decide +kernel
theorem dX12_count_41 : decode cX12_count 41 = .ok (.aload_n 0, 1) := by decide +kernel
theorem dX12_count_42 : decode cX12_count 42 = .ok (.invokevirtual 114, 3) := by decide +kernel
theorem dX12_count_45 : decode cX12_count 45 = .ok (.ireturn, 1) := by decide +kernel
theorem dX12_count_46 : decode cX12_count 46 = .ok (.aload_n 0, 1) := by decide +kernel
theorem dX12_count_47 : decode cX12_count 47 = .ok (.getfield 121, 3) := by decide +kernel
theorem dX12_count_50 : decode cX12_count 50 = .ok (.ireturn, 1) := by decide +kernel
theorem dX12_count_51 : decode cX12_count 51 = .ok (.aload_n 0, 1) := by decide +kernel
theorem dX12_count_52 : decode cX12_count 52 = .ok (.getfield 228, 3) := by decide +kernel
theorem dX12_count_55 : decode cX12_count 55 = .ok (.ireturn, 1) := by decide +kernel
theorem dX12_count_56 : decode cX12_count 56 = .ok (.aload_n 0, 1) := by decide +kernel
theorem dX12_count_57 : decode cX12_count 57 = .ok (.getfield 280, 3) := by decide +kernel
theorem dX12_count_60 : decode cX12_count 60 = .ok (.ireturn, 1) := by decide +kernel
theorem dX12_count_61 : decode cX12_count 61 = .ok (.bipush (-3), 2) := by decide +kernel
theorem dX12_count_63 : decode cX12_count 63 = .ok (.ireturn, 1) := by decide +kernel
theorem dJ6_numberOfTrailingZeros_0f7a4_0 : decode cJ6_numberOfTrailingZeros_0f7a4 0 = .ok (.iload_n 0, 1) := by decide +kernel
theorem dJ6_numberOfTrailingZeros_0f7a4_1 : decode cJ6_numberOfTrailingZeros_0f7a4 1 = .ok (.iconst (-1), 1) := by decide +kernel
theorem dJ6_numberOfTrailingZeros_0f7a4_2 : decode cJ6_numberOfTrailingZeros_0f7a4 2 = .ok (.ixor, 1) := by decide +kernel
theorem dJ6_numberOfTrailingZeros_0f7a4_3 : decode cJ6_numberOfTrailingZeros_0f7a4 3 = .ok (.iload_n 0, 1) := by decide +kernel
theorem dJ6_numberOfTrailingZeros_0f7a4_4 : decode cJ6_numberOfTrailingZeros_0f7a4 4 = .ok (.iconst 1, 1) := by decide +kernel
theorem dJ6_numberOfTrailingZeros_0f7a4_5 : decode cJ6_numberOfTrailingZeros_0f7a4 5 = .ok (.isub, 1) := by decide +kernel
theorem dJ6_numberOfTrailingZeros_0f7a4_6 : decode cJ6_numberOfTrailingZeros_0f7a4 6 = .ok (.iand, 1) := by decide +kernel
theorem dJ6_numberOfTrailingZeros_0f7a4_7 : decode cJ6_numberOfTrailingZeros_0f7a4 7 = .ok (.istore_n 0, 1) := by decide +kernel
theorem dJ6_numberOfTrailingZeros_0f7a4_8 : decode cJ6_numberOfTrailingZeros_0f7a4 8 = .ok (.iload_n 0, 1) := by decide +kernel
theorem dJ6_numberOfTrailingZeros_0f7a4_9 : decode cJ6_numberOfTrailingZeros_0f7a4 9 = .ok (.ifCond .gt 8, 3) := by decide +kernel
theorem dJ6_numberOfTrailingZeros_0f7a4_12 : decode cJ6_numberOfTrailingZeros_0f7a4 12 = .ok (.iload_n 0, 1) := by decide +kernel
theorem dJ6_numberOfTrailingZeros_0f7a4_13 : decode cJ6_numberOfTrailingZeros_0f7a4 13 = .ok (.bipush 32, 2) := by decide +kernel
theorem dJ6_numberOfTrailingZeros_0f7a4_15 : decode cJ6_numberOfTrailingZeros_0f7a4 15 = .ok (.iand, 1) := by decide +kernel
theorem dJ6_numberOfTrailingZeros_0f7a4_16 : decode cJ6_numberOfTrailingZeros_0f7a4 16 = .ok (.ireturn, 1) := by decide +kernel
theorem dJ6_numberOfTrailingZeros_0f7a4_17 : decode cJ6_numberOfTrailingZeros_0f7a4 17 = .ok (.iconst 1, 1) := by decide +kernel
theorem dJ6_numberOfTrailingZeros_0f7a4_18 : decode cJ6_numberOfTrailingZeros_0f7a4 18 = .ok (.istore_n 1, 1) := by decide +kernel
theorem dJ6_numberOfTrailingZeros_0f7a4_19 : decode cJ6_numberOfTrailingZeros_0f7a4 19 = .ok (.iload_n 0, 1) := by decide +kernel
theorem dJ6_numberOfTrailingZeros_0f7a4_20 : decode cJ6_numberOfTrailingZeros_0f7a4 20 = .ok (.ldc_w 264, 3) := by decide +kernel
theorem dJ6_numberOfTrailingZeros_0f7a4_23 : decode cJ6_numberOfTrailingZeros_0f7a4 23 = .ok (.if_icmp .le 11, 3) := by decide +kernel
theorem dJ6_numberOfTrailingZeros_0f7a4_26 : decode cJ6_numberOfTrailingZeros_0f7a4 26 = .ok (.iinc 1 16, 3) := by decide +kernel
theorem dJ6_numberOfTrailingZeros_0f7a4_29 : decode cJ6_numberOfTrailingZeros_0f7a4 29 = .ok (.iload_n 0, 1) := by decide +kernel
theorem dJ6_numberOfTrailingZeros_0f7a4_30 : decode cJ6_numberOfTrailingZeros_0f7a4 30 = .ok (.bipush 16, 2) := by decide +kernel
theorem dJ6_numberOfTrailingZeros_0f7a4_32 : decode cJ6_numberOfTrailingZeros_0f7a4 32 = .ok (.iushr, 1) := by decide +kernel
theorem dJ6_numberOfTrailingZeros_0f7a4_33 : decode cJ6_numberOfTrailingZeros_0f7a4 33 = .ok (.istore_n 0, 1) := by decide +kernel
theorem dJ6_numberOfTrailingZeros_0f7a4_34 : decode cJ6_numberOfTrailingZeros_0f7a4 34 = .ok (.iload_n 0, 1) := by decide +kernel
theorem dJ6_numberOfTrailingZeros_0f7a4_35 : decode cJ6_numberOfTrailingZeros_0f7a4 35 = .ok (.sipush 256, 3) := by decide +kernel
theorem dJ6_numberOfTrailingZeros_0f7a4_38 : decode cJ6_numberOfTrailingZeros_0f7a4 38 = .ok (.if_icmp .le 11, 3) := by decide +kernel
theorem dJ6_numberOfTrailingZeros_0f7a4_41 : decode cJ6_numberOfTrailingZeros_0f7a4 41 = .ok (.iinc 1 8, 3) := by decide +kernel
theorem dJ6_numberOfTrailingZeros_0f7a4_44 : decode cJ6_numberOfTrailingZeros_0f7a4 44 = .ok (.iload_n 0, 1) := by decide +kernel
theorem dJ6_numberOfTrailingZeros_0f7a4_45 : decode cJ6_numberOfTrailingZeros_0f7a4 45 = .ok (.bipush 8, 2) := by decide +kernel
theorem dJ6_numberOfTrailingZeros_0f7a4_47 : decode cJ6_numberOfTrailingZeros_0f7a4 47 = .ok (.iushr, 1) := by decide +kernel
theorem dJ6_numberOfTrailingZeros_0f7a4_48 : decode cJ6_numberOfTrailingZeros_0f7a4 48 = .ok (.istore_n 0, 1) := by decide +kernel
theorem dJ6_numberOfTrailingZeros_0f7a4_49 : decode cJ6_numberOfTrailingZeros_0f7a4 49 = .ok (.iload_n 0, 1) := by decide +kernel
theorem dJ6_numberOfTrailingZeros_0f7a4_50 : decode cJ6_numberOfTrailingZeros_0f7a4 50 = .ok (.bipush 16, 2) := by decide +kernel
theorem dJ6_numberOfTrailingZeros_0f7a4_52 : decode cJ6_numberOfTrailingZeros_0f7a4 52 = .ok (.if_icmp .le 10, 3) := by decide +kernel
theorem dJ6_numberOfTrailingZeros_0f7a4_55 : decode cJ6_numberOfTrailingZeros_0f7a4 55 = .ok (.iinc 1 4, 3) := by decide +kernel
theorem dJ6_numberOfTrailingZeros_0f7a4_58 : decode cJ6_numberOfTrailingZeros_0f7a4 58 = .ok (.iload_n 0, 1) := by decide +kernel
theorem dJ6_numberOfTrailingZeros_0f7a4_59 : decode cJ6_numberOfTrailingZeros_0f7a4 59 = .ok (.iconst 4, 1) := by decide +kernel
theorem dJ6_numberOfTrailingZeros_0f7a4_60 : decode cJ6_numberOfTrailingZeros_0f7a4 60 = .ok (.iushr, 1) := by decide +kernel
theorem dJ6_numberOfTrailingZeros_0f7a4_61 : decode cJ6_numberOfTrailingZeros_0f7a4 61 = .ok (.istore_n 0, 1) := by decide +kernel
theorem dJ6_numberOfTrailingZeros_0f7a4_62 : decode cJ6_numberOfTrailingZeros_0f7a4 62 = .ok (.iload_n 0, 1) := by decide +kernel
theorem dJ6_numberOfTrailingZeros_0f7a4_63 : decode cJ6_numberOfTrailingZeros_0f7a4 63 = .ok (.iconst 4, 1) := by decide +kernel
theorem dJ6_numberOfTrailingZeros_0f7a4_64 : decode cJ6_numberOfTrailingZeros_0f7a4 64 = .ok (.if_icmp .le 10, 3) := by decide +kernel
theorem dJ6_numberOfTrailingZeros_0f7a4_67 : decode cJ6_numberOfTrailingZeros_0f7a4 67 = .ok (.iinc 1 2, 3) := by decide +kernel
theorem dJ6_numberOfTrailingZeros_0f7a4_70 : decode cJ6_numberOfTrailingZeros_0f7a4 70 = .ok (.iload_n 0, 1) := by decide +kernel
theorem dJ6_numberOfTrailingZeros_0f7a4_71 : decode cJ6_numberOfTrailingZeros_0f7a4 71 = .ok (.iconst 2, 1) := by decide +kernel
theorem dJ6_numberOfTrailingZeros_0f7a4_72 : decode cJ6_numberOfTrailingZeros_0f7a4 72 = .ok (.iushr, 1) := by decide +kernel
theorem dJ6_numberOfTrailingZeros_0f7a4_73 : decode cJ6_numberOfTrailingZeros_0f7a4 73 = .ok (.istore_n 0, 1) := by decide +kernel
theorem dJ6_numberOfTrailingZeros_0f7a4_74 : decode cJ6_numberOfTrailingZeros_0f7a4 74 = .ok (.iload_n 1, 1) := by decide +kernel
theorem dJ6_numberOfTrailingZeros_0f7a4_75 : decode cJ6_numberOfTrailingZeros_0f7a4 75 = .ok (.iload_n 0, 1) := by decide +kernel
theorem dJ6_numberOfTrailingZeros_0f7a4_76 : decode cJ6_numberOfTrailingZeros_0f7a4 76 = .ok (.iconst 1, 1) := by decide +kernel
theorem dJ6_numberOfTrailingZeros_0f7a4_77 : decode cJ6_numberOfTrailingZeros_0f7a4 77 = .ok (.iushr, 1) := by decide +kernel
theorem dJ6_numberOfTrailingZeros_0f7a4_78 : decode cJ6_numberOfTrailingZeros_0f7a4 78 = .ok (.iadd, 1) := by decide +kernel
theorem dJ6_numberOfTrailingZeros_0f7a4_79 : decode cJ6_numberOfTrailingZeros_0f7a4 79 = .ok (.ireturn, 1) := by decide +kernel
theorem dJ6_bitCount_0f7a4_0 : decode cJ6_bitCount_0f7a4 0 = .ok (.iload_n 0, 1) := by decide +kernel
theorem dJ6_bitCount_0f7a4_1 : decode cJ6_bitCount_0f7a4 1 = .ok (.iload_n 0, 1) := by decide +kernel
theorem dJ6_bitCount_0f7a4_2 : decode cJ6_bitCount_0f7a4 2 = .ok (.iconst 1, 1) := by decide +kernel
theorem dJ6_bitCount_0f7a4_3 : decode cJ6_bitCount_0f7a4 3 = .ok (.iushr, 1) := by decide +kernel
theorem dJ6_bitCount_0f7a4_4 : decode cJ6_bitCount_0f7a4 4 = .ok (.ldc_w 265, 3) := by decide +kernel
theorem dJ6_bitCount_0f7a4_7 : decode cJ6_bitCount_0f7a4 7 = .ok (.iand, 1) := by decide +kernel
theorem dJ6_bitCount_0f7a4_8 : decode cJ6_bitCount_0f7a4 8 = .ok (.isub, 1) := by decide +kernel
theorem dJ6_bitCount_0f7a4_9 : decode cJ6_bitCount_0f7a4 9 = .ok (.istore_n 0, 1) := by decide +kernel
theorem dJ6_bitCount_0f7a4_10 : decode cJ6_bitCount_0f7a4 10 = .ok (.iload_n 0, 1) := by decide +kernel
theorem dJ6_bitCount_0f7a4_11 : decode cJ6_bitCount_0f7a4 11 = .ok (.ldc_w 266, 3) := by decide +kernel
theorem dJ6_bitCount_0f7a4_14 : decode cJ6_bitCount_0f7a4 14 = .ok (.iand, 1) := by decide +kernel
theorem dJ6_bitCount_0f7a4_15 : decode cJ6_bitCount_0f7a4 15 = .ok (.iload_n 0, 1) := by decide +kernel
theorem dJ6_bitCount_0f7a4_16 : decode cJ6_bitCount_0f7a4 16 = .ok (.iconst 2, 1) := by decide +kernel
theorem dJ6_bitCount_0f7a4_17 : decode cJ6_bitCount_0f7a4 17 = .ok (.iushr, 1) := by decide +kernel
theorem dJ6_bitCount_0f7a4_18 : decode cJ6_bitCount_0f7a4 18 = .ok (.ldc_w 266, 3) := by decide +kernel
theorem dJ6_bitCount_0f7a4_21 : decode cJ6_bitCount_0f7a4 21 = .ok (.iand, 1) := by decide +kernel
theorem dJ6_bitCount_0f7a4_22 : decode cJ6_bitCount_0f7a4 22 = .ok (.iadd, 1) := by decide +kernel
theorem dJ6_bitCount_0f7a4_23 : decode cJ6_bitCount_0f7a4 23 = .ok (.istore_n 0, 1) := by decide +kernel
theorem dJ6_bitCount_0f7a4_24 : decode cJ6_bitCount_0f7a4 24 = .ok (.iload_n 0, 1) := by decide +kernel
theorem dJ6_bitCount_0f7a4_25 : decode cJ6_bitCount_0f7a4 25 = .ok (.iload_n 0, 1) := by decide +kernel
theorem dJ6_bitCount_0f7a4_26 : decode cJ6_bitCount_0f7a4 26 = .ok (.iconst 4, 1) := by decide +kernel
theorem dJ6_bitCount_0f7a4_27 : decode cJ6_bitCount_0f7a4 27 = .ok (.iushr, 1) := by decide +kernel
theorem dJ6_bitCount_0f7a4_28 : decode cJ6_bitCount_0f7a4 28 = .ok (.iadd, 1) := by decide +kernel
theorem dJ6_bitCount_0f7a4_29 : decode cJ6_bitCount_0f7a4 29 = .ok (.ldc_w 267, 3) := by decide +kernel
theorem dJ6_bitCount_0f7a4_32 : decode cJ6_bitCount_0f7a4 32 = .ok (.iand, 1) := by decide +kernel
theorem dJ6_bitCount_0f7a4_33 : decode cJ6_bitCount_0f7a4 33 = .ok (.istore_n 0, 1) := by decide +kernel
theorem dJ6_bitCount_0f7a4_34 : decode cJ6_bitCount_0f7a4 34 = .ok (.iload_n 0, 1) := by decide +kernel
theorem dJ6_bitCount_0f7a4_35 : decode cJ6_bitCount_0f7a4 35 = .ok (.iload_n 0, 1) := by decide +kernel
theorem dJ6_bitCount_0f7a4_36 : decode cJ6_bitCount_0f7a4 36 = .ok (.bipush 8, 2) := by decide +kernel
theorem dJ6_bitCount_0f7a4_38 : decode cJ6_bitCount_0f7a4 38 = .ok (.iushr, 1) := by decide +kernel
theorem dJ6_bitCount_0f7a4_39 : decode cJ6_bitCount_0f7a4 39 = .ok (.iadd, 1) := by decide +kernel
theorem dJ6_bitCount_0f7a4_40 : decode cJ6_bitCount_0f7a4 40 = .ok (.istore_n 0, 1) := by decide +kernel
theorem dJ6_bitCount_0f7a4_41 : decode cJ6_bitCount_0f7a4 41 = .ok (.iload_n 0, 1) := by decide +kernel
theorem dJ6_bitCount_0f7a4_42 : decode cJ6_bitCount_0f7a4 42 = .ok (.iload_n 0, 1) := by decide +kernel
theorem dJ6_bitCount_0f7a4_43 : decode cJ6_bitCount_0f7a4 43 = .ok (.bipush 16, 2) := by decide +kernel
theorem dJ6_bitCount_0f7a4_45 : decode cJ6_bitCount_0f7a4 45 = .ok (.iushr, 1) := by decide +kernel
theorem dJ6_bitCount_0f7a4_46 : decode cJ6_bitCount_0f7a4 46 = .ok (.iadd, 1) := by decide +kernel
theorem dJ6_bitCount_0f7a4_47 : decode cJ6_bitCount_0f7a4 47 = .ok (.istore_n 0, 1) := by decide +kernel
theorem dJ6_bitCount_0f7a4_48 : decode cJ6_bitCount_0f7a4 48 = .ok (.iload_n 0, 1) := by decide +kernel
theorem dJ6_bitCount_0f7a4_49 : decode cJ6_bitCount_0f7a4 49 = .ok (.bipush 63, 2) := by decide +kernel
theorem dJ6_bitCount_0f7a4_51 : decode cJ6_bitCount_0f7a4 51 = .ok (.iand, 1) := by decide +kernel
theorem dJ6_bitCount_0f7a4_52 : decode cJ6_bitCount_0f7a4 52 = .ok (.ireturn, 1) := by decide +kernel
theorem dJ9_max_7cf53_0 : decode cJ9_max_7cf53 0 = .ok (.iload_n 0, 1) := by decide +kernel
theorem dJ9_max_7cf53_1 : decode cJ9_max_7cf53 1 = .ok (.iload_n 1, 1) := by decide +kernel
theorem dJ9_max_7cf53_2 : decode cJ9_max_7cf53 2 = .ok (.if_icmp .lt 7, 3) := by decide +kernel
theorem dJ9_max_7cf53_5 : decode cJ9_max_7cf53 5 = .ok (.iload_n 0, 1) := by decide +kernel
theorem dJ9_max_7cf53_6 : decode cJ9_max_7cf53 6 = .ok (.goto 4, 3) := by decide +kernel
theorem dJ9_max_7cf53_9 : decode cJ9_max_7cf53 9 = .ok (.iload_n 1, 1) := by decide +kernel
theorem dJ9_max_7cf53_10 : decode cJ9_max_7cf53 10 = .ok (.ireturn, 1) := by decide +kernel
theorem dJ9_min_7cf53_0 : decode cJ9_min_7cf53 0 = .ok (.iload_n 0, 1) := by decide +kernel
theorem dJ9_min_7cf53_1 : decode cJ9_min_7cf53 1 = .ok (.iload_n 1, 1) := by decide +kernel
theorem dJ9_min_7cf53_2 : decode cJ9_min_7cf53 2 = .ok (.if_icmp .gt 7, 3) := by decide +kernel
theorem dJ9_min_7cf53_5 : decode cJ9_min_7cf53 5 = .ok (.iload_n 0, 1) := by decide +kernel
theorem dJ9_min_7cf53_6 : decode cJ9_min_7cf53 6 = .ok (.goto 4, 3) := by decide +kernel
theorem dJ9_min_7cf53_9 : decode cJ9_min_7cf53 9 = .ok (.iload_n 1, 1) := by decide +kernel
theorem dJ9_min_7cf53_10 : decode cJ9_min_7cf53 10 = .ok (.ireturn, 1) := by decide +kernel
theorem dJ0_charAt_5068e_0 : decode cJ0_charAt_5068e 0 = .ok (.aload_n 0, 1) := by decide +kernel
theorem dJ0_charAt_5068e_1 : decode cJ0_charAt_5068e 1 = .ok (.invokevirtual 492, 3) := by decide +kernel
theorem dJ0_charAt_5068e_4 : decode cJ0_charAt_5068e 4 = .ok (.ifCond .eq 12, 3) := by decide +kernel
theorem dJ0_charAt_5068e_7 : decode cJ0_charAt_5068e 7 = .ok (.aload_n 0, 1) := by decide +kernel
theorem dJ0_charAt_5068e_8 : decode cJ0_charAt_5068e 8 = .ok (.getfield 9, 3) := by decide +kernel
theorem dJ0_charAt_5068e_11 : decode cJ0_charAt_5068e 11 = .ok (.iload_n 1, 1) := by decide +kernel
theorem dJ0_charAt_5068e_12 : decode cJ0_charAt_5068e 12 = .ok (.invokestatic 495, 3) := by decide +kernel
theorem dJ0_charAt_5068e_15 : decode cJ0_charAt_5068e 15 = .ok (.ireturn, 1) := by decide +kernel
theorem dJ0_charAt_5068e_16 : decode cJ0_charAt_5068e 16 = .ok (.aload_n 0, 1) := by decide +kernel
theorem dJ0_charAt_5068e_17 : decode cJ0_charAt_5068e 17 = .ok (.getfield 9, 3) := by decide +kernel
theorem dJ0_charAt_5068e_20 : decode cJ0_charAt_5068e 20 = .ok (.iload_n 1, 1) := by decide +kernel
theorem dJ0_charAt_5068e_21 : decode cJ0_charAt_5068e 21 = .ok (.invokestatic 498, 3) := by decide +kernel
theorem dJ0_charAt_5068e_24 : decode cJ0_charAt_5068e 24 = .ok (.ireturn, 1) := by decide +kernel
theorem dJ0_isLatin1_aae02_0 : decode cJ0_isLatin1_aae02 0 = .ok (.getstatic 38, 3) := by decide +kernel
theorem dJ0_isLatin1_aae02_3 : decode cJ0_isLatin1_aae02 3 = .ok (.ifCond .eq 14, 3) := by decide +kernel
theorem dJ0_isLatin1_aae02_6 : decode cJ0_isLatin1_aae02 6 = .ok (.aload_n 0, 1) := by decide +kernel
theorem dJ0_isLatin1_aae02_7 : decode cJ0_isLatin1_aae02 7 = .ok (.getfield 15, 3) := by decide +kernel
theorem dJ0_isLatin1_aae02_10 : decode cJ0_isLatin1_aae02 10 = .ok (.ifCond .ne 7, 3) := by decide +kernel
theorem dJ0_isLatin1_aae02_13 : decode cJ0_isLatin1_aae02 13 = .ok (.iconst 1, 1) := by decide +kernel
theorem dJ0_isLatin1_aae02_14 : decode cJ0_isLatin1_aae02 14 = .ok (.goto 4, 3) := by decide +kernel
theorem dJ0_isLatin1_aae02_17 : decode cJ0_isLatin1_aae02 17 = .ok (.iconst 0, 1) := by decide +kernel
theorem dJ0_isLatin1_aae02_18 : decode cJ0_isLatin1_aae02 18 = .ok (.ireturn, 1) := by decide +kernel
theorem dJ0_checkIndex_df160_0 : decode cJ0_checkIndex_df160 0 = .ok (.iload_n 0, 1) := by decide +kernel
theorem dJ0_checkIndex_df160_1 : decode cJ0_checkIndex_df160 1 = .ok (.iload_n 1, 1) := by decide +kernel
theorem dJ0_checkIndex_df160_2 : decode cJ0_checkIndex_df160 2 = .ok (.getstatic 1053, 3) := by decide +kernel
theorem dJ0_checkIndex_df160_5 : decode cJ0_checkIndex_df160 5 = .ok (.invokestatic 1059, 3) := by decide +kernel
theorem dJ0_checkIndex_df160_8 : decode cJ0_checkIndex_df160 8 = .ok (.pop, 1) := by decide +kernel
theorem dJ0_checkIndex_df160_9 : decode cJ0_checkIndex_df160 9 = .ok (.return_, 1) := by decide +kernel
theorem dJ1_charAt_3b067_0 : decode cJ1_charAt_3b067 0 = .ok (.iload_n 1, 1) := by decide +kernel
theorem dJ1_charAt_3b067_1 : decode cJ1_charAt_3b067 1 = .ok (.aload_n 0, 1) := by decide +kernel
theorem dJ1_charAt_3b067_2 : decode cJ1_charAt_3b067 2 = .ok (.arraylength, 1) := by decide +kernel
theorem dJ1_charAt_3b067_3 : decode cJ1_charAt_3b067 3 = .ok (.invokestatic 9, 3) := by decide +kernel
theorem dJ1_charAt_3b067_6 : decode cJ1_charAt_3b067 6 = .ok (.aload_n 0, 1) := by decide +kernel
theorem dJ1_charAt_3b067_7 : decode cJ1_charAt_3b067 7 = .ok (.iload_n 1, 1) := by decide +kernel
theorem dJ1_charAt_3b067_8 : decode cJ1_charAt_3b067 8 = .ok (.baload, 1) := by decide +kernel
theorem dJ1_charAt_3b067_9 : decode cJ1_charAt_3b067 9 = .ok (.sipush 255, 3) := by decide +kernel
theorem dJ1_charAt_3b067_12 : decode cJ1_charAt_3b067 12 = .ok (.iand, 1) := by decide +kernel
theorem dJ1_charAt_3b067_13 : decode cJ1_charAt_3b067 13 = .ok (.i2c, 1) := by decide +kernel
theorem dJ1_charAt_3b067_14 : decode cJ1_charAt_3b067 14 = .ok (.ireturn, 1) := by decide +kernel
theorem dJ2_getChar_3b067_0 : decode cJ2_getChar_3b067 0 = .ok (.getstatic 44, 3) := by decide +kernel
theorem dJ2_getChar_3b067_3 : decode cJ2_getChar_3b067 3 = .ok (.ifCond .ne 25, 3) := by decide +kernel
theorem dJ2_getChar_3b067_6 : decode cJ2_getChar_3b067 6 = .ok (.iload_n 1, 1) := by decide +kernel
theorem dJ2_getChar_3b067_7 : decode cJ2_getChar_3b067 7 = .ok (.ifCond .lt 11, 3) := by decide +kernel
theorem dJ2_getChar_3b067_10 : decode cJ2_getChar_3b067 10 = .ok (.iload_n 1, 1) := by decide +kernel
theorem dJ2_getChar_3b067_11 : decode cJ2_getChar_3b067 11 = .ok (.aload_n 0, 1) := by decide +kernel
theorem dJ2_getChar_3b067_12 : decode cJ2_getChar_3b067 12 = .ok (.invokestatic 48, 3) := by decide +kernel
theorem dJ2_getChar_3b067_15 : decode cJ2_getChar_3b067 15 = .ok (.if_icmp .lt 13, 3) := by decide +kernel
theorem dJ2_getChar_3b067_18 : decode cJ2_getChar_3b067 18 = .ok (.new 52, 3) := by decide +kernel
theorem dJ2_getChar_3b067_21 : decode cJ2_getChar_3b067 21 = .ok (.dup, 1) := by decide +kernel
theorem dJ2_getChar_3b067_22 : decode cJ2_getChar_3b067 22 = .ok (.ldc 54, 2) := by decide +kernel
theorem dJ2_getChar_3b067_24 : decode cJ2_getChar_3b067 24 = .ok (.invokespecial 56, 3) := by decide +kernel
theorem dJ2_getChar_3b067_27 : decode cJ2_getChar_3b067 27 = .ok (.athrow, 1) := by decide +kernel
theorem dJ2_getChar_3b067_28 : decode cJ2_getChar_3b067 28 = .ok (.iload_n 1, 1) := by decide +kernel
theorem dJ2_getChar_3b067_29 : decode cJ2_getChar_3b067 29 = .ok (.iconst 1, 1) := by decide +kernel
theorem dJ2_getChar_3b067_30 : decode cJ2_getChar_3b067 30 = .ok (.ishl, 1) := by decide +kernel
theorem dJ2_getChar_3b067_31 : decode cJ2_getChar_3b067 31 = .ok (.istore_n 1, 1) := by decide +kernel
theorem dJ2_getChar_3b067_32 : decode cJ2_getChar_3b067 32 = .ok (.aload_n 0, 1) := by decide +kernel
theorem dJ2_getChar_3b067_33 : decode cJ2_getChar_3b067 33 = .ok (.iload_n 1, 1) := by decide +kernel
theorem dJ2_getChar_3b067_34 : decode cJ2_getChar_3b067 34 = .ok (.iinc 1 1, 3) := by decide +kernel
theorem dJ2_getChar_3b067_37 : decode cJ2_getChar_3b067 37 = .ok (.baload, 1) := by decide +kernel
theorem dJ2_getChar_3b067_38 : decode cJ2_getChar_3b067 38 = .ok (.sipush 255, 3) := by decide +kernel
theorem dJ2_getChar_3b067_41 : decode cJ2_getChar_3b067 41 = .ok (.iand, 1) := by decide +kernel
theorem dJ2_getChar_3b067_42 : decode cJ2_getChar_3b067 42 = .ok (.getstatic 59, 3) := by decide +kernel
theorem dJ2_getChar_3b067_45 : decode cJ2_getChar_3b067 45 = .ok (.ishl, 1) := by decide +kernel
theorem dJ2_getChar_3b067_46 : decode cJ2_getChar_3b067 46 = .ok (.aload_n 0, 1) := by decide +kernel
theorem dJ2_getChar_3b067_47 : decode cJ2_getChar_3b067 47 = .ok (.iload_n 1, 1) := by decide +kernel
theorem dJ2_getChar_3b067_48 : decode cJ2_getChar_3b067 48 = .ok (.baload, 1) := by decide +kernel
theorem dJ2_getChar_3b067_49 : decode cJ2_getChar_3b067 49 = .ok (.sipush 255, 3) := by decide +kernel
theorem dJ2_getChar_3b067_52 : decode cJ2_getChar_3b067 52 = .ok (.iand, 1) := by decide +kernel
theorem dJ2_getChar_3b067_53 : decode cJ2_getChar_3b067 53 = .ok (.getstatic 63, 3) := by decide +kernel
theorem dJ2_getChar_3b067_56 : decode cJ2_getChar_3b067 56 = .ok (.ishl, 1) := by decide +kernel
theorem dJ2_getChar_3b067_57 : decode cJ2_getChar_3b067 57 = .ok (.ior, 1) := by decide +kernel
theorem dJ2_getChar_3b067_58 : decode cJ2_getChar_3b067 58 = .ok (.i2c, 1) := by decide +kernel
theorem dJ2_getChar_3b067_59 : decode cJ2_getChar_3b067 59 = .ok (.ireturn, 1) := by decide +kernel
theorem dJ2_length_9d52b_0 : decode cJ2_length_9d52b 0 = .ok (.aload_n 0, 1) := by decide +kernel
theorem dJ2_length_9d52b_1 : decode cJ2_length_9d52b 1 = .ok (.arraylength, 1) := by decide +kernel
theorem dJ2_length_9d52b_2 : decode cJ2_length_9d52b 2 = .ok (.iconst 1, 1) := by decide +kernel
theorem dJ2_length_9d52b_3 : decode cJ2_length_9d52b 3 = .ok (.ishr, 1) := by decide +kernel
theorem dJ2_length_9d52b_4 : decode cJ2_length_9d52b 4 = .ok (.ireturn, 1) := by decide +kernel
theorem dJ2_charAt_3b067_0 : decode cJ2_charAt_3b067 0 = .ok (.iload_n 1, 1) := by decide +kernel
theorem dJ2_charAt_3b067_1 : decode cJ2_charAt_3b067 1 = .ok (.aload_n 0, 1) := by decide +kernel
theorem dJ2_charAt_3b067_2 : decode cJ2_charAt_3b067 2 = .ok (.invokestatic 67, 3) := by decide +kernel
theorem dJ2_charAt_3b067_5 : decode cJ2_charAt_3b067 5 = .ok (.aload_n 0, 1) := by decide +kernel
theorem dJ2_charAt_3b067_6 : decode cJ2_charAt_3b067 6 = .ok (.iload_n 1, 1) := by decide +kernel
theorem dJ2_charAt_3b067_7 : decode cJ2_charAt_3b067 7 = .ok (.invokestatic 71, 3) := by decide +kernel
theorem dJ2_charAt_3b067_10 : decode cJ2_charAt_3b067 10 = .ok (.ireturn, 1) := by decide +kernel
theorem dJ2_checkIndex_2214a_0 : decode cJ2_checkIndex_2214a 0 = .ok (.iload_n 0, 1) := by decide +kernel
theorem dJ2_checkIndex_2214a_1 : decode cJ2_checkIndex_2214a 1 = .ok (.aload_n 1, 1) := by decide +kernel
theorem dJ2_checkIndex_2214a_2 : decode cJ2_checkIndex_2214a 2 = .ok (.invokestatic 48, 3) := by decide +kernel
theorem dJ2_checkIndex_2214a_5 : decode cJ2_checkIndex_2214a 5 = .ok (.invokestatic 414, 3) := by decide +kernel
theorem dJ2_checkIndex_2214a_8 : decode cJ2_checkIndex_2214a 8 = .ok (.return_, 1) := by decide +kernel
theorem dJ7_fill_53178_0 : decode cJ7_fill_53178 0 = .ok (.iconst 0, 1) := by decide +kernel
theorem dJ7_fill_53178_1 : decode cJ7_fill_53178 1 = .ok (.istore_n 2, 1) := by decide +kernel
theorem dJ7_fill_53178_2 : decode cJ7_fill_53178 2 = .ok (.aload_n 0, 1) := by decide +kernel
theorem dJ7_fill_53178_3 : decode cJ7_fill_53178 3 = .ok (.arraylength, 1) := by decide +kernel
theorem dJ7_fill_53178_4 : decode cJ7_fill_53178 4 = .ok (.istore_n 3, 1) := by decide +kernel
theorem dJ7_fill_53178_5 : decode cJ7_fill_53178 5 = .ok (.iload_n 2, 1) := by decide +kernel
theorem dJ7_fill_53178_6 : decode cJ7_fill_53178 6 = .ok (.iload_n 3, 1) := by decide +kernel
theorem dJ7_fill_53178_7 : decode cJ7_fill_53178 7 = .ok (.if_icmp .ge 13, 3) := by decide +kernel
theorem dJ7_fill_53178_10 : decode cJ7_fill_53178 10 = .ok (.aload_n 0, 1) := by decide +kernel
theorem dJ7_fill_53178_11 : decode cJ7_fill_53178 11 = .ok (.iload_n 2, 1) := by decide +kernel
theorem dJ7_fill_53178_12 : decode cJ7_fill_53178 12 = .ok (.iload_n 1, 1) := by decide +kernel
theorem dJ7_fill_53178_13 : decode cJ7_fill_53178 13 = .ok (.iastore, 1) := by decide +kernel
theorem dJ7_fill_53178_14 : decode cJ7_fill_53178 14 = .ok (.iinc 2 1, 3) := by decide +kernel
theorem dJ7_fill_53178_17 : decode cJ7_fill_53178 17 = .ok (.goto (-12), 3) := by decide +kernel
theorem dJ7_fill_53178_20 : decode cJ7_fill_53178 20 = .ok (.return_, 1) := by decide +kernel
theorem dJ3_checkIndex_8e157_0 : decode cJ3_checkIndex_8e157 0 = .ok (.iload_n 0, 1) := by decide +kernel
theorem dJ3_checkIndex_8e157_1 : decode cJ3_checkIndex_8e157 1 = .ok (.ifCond .lt 8, 3) := by decide +kernel
theorem dJ3_checkIndex_8e157_4 : decode cJ3_checkIndex_8e157 4 = .ok (.iload_n 0, 1) := by decide +kernel
theorem dJ3_checkIndex_8e157_5 : decode cJ3_checkIndex_8e157 5 = .ok (.iload_n 1, 1) := by decide +kernel
theorem dJ3_checkIndex_8e157_6 : decode cJ3_checkIndex_8e157 6 = .ok (.if_icmp .lt 10, 3) := by decide +kernel
theorem dJ3_checkIndex_8e157_9 : decode cJ3_checkIndex_8e157 9 = .ok (.aload_n 2, 1) := by decide +kernel
theorem dJ3_checkIndex_8e157_10 : decode cJ3_checkIndex_8e157 10 = .ok (.iload_n 0, 1) := by decide +kernel
theorem dJ3_checkIndex_8e157_11 : decode cJ3_checkIndex_8e157 11 = .ok (.iload_n 1, 1) := by decide +kernel
theorem dJ3_checkIndex_8e157_12 : decode cJ3_checkIndex_8e157 12 = .ok (.invokestatic 95, 3) := by decide +kernel
theorem dJ3_checkIndex_8e157_15 : decode cJ3_checkIndex_8e157 15 = .ok (.athrow, 1) := by decide +kernel
theorem dJ3_checkIndex_8e157_16 : decode cJ3_checkIndex_8e157 16 = .ok (.iload_n 0, 1) := by decide +kernel
theorem dJ3_checkIndex_8e157_17 : decode cJ3_checkIndex_8e157 17 = .ok (.ireturn, 1) := by decide +kernel
theorem dL_law_0 : decode cL_law 0 = .ok (.new 7, 3) := by decide +kernel
theorem dL_law_3 : decode cL_law 3 = .ok (.dup, 1) := by decide +kernel
theorem dL_law_4 : decode cL_law 4 = .ok (.invokespecial 9, 3) := by decide +kernel
theorem dL_law_7 : decode cL_law 7 = .ok (.astore_n 1, 1) := by decide +kernel
theorem dL_law_8 : decode cL_law 8 = .ok (.new 10, 3) := by decide +kernel
theorem dL_law_11 : decode cL_law 11 = .ok (.dup, 1) := by decide +kernel
theorem dL_law_12 : decode cL_law 12 = .ok (.invokespecial 12, 3) := by decide +kernel
theorem dL_law_15 : decode cL_law 15 = .ok (.astore_n 2, 1) := by decide +kernel
theorem dL_law_16 : decode cL_law 16 = .ok (.iconst 0, 1) := by decide +kernel
theorem dL_law_17 : decode cL_law 17 = .ok (.istore_n 3, 1) := by decide +kernel
theorem dL_law_18 : decode cL_law 18 = .ok (.iload_n 3, 1) := by decide +kernel
theorem dL_law_19 : decode cL_law 19 = .ok (.aload_n 0, 1) := by decide +kernel
theorem dL_law_20 : decode cL_law 20 = .ok (.arraylength, 1) := by decide +kernel
theorem dL_law_21 : decode cL_law 21 = .ok (.iconst 5, 1) := by decide +kernel
theorem dL_law_22 : decode cL_law 22 = .ok (.isub, 1) := by decide +kernel
theorem dL_law_23 : decode cL_law 23 = .ok (.if_icmp .gt 836, 3) := by decide +kernel
theorem dL_law_26 : decode cL_law 26 = .ok (.aload_n 0, 1) := by decide +kernel
theorem dL_law_27 : decode cL_law 27 = .ok (.iload_n 3, 1) := by decide +kernel
theorem dL_law_28 : decode cL_law 28 = .ok (.iaload, 1) := by decide +kernel
theorem dL_law_29 : decode cL_law 29 = .ok (.bipush 31, 2) := by decide +kernel
theorem dL_law_31 : decode cL_law 31 = .ok (.iand, 1) := by decide +kernel
theorem dL_law_32 : decode cL_law 32 = .ok (.tableswitch 821 0 24 #[116, 169, 212, 245, 278, 311, 374, 387, 400, 423, 436, 469, 512, 535, 558, 591, 604, 637, 670, 683, 706, 729, 742, 765, 798], 116) := by decide +kernel
theorem dL_law_148 : decode cL_law 148 = .ok (.aload_n 1, 1) := by decide +kernel
theorem dL_law_149 : decode cL_law 149 = .ok (.aload_n 0, 1) := by decide +kernel
theorem dL_law_150 : decode cL_law 150 = .ok (.iload_n 3, 1) := by decide +kernel
theorem dL_law_151 : decode cL_law 151 = .ok (.iconst 1, 1) := by decide +kernel
theorem dL_law_152 : decode cL_law 152 = .ok (.iadd, 1) := by decide +kernel
theorem dL_law_153 : decode cL_law 153 = .ok (.iaload, 1) := by decide +kernel
theorem dL_law_154 : decode cL_law 154 = .ok (.aload_n 0, 1) := by decide +kernel
theorem dL_law_155 : decode cL_law 155 = .ok (.iload_n 3, 1) := by decide +kernel
theorem dL_law_156 : decode cL_law 156 = .ok (.iconst 2, 1) := by decide +kernel
theorem dL_law_157 : decode cL_law 157 = .ok (.iadd, 1) := by decide +kernel
theorem dL_law_158 : decode cL_law 158 = .ok (.iaload, 1) := by decide +kernel
theorem dL_law_159 : decode cL_law 159 = .ok (.aload_n 0, 1) := by decide +kernel
theorem dL_law_160 : decode cL_law 160 = .ok (.iload_n 3, 1) := by decide +kernel
theorem dL_law_161 : decode cL_law 161 = .ok (.iconst 3, 1) := by decide +kernel
theorem dL_law_162 : decode cL_law 162 = .ok (.iadd, 1) := by decide +kernel
theorem dL_law_163 : decode cL_law 163 = .ok (.iaload, 1) := by decide +kernel
theorem dL_law_164 : decode cL_law 164 = .ok (.aload_n 0, 1) := by decide +kernel
theorem dL_law_165 : decode cL_law 165 = .ok (.iload_n 3, 1) := by decide +kernel
theorem dL_law_166 : decode cL_law 166 = .ok (.iconst 4, 1) := by decide +kernel
theorem dL_law_167 : decode cL_law 167 = .ok (.iadd, 1) := by decide +kernel
theorem dL_law_168 : decode cL_law 168 = .ok (.iaload, 1) := by decide +kernel
theorem dL_law_169 : decode cL_law 169 = .ok (.invokevirtual 13, 3) := by decide +kernel
theorem dL_law_172 : decode cL_law 172 = .ok (.aload_n 2, 1) := by decide +kernel
theorem dL_law_173 : decode cL_law 173 = .ok (.aload_n 0, 1) := by decide +kernel
theorem dL_law_174 : decode cL_law 174 = .ok (.iload_n 3, 1) := by decide +kernel
theorem dL_law_175 : decode cL_law 175 = .ok (.iconst 1, 1) := by decide +kernel
theorem dL_law_176 : decode cL_law 176 = .ok (.iadd, 1) := by decide +kernel
theorem dL_law_177 : decode cL_law 177 = .ok (.iaload, 1) := by decide +kernel
theorem dL_law_178 : decode cL_law 178 = .ok (.aload_n 0, 1) := by decide +kernel
theorem dL_law_179 : decode cL_law 179 = .ok (.iload_n 3, 1) := by decide +kernel
theorem dL_law_180 : decode cL_law 180 = .ok (.iconst 2, 1) := by decide +kernel
theorem dL_law_181 : decode cL_law 181 = .ok (.iadd, 1) := by decide +kernel
theorem dL_law_182 : decode cL_law 182 = .ok (.iaload, 1) := by decide +kernel
theorem dL_law_183 : decode cL_law 183 = .ok (.aload_n 0, 1) := by decide +kernel
theorem dL_law_184 : decode cL_law 184 = .ok (.iload_n 3, 1) := by decide +kernel
theorem dL_law_185 : decode cL_law 185 = .ok (.iconst 3, 1) := by decide +kernel
theorem dL_law_186 : decode cL_law 186 = .ok (.iadd, 1) := by decide +kernel
theorem dL_law_187 : decode cL_law 187 = .ok (.iaload, 1) := by decide +kernel
theorem dL_law_188 : decode cL_law 188 = .ok (.aload_n 0, 1) := by decide +kernel
theorem dL_law_189 : decode cL_law 189 = .ok (.iload_n 3, 1) := by decide +kernel
theorem dL_law_190 : decode cL_law 190 = .ok (.iconst 4, 1) := by decide +kernel
theorem dL_law_191 : decode cL_law 191 = .ok (.iadd, 1) := by decide +kernel
theorem dL_law_192 : decode cL_law 192 = .ok (.iaload, 1) := by decide +kernel
theorem dL_law_193 : decode cL_law 193 = .ok (.invokevirtual 17, 3) := by decide +kernel
theorem dL_law_196 : decode cL_law 196 = .ok (.if_icmp .eq 657, 3) := by decide +kernel
theorem dL_law_199 : decode cL_law 199 = .ok (.iconst 0, 1) := by decide +kernel
theorem dL_law_200 : decode cL_law 200 = .ok (.ireturn, 1) := by decide +kernel
theorem dL_law_201 : decode cL_law 201 = .ok (.aload_n 1, 1) := by decide +kernel
theorem dL_law_202 : decode cL_law 202 = .ok (.aload_n 0, 1) := by decide +kernel
theorem dL_law_203 : decode cL_law 203 = .ok (.iload_n 3, 1) := by decide +kernel
theorem dL_law_204 : decode cL_law 204 = .ok (.iconst 1, 1) := by decide +kernel
theorem dL_law_205 : decode cL_law 205 = .ok (.iadd, 1) := by decide +kernel
theorem dL_law_206 : decode cL_law 206 = .ok (.iaload, 1) := by decide +kernel
theorem dL_law_207 : decode cL_law 207 = .ok (.aload_n 0, 1) := by decide +kernel
theorem dL_law_208 : decode cL_law 208 = .ok (.iload_n 3, 1) := by decide +kernel
theorem dL_law_209 : decode cL_law 209 = .ok (.iconst 2, 1) := by decide +kernel
theorem dL_law_210 : decode cL_law 210 = .ok (.iadd, 1) := by decide +kernel
theorem dL_law_211 : decode cL_law 211 = .ok (.iaload, 1) := by decide +kernel
theorem dL_law_212 : decode cL_law 212 = .ok (.aload_n 0, 1) := by decide +kernel
theorem dL_law_213 : decode cL_law 213 = .ok (.iload_n 3, 1) := by decide +kernel
theorem dL_law_214 : decode cL_law 214 = .ok (.iconst 3, 1) := by decide +kernel
theorem dL_law_215 : decode cL_law 215 = .ok (.iadd, 1) := by decide +kernel
theorem dL_law_216 : decode cL_law 216 = .ok (.iaload, 1) := by decide +kernel
theorem dL_law_217 : decode cL_law 217 = .ok (.invokevirtual 18, 3) := by decide +kernel
theorem dL_law_220 : decode cL_law 220 = .ok (.aload_n 2, 1) := by decide +kernel
theorem dL_law_221 : decode cL_law 221 = .ok (.aload_n 0, 1) := by decide +kernel
theorem dL_law_222 : decode cL_law 222 = .ok (.iload_n 3, 1) := by decide +kernel
theorem dL_law_223 : decode cL_law 223 = .ok (.iconst 1, 1) := by decide +kernel
theorem dL_law_224 : decode cL_law 224 = .ok (.iadd, 1) := by decide +kernel
theorem dL_law_225 : decode cL_law 225 = .ok (.iaload, 1) := by decide +kernel
theorem dL_law_226 : decode cL_law 226 = .ok (.aload_n 0, 1) := by decide +kernel
theorem dL_law_227 : decode cL_law 227 = .ok (.iload_n 3, 1) := by decide +kernel
theorem dL_law_228 : decode cL_law 228 = .ok (.iconst 2, 1) := by decide +kernel
theorem dL_law_229 : decode cL_law 229 = .ok (.iadd, 1) := by decide +kernel
theorem dL_law_230 : decode cL_law 230 = .ok (.iaload, 1) := by decide +kernel
theorem dL_law_231 : decode cL_law 231 = .ok (.aload_n 0, 1) := by decide +kernel
theorem dL_law_232 : decode cL_law 232 = .ok (.iload_n 3, 1) := by decide +kernel
theorem dL_law_233 : decode cL_law 233 = .ok (.iconst 3, 1) := by decide +kernel
theorem dL_law_234 : decode cL_law 234 = .ok (.iadd, 1) := by decide +kernel
theorem dL_law_235 : decode cL_law 235 = .ok (.iaload, 1) := by decide +kernel
theorem dL_law_236 : decode cL_law 236 = .ok (.invokevirtual 22, 3) := by decide +kernel
theorem dL_law_239 : decode cL_law 239 = .ok (.if_icmp .eq 614, 3) := by decide +kernel
theorem dL_law_242 : decode cL_law 242 = .ok (.iconst 0, 1) := by decide +kernel
theorem dL_law_243 : decode cL_law 243 = .ok (.ireturn, 1) := by decide +kernel
theorem dL_law_244 : decode cL_law 244 = .ok (.aload_n 1, 1) := by decide +kernel
theorem dL_law_245 : decode cL_law 245 = .ok (.aload_n 0, 1) := by decide +kernel
theorem dL_law_246 : decode cL_law 246 = .ok (.iload_n 3, 1) := by decide +kernel
theorem dL_law_247 : decode cL_law 247 = .ok (.iconst 1, 1) := by decide +kernel
theorem dL_law_248 : decode cL_law 248 = .ok (.iadd, 1) := by decide +kernel
theorem dL_law_249 : decode cL_law 249 = .ok (.iaload, 1) := by decide +kernel
theorem dL_law_250 : decode cL_law 250 = .ok (.aload_n 0, 1) := by decide +kernel
theorem dL_law_251 : decode cL_law 251 = .ok (.iload_n 3, 1) := by decide +kernel
theorem dL_law_252 : decode cL_law 252 = .ok (.iconst 2, 1) := by decide +kernel
theorem dL_law_253 : decode cL_law 253 = .ok (.iadd, 1) := by decide +kernel
theorem dL_law_254 : decode cL_law 254 = .ok (.iaload, 1) := by decide +kernel
theorem dL_law_255 : decode cL_law 255 = .ok (.invokevirtual 23, 3) := by decide +kernel
theorem dL_law_258 : decode cL_law 258 = .ok (.aload_n 2, 1) := by decide +kernel
theorem dL_law_259 : decode cL_law 259 = .ok (.aload_n 0, 1) := by decide +kernel
theorem dL_law_260 : decode cL_law 260 = .ok (.iload_n 3, 1) := by decide +kernel
theorem dL_law_261 : decode cL_law 261 = .ok (.iconst 1, 1) := by decide +kernel
theorem dL_law_262 : decode cL_law 262 = .ok (.iadd, 1) := by decide +kernel
theorem dL_law_263 : decode cL_law 263 = .ok (.iaload, 1) := by decide +kernel
theorem dL_law_264 : decode cL_law 264 = .ok (.aload_n 0, 1) := by decide +kernel
theorem dL_law_265 : decode cL_law 265 = .ok (.iload_n 3, 1) := by decide +kernel
theorem dL_law_266 : decode cL_law 266 = .ok (.iconst 2, 1) := by decide +kernel
theorem dL_law_267 : decode cL_law 267 = .ok (.iadd, 1) := by decide +kernel
theorem dL_law_268 : decode cL_law 268 = .ok (.iaload, 1) := by decide +kernel
theorem dL_law_269 : decode cL_law 269 = .ok (.invokevirtual 27, 3) := by decide +kernel
theorem dL_law_272 : decode cL_law 272 = .ok (.if_icmp .eq 581, 3) := by decide +kernel
theorem dL_law_275 : decode cL_law 275 = .ok (.iconst 0, 1) := by decide +kernel
theorem dL_law_276 : decode cL_law 276 = .ok (.ireturn, 1) := by decide +kernel
theorem dL_law_277 : decode cL_law 277 = .ok (.aload_n 1, 1) := by decide +kernel
theorem dL_law_278 : decode cL_law 278 = .ok (.aload_n 0, 1) := by decide +kernel
theorem dL_law_279 : decode cL_law 279 = .ok (.iload_n 3, 1) := by decide +kernel
theorem dL_law_280 : decode cL_law 280 = .ok (.iconst 1, 1) := by decide +kernel
theorem dL_law_281 : decode cL_law 281 = .ok (.iadd, 1) := by decide +kernel
theorem dL_law_282 : decode cL_law 282 = .ok (.iaload, 1) := by decide +kernel
theorem dL_law_283 : decode cL_law 283 = .ok (.aload_n 0, 1) := by decide +kernel
theorem dL_law_284 : decode cL_law 284 = .ok (.iload_n 3, 1) := by decide +kernel
theorem dL_law_285 : decode cL_law 285 = .ok (.iconst 2, 1) := by decide +kernel
theorem dL_law_286 : decode cL_law 286 = .ok (.iadd, 1) := by decide +kernel
theorem dL_law_287 : decode cL_law 287 = .ok (.iaload, 1) := by decide +kernel
theorem dL_law_288 : decode cL_law 288 = .ok (.invokevirtual 28, 3) := by decide +kernel
theorem dL_law_291 : decode cL_law 291 = .ok (.aload_n 2, 1) := by decide +kernel
theorem dL_law_292 : decode cL_law 292 = .ok (.aload_n 0, 1) := by decide +kernel
theorem dL_law_293 : decode cL_law 293 = .ok (.iload_n 3, 1) := by decide +kernel
theorem dL_law_294 : decode cL_law 294 = .ok (.iconst 1, 1) := by decide +kernel
theorem dL_law_295 : decode cL_law 295 = .ok (.iadd, 1) := by decide +kernel
theorem dL_law_296 : decode cL_law 296 = .ok (.iaload, 1) := by decide +kernel
theorem dL_law_297 : decode cL_law 297 = .ok (.aload_n 0, 1) := by decide +kernel
theorem dL_law_298 : decode cL_law 298 = .ok (.iload_n 3, 1) := by decide +kernel
theorem dL_law_299 : decode cL_law 299 = .ok (.iconst 2, 1) := by decide +kernel
theorem dL_law_300 : decode cL_law 300 = .ok (.iadd, 1) := by decide +kernel
theorem dL_law_301 : decode cL_law 301 = .ok (.iaload, 1) := by decide +kernel
theorem dL_law_302 : decode cL_law 302 = .ok (.invokevirtual 31, 3) := by decide +kernel
theorem dL_law_305 : decode cL_law 305 = .ok (.if_icmp .eq 548, 3) := by decide +kernel
theorem dL_law_308 : decode cL_law 308 = .ok (.iconst 0, 1) := by decide +kernel
theorem dL_law_309 : decode cL_law 309 = .ok (.ireturn, 1) := by decide +kernel
theorem dL_law_310 : decode cL_law 310 = .ok (.aload_n 1, 1) := by decide +kernel
theorem dL_law_311 : decode cL_law 311 = .ok (.aload_n 0, 1) := by decide +kernel
theorem dL_law_312 : decode cL_law 312 = .ok (.iload_n 3, 1) := by decide +kernel
theorem dL_law_313 : decode cL_law 313 = .ok (.iconst 1, 1) := by decide +kernel
theorem dL_law_314 : decode cL_law 314 = .ok (.iadd, 1) := by decide +kernel
theorem dL_law_315 : decode cL_law 315 = .ok (.iaload, 1) := by decide +kernel
theorem dL_law_316 : decode cL_law 316 = .ok (.aload_n 0, 1) := by decide +kernel
theorem dL_law_317 : decode cL_law 317 = .ok (.iload_n 3, 1) := by decide +kernel
theorem dL_law_318 : decode cL_law 318 = .ok (.iconst 2, 1) := by decide +kernel
theorem dL_law_319 : decode cL_law 319 = .ok (.iadd, 1) := by decide +kernel
theorem dL_law_320 : decode cL_law 320 = .ok (.iaload, 1) := by decide +kernel
theorem dL_law_321 : decode cL_law 321 = .ok (.invokevirtual 32, 3) := by decide +kernel
theorem dL_law_324 : decode cL_law 324 = .ok (.aload_n 2, 1) := by decide +kernel
theorem dL_law_325 : decode cL_law 325 = .ok (.aload_n 0, 1) := by decide +kernel
theorem dL_law_326 : decode cL_law 326 = .ok (.iload_n 3, 1) := by decide +kernel
theorem dL_law_327 : decode cL_law 327 = .ok (.iconst 1, 1) := by decide +kernel
theorem dL_law_328 : decode cL_law 328 = .ok (.iadd, 1) := by decide +kernel
theorem dL_law_329 : decode cL_law 329 = .ok (.iaload, 1) := by decide +kernel
theorem dL_law_330 : decode cL_law 330 = .ok (.aload_n 0, 1) := by decide +kernel
theorem dL_law_331 : decode cL_law 331 = .ok (.iload_n 3, 1) := by decide +kernel
theorem dL_law_332 : decode cL_law 332 = .ok (.iconst 2, 1) := by decide +kernel
theorem dL_law_333 : decode cL_law 333 = .ok (.iadd, 1) := by decide +kernel
theorem dL_law_334 : decode cL_law 334 = .ok (.iaload, 1) := by decide +kernel
theorem dL_law_335 : decode cL_law 335 = .ok (.invokevirtual 35, 3) := by decide +kernel
theorem dL_law_338 : decode cL_law 338 = .ok (.if_icmp .eq 515, 3) := by decide +kernel
theorem dL_law_341 : decode cL_law 341 = .ok (.iconst 0, 1) := by decide +kernel
theorem dL_law_342 : decode cL_law 342 = .ok (.ireturn, 1) := by decide +kernel
theorem dL_law_343 : decode cL_law 343 = .ok (.aload_n 1, 1) := by decide +kernel
theorem dL_law_344 : decode cL_law 344 = .ok (.aload_n 0, 1) := by decide +kernel
theorem dL_law_345 : decode cL_law 345 = .ok (.iload_n 3, 1) := by decide +kernel
theorem dL_law_346 : decode cL_law 346 = .ok (.iconst 1, 1) := by decide +kernel
theorem dL_law_347 : decode cL_law 347 = .ok (.iadd, 1) := by decide +kernel
theorem dL_law_348 : decode cL_law 348 = .ok (.iaload, 1) := by decide +kernel
theorem dL_law_349 : decode cL_law 349 = .ok (.i2l, 1) := by decide +kernel
theorem dL_law_350 : decode cL_law 350 = .ok (.bipush 32, 2) := by decide +kernel
theorem dL_law_352 : decode cL_law 352 = .ok (.lshl, 1) := by decide +kernel
theorem dL_law_353 : decode cL_law 353 = .ok (.aload_n 0, 1) := by decide +kernel
theorem dL_law_354 : decode cL_law 354 = .ok (.iload_n 3, 1) := by decide +kernel
theorem dL_law_355 : decode cL_law 355 = .ok (.iconst 2, 1) := by decide +kernel
theorem dL_law_356 : decode cL_law 356 = .ok (.iadd, 1) := by decide +kernel
theorem dL_law_357 : decode cL_law 357 = .ok (.iaload, 1) := by decide +kernel
theorem dL_law_358 : decode cL_law 358 = .ok (.i2l, 1) := by decide +kernel
theorem dL_law_359 : decode cL_law 359 = .ok (.ldc2_w 36, 3) := by decide +kernel
theorem dL_law_362 : decode cL_law 362 = .ok (.land, 1) := by decide +kernel
theorem dL_law_363 : decode cL_law 363 = .ok (.lor, 1) := by decide +kernel
theorem dL_law_364 : decode cL_law 364 = .ok (.aload_n 0, 1) := by decide +kernel
theorem dL_law_365 : decode cL_law 365 = .ok (.iload_n 3, 1) := by decide +kernel
theorem dL_law_366 : decode cL_law 366 = .ok (.iconst 3, 1) := by decide +kernel
theorem dL_law_367 : decode cL_law 367 = .ok (.iadd, 1) := by decide +kernel
theorem dL_law_368 : decode cL_law 368 = .ok (.iaload, 1) := by decide +kernel
theorem dL_law_369 : decode cL_law 369 = .ok (.invokevirtual 38, 3) := by decide +kernel
theorem dL_law_372 : decode cL_law 372 = .ok (.aload_n 2, 1) := by decide +kernel
theorem dL_law_373 : decode cL_law 373 = .ok (.aload_n 0, 1) := by decide +kernel
theorem dL_law_374 : decode cL_law 374 = .ok (.iload_n 3, 1) := by decide +kernel
theorem dL_law_375 : decode cL_law 375 = .ok (.iconst 1, 1) := by decide +kernel
theorem dL_law_376 : decode cL_law 376 = .ok (.iadd, 1) := by decide +kernel
theorem dL_law_377 : decode cL_law 377 = .ok (.iaload, 1) := by decide +kernel
theorem dL_law_378 : decode cL_law 378 = .ok (.i2l, 1) := by decide +kernel
theorem dL_law_379 : decode cL_law 379 = .ok (.bipush 32, 2) := by decide +kernel
theorem dL_law_381 : decode cL_law 381 = .ok (.lshl, 1) := by decide +kernel
theorem dL_law_382 : decode cL_law 382 = .ok (.aload_n 0, 1) := by decide +kernel
theorem dL_law_383 : decode cL_law 383 = .ok (.iload_n 3, 1) := by decide +kernel
theorem dL_law_384 : decode cL_law 384 = .ok (.iconst 2, 1) := by decide +kernel
theorem dL_law_385 : decode cL_law 385 = .ok (.iadd, 1) := by decide +kernel
theorem dL_law_386 : decode cL_law 386 = .ok (.iaload, 1) := by decide +kernel
theorem dL_law_387 : decode cL_law 387 = .ok (.i2l, 1) := by decide +kernel
theorem dL_law_388 : decode cL_law 388 = .ok (.ldc2_w 36, 3) := by decide +kernel
theorem dL_law_391 : decode cL_law 391 = .ok (.land, 1) := by decide +kernel
theorem dL_law_392 : decode cL_law 392 = .ok (.lor, 1) := by decide +kernel
theorem dL_law_393 : decode cL_law 393 = .ok (.aload_n 0, 1) := by decide +kernel
theorem dL_law_394 : decode cL_law 394 = .ok (.iload_n 3, 1) := by decide +kernel
theorem dL_law_395 : decode cL_law 395 = .ok (.iconst 3, 1) := by decide +kernel
theorem dL_law_396 : decode cL_law 396 = .ok (.iadd, 1) := by decide +kernel
theorem dL_law_397 : decode cL_law 397 = .ok (.iaload, 1) := by decide +kernel
theorem dL_law_398 : decode cL_law 398 = .ok (.invokevirtual 42, 3) := by decide +kernel
theorem dL_law_401 : decode cL_law 401 = .ok (.if_icmp .eq 452, 3) := by decide +kernel
theorem dL_law_404 : decode cL_law 404 = .ok (.iconst 0, 1) := by decide +kernel
theorem dL_law_405 : decode cL_law 405 = .ok (.ireturn, 1) := by decide +kernel
theorem dL_law_406 : decode cL_law 406 = .ok (.aload_n 1, 1) := by decide +kernel
theorem dL_law_407 : decode cL_law 407 = .ok (.invokevirtual 43, 3) := by decide +kernel
theorem dL_law_410 : decode cL_law 410 = .ok (.aload_n 2, 1) := by decide +kernel
theorem dL_law_411 : decode cL_law 411 = .ok (.invokevirtual 47, 3) := by decide +kernel
theorem dL_law_414 : decode cL_law 414 = .ok (.if_icmp .eq 439, 3) := by decide +kernel
theorem dL_law_417 : decode cL_law 417 = .ok (.iconst 0, 1) := by decide +kernel
theorem dL_law_418 : decode cL_law 418 = .ok (.ireturn, 1) := by decide +kernel
theorem dL_law_419 : decode cL_law 419 = .ok (.aload_n 1, 1) := by decide +kernel
theorem dL_law_420 : decode cL_law 420 = .ok (.invokevirtual 48, 3) := by decide +kernel
theorem dL_law_423 : decode cL_law 423 = .ok (.aload_n 2, 1) := by decide +kernel
theorem dL_law_424 : decode cL_law 424 = .ok (.invokevirtual 51, 3) := by decide +kernel
theorem dL_law_427 : decode cL_law 427 = .ok (.if_icmp .eq 426, 3) := by decide +kernel
theorem dL_law_430 : decode cL_law 430 = .ok (.iconst 0, 1) := by decide +kernel
theorem dL_law_431 : decode cL_law 431 = .ok (.ireturn, 1) := by decide +kernel
theorem dL_law_432 : decode cL_law 432 = .ok (.aload_n 1, 1) := by decide +kernel
theorem dL_law_433 : decode cL_law 433 = .ok (.aload_n 0, 1) := by decide +kernel
theorem dL_law_434 : decode cL_law 434 = .ok (.iload_n 3, 1) := by decide +kernel
theorem dL_law_435 : decode cL_law 435 = .ok (.iconst 1, 1) := by decide +kernel
theorem dL_law_436 : decode cL_law 436 = .ok (.iadd, 1) := by decide +kernel
theorem dL_law_437 : decode cL_law 437 = .ok (.iaload, 1) := by decide +kernel
theorem dL_law_438 : decode cL_law 438 = .ok (.invokevirtual 52, 3) := by decide +kernel
theorem dL_law_441 : decode cL_law 441 = .ok (.aload_n 2, 1) := by decide +kernel
theorem dL_law_442 : decode cL_law 442 = .ok (.aload_n 0, 1) := by decide +kernel
theorem dL_law_443 : decode cL_law 443 = .ok (.iload_n 3, 1) := by decide +kernel
theorem dL_law_444 : decode cL_law 444 = .ok (.iconst 1, 1) := by decide +kernel
theorem dL_law_445 : decode cL_law 445 = .ok (.iadd, 1) := by decide +kernel
theorem dL_law_446 : decode cL_law 446 = .ok (.iaload, 1) := by decide +kernel
theorem dL_law_447 : decode cL_law 447 = .ok (.invokevirtual 56, 3) := by decide +kernel
theorem dL_law_450 : decode cL_law 450 = .ok (.if_icmp .eq 403, 3) := by decide +kernel
theorem dL_law_453 : decode cL_law 453 = .ok (.iconst 0, 1) := by decide +kernel
theorem dL_law_454 : decode cL_law 454 = .ok (.ireturn, 1) := by decide +kernel
theorem dL_law_455 : decode cL_law 455 = .ok (.aload_n 1, 1) := by decide +kernel
theorem dL_law_456 : decode cL_law 456 = .ok (.invokevirtual 57, 3) := by decide +kernel
theorem dL_law_459 : decode cL_law 459 = .ok (.aload_n 2, 1) := by decide +kernel
theorem dL_law_460 : decode cL_law 460 = .ok (.invokevirtual 60, 3) := by decide +kernel
theorem dL_law_463 : decode cL_law 463 = .ok (.if_icmp .eq 390, 3) := by decide +kernel
theorem dL_law_466 : decode cL_law 466 = .ok (.iconst 0, 1) := by decide +kernel
theorem dL_law_467 : decode cL_law 467 = .ok (.ireturn, 1) := by decide +kernel
theorem dL_law_468 : decode cL_law 468 = .ok (.aload_n 1, 1) := by decide +kernel
theorem dL_law_469 : decode cL_law 469 = .ok (.aload_n 0, 1) := by decide +kernel
theorem dL_law_470 : decode cL_law 470 = .ok (.iload_n 3, 1) := by decide +kernel
theorem dL_law_471 : decode cL_law 471 = .ok (.iconst 1, 1) := by decide +kernel
theorem dL_law_472 : decode cL_law 472 = .ok (.iadd, 1) := by decide +kernel
theorem dL_law_473 : decode cL_law 473 = .ok (.iaload, 1) := by decide +kernel
theorem dL_law_474 : decode cL_law 474 = .ok (.aload_n 0, 1) := by decide +kernel
theorem dL_law_475 : decode cL_law 475 = .ok (.iload_n 3, 1) := by decide +kernel
theorem dL_law_476 : decode cL_law 476 = .ok (.iconst 2, 1) := by decide +kernel
theorem dL_law_477 : decode cL_law 477 = .ok (.iadd, 1) := by decide +kernel
theorem dL_law_478 : decode cL_law 478 = .ok (.iaload, 1) := by decide +kernel
theorem dL_law_479 : decode cL_law 479 = .ok (.invokevirtual 61, 3) := by decide +kernel
theorem dL_law_482 : decode cL_law 482 = .ok (.aload_n 2, 1) := by decide +kernel
theorem dL_law_483 : decode cL_law 483 = .ok (.aload_n 0, 1) := by decide +kernel
theorem dL_law_484 : decode cL_law 484 = .ok (.iload_n 3, 1) := by decide +kernel
theorem dL_law_485 : decode cL_law 485 = .ok (.iconst 1, 1) := by decide +kernel
theorem dL_law_486 : decode cL_law 486 = .ok (.iadd, 1) := by decide +kernel
theorem dL_law_487 : decode cL_law 487 = .ok (.iaload, 1) := by decide +kernel
theorem dL_law_488 : decode cL_law 488 = .ok (.aload_n 0, 1) := by decide +kernel
theorem dL_law_489 : decode cL_law 489 = .ok (.iload_n 3, 1) := by decide +kernel
theorem dL_law_490 : decode cL_law 490 = .ok (.iconst 2, 1) := by decide +kernel
theorem dL_law_491 : decode cL_law 491 = .ok (.iadd, 1) := by decide +kernel
theorem dL_law_492 : decode cL_law 492 = .ok (.iaload, 1) := by decide +kernel
theorem dL_law_493 : decode cL_law 493 = .ok (.invokevirtual 64, 3) := by decide +kernel
theorem dL_law_496 : decode cL_law 496 = .ok (.if_icmp .eq 357, 3) := by decide +kernel
theorem dL_law_499 : decode cL_law 499 = .ok (.iconst 0, 1) := by decide +kernel
theorem dL_law_500 : decode cL_law 500 = .ok (.ireturn, 1) := by decide +kernel
theorem dL_law_501 : decode cL_law 501 = .ok (.aload_n 1, 1) := by decide +kernel
theorem dL_law_502 : decode cL_law 502 = .ok (.aload_n 0, 1) := by decide +kernel
theorem dL_law_503 : decode cL_law 503 = .ok (.iload_n 3, 1) := by decide +kernel
theorem dL_law_504 : decode cL_law 504 = .ok (.iconst 1, 1) := by decide +kernel
theorem dL_law_505 : decode cL_law 505 = .ok (.iadd, 1) := by decide +kernel
theorem dL_law_506 : decode cL_law 506 = .ok (.iaload, 1) := by decide +kernel
theorem dL_law_507 : decode cL_law 507 = .ok (.aload_n 0, 1) := by decide +kernel
theorem dL_law_508 : decode cL_law 508 = .ok (.iload_n 3, 1) := by decide +kernel
theorem dL_law_509 : decode cL_law 509 = .ok (.iconst 2, 1) := by decide +kernel
theorem dL_law_510 : decode cL_law 510 = .ok (.iadd, 1) := by decide +kernel
theorem dL_law_511 : decode cL_law 511 = .ok (.iaload, 1) := by decide +kernel
theorem dL_law_512 : decode cL_law 512 = .ok (.aload_n 0, 1) := by decide +kernel
theorem dL_law_513 : decode cL_law 513 = .ok (.iload_n 3, 1) := by decide +kernel
theorem dL_law_514 : decode cL_law 514 = .ok (.iconst 3, 1) := by decide +kernel
theorem dL_law_515 : decode cL_law 515 = .ok (.iadd, 1) := by decide +kernel
theorem dL_law_516 : decode cL_law 516 = .ok (.iaload, 1) := by decide +kernel
theorem dL_law_517 : decode cL_law 517 = .ok (.invokevirtual 65, 3) := by decide +kernel
theorem dL_law_520 : decode cL_law 520 = .ok (.aload_n 2, 1) := by decide +kernel
theorem dL_law_521 : decode cL_law 521 = .ok (.aload_n 0, 1) := by decide +kernel
theorem dL_law_522 : decode cL_law 522 = .ok (.iload_n 3, 1) := by decide +kernel
theorem dL_law_523 : decode cL_law 523 = .ok (.iconst 1, 1) := by decide +kernel
theorem dL_law_524 : decode cL_law 524 = .ok (.iadd, 1) := by decide +kernel
theorem dL_law_525 : decode cL_law 525 = .ok (.iaload, 1) := by decide +kernel
theorem dL_law_526 : decode cL_law 526 = .ok (.aload_n 0, 1) := by decide +kernel
theorem dL_law_527 : decode cL_law 527 = .ok (.iload_n 3, 1) := by decide +kernel
theorem dL_law_528 : decode cL_law 528 = .ok (.iconst 2, 1) := by decide +kernel
theorem dL_law_529 : decode cL_law 529 = .ok (.iadd, 1) := by decide +kernel
theorem dL_law_530 : decode cL_law 530 = .ok (.iaload, 1) := by decide +kernel
theorem dL_law_531 : decode cL_law 531 = .ok (.aload_n 0, 1) := by decide +kernel
theorem dL_law_532 : decode cL_law 532 = .ok (.iload_n 3, 1) := by decide +kernel
theorem dL_law_533 : decode cL_law 533 = .ok (.iconst 3, 1) := by decide +kernel
theorem dL_law_534 : decode cL_law 534 = .ok (.iadd, 1) := by decide +kernel
theorem dL_law_535 : decode cL_law 535 = .ok (.iaload, 1) := by decide +kernel
theorem dL_law_536 : decode cL_law 536 = .ok (.invokevirtual 68, 3) := by decide +kernel
theorem dL_law_539 : decode cL_law 539 = .ok (.if_icmp .eq 314, 3) := by decide +kernel
theorem dL_law_542 : decode cL_law 542 = .ok (.iconst 0, 1) := by decide +kernel
theorem dL_law_543 : decode cL_law 543 = .ok (.ireturn, 1) := by decide +kernel
theorem dL_law_544 : decode cL_law 544 = .ok (.aload_n 1, 1) := by decide +kernel
theorem dL_law_545 : decode cL_law 545 = .ok (.aload_n 0, 1) := by decide +kernel
theorem dL_law_546 : decode cL_law 546 = .ok (.iload_n 3, 1) := by decide +kernel
theorem dL_law_547 : decode cL_law 547 = .ok (.iconst 1, 1) := by decide +kernel
theorem dL_law_548 : decode cL_law 548 = .ok (.iadd, 1) := by decide +kernel
theorem dL_law_549 : decode cL_law 549 = .ok (.iaload, 1) := by decide +kernel
theorem dL_law_550 : decode cL_law 550 = .ok (.invokevirtual 69, 3) := by decide +kernel
theorem dL_law_553 : decode cL_law 553 = .ok (.aload_n 2, 1) := by decide +kernel
theorem dL_law_554 : decode cL_law 554 = .ok (.aload_n 0, 1) := by decide +kernel
theorem dL_law_555 : decode cL_law 555 = .ok (.iload_n 3, 1) := by decide +kernel
theorem dL_law_556 : decode cL_law 556 = .ok (.iconst 1, 1) := by decide +kernel
theorem dL_law_557 : decode cL_law 557 = .ok (.iadd, 1) := by decide +kernel
theorem dL_law_558 : decode cL_law 558 = .ok (.iaload, 1) := by decide +kernel
theorem dL_law_559 : decode cL_law 559 = .ok (.invokevirtual 72, 3) := by decide +kernel
theorem dL_law_562 : decode cL_law 562 = .ok (.if_icmp .eq 291, 3) := by decide +kernel
theorem dL_law_565 : decode cL_law 565 = .ok (.iconst 0, 1) := by decide +kernel
theorem dL_law_566 : decode cL_law 566 = .ok (.ireturn, 1) := by decide +kernel
theorem dL_law_567 : decode cL_law 567 = .ok (.aload_n 1, 1) := by decide +kernel
theorem dL_law_568 : decode cL_law 568 = .ok (.aload_n 0, 1) := by decide +kernel
theorem dL_law_569 : decode cL_law 569 = .ok (.iload_n 3, 1) := by decide +kernel
theorem dL_law_570 : decode cL_law 570 = .ok (.iconst 1, 1) := by decide +kernel
theorem dL_law_571 : decode cL_law 571 = .ok (.iadd, 1) := by decide +kernel
theorem dL_law_572 : decode cL_law 572 = .ok (.iaload, 1) := by decide +kernel
theorem dL_law_573 : decode cL_law 573 = .ok (.invokevirtual 73, 3) := by decide +kernel
theorem dL_law_576 : decode cL_law 576 = .ok (.aload_n 2, 1) := by decide +kernel
theorem dL_law_577 : decode cL_law 577 = .ok (.aload_n 0, 1) := by decide +kernel
theorem dL_law_578 : decode cL_law 578 = .ok (.iload_n 3, 1) := by decide +kernel
theorem dL_law_579 : decode cL_law 579 = .ok (.iconst 1, 1) := by decide +kernel
theorem dL_law_580 : decode cL_law 580 = .ok (.iadd, 1) := by decide +kernel
theorem dL_law_581 : decode cL_law 581 = .ok (.iaload, 1) := by decide +kernel
theorem dL_law_582 : decode cL_law 582 = .ok (.invokevirtual 76, 3) := by decide +kernel
theorem dL_law_585 : decode cL_law 585 = .ok (.if_icmp .eq 268, 3) := by decide +kernel
theorem dL_law_588 : decode cL_law 588 = .ok (.iconst 0, 1) := by decide +kernel
theorem dL_law_589 : decode cL_law 589 = .ok (.ireturn, 1) := by decide +kernel
theorem dL_law_590 : decode cL_law 590 = .ok (.aload_n 1, 1) := by decide +kernel
theorem dL_law_591 : decode cL_law 591 = .ok (.aload_n 0, 1) := by decide +kernel
theorem dL_law_592 : decode cL_law 592 = .ok (.iload_n 3, 1) := by decide +kernel
theorem dL_law_593 : decode cL_law 593 = .ok (.iconst 1, 1) := by decide +kernel
theorem dL_law_594 : decode cL_law 594 = .ok (.iadd, 1) := by decide +kernel
theorem dL_law_595 : decode cL_law 595 = .ok (.iaload, 1) := by decide +kernel
theorem dL_law_596 : decode cL_law 596 = .ok (.aload_n 0, 1) := by decide +kernel
theorem dL_law_597 : decode cL_law 597 = .ok (.iload_n 3, 1) := by decide +kernel
theorem dL_law_598 : decode cL_law 598 = .ok (.iconst 2, 1) := by decide +kernel
theorem dL_law_599 : decode cL_law 599 = .ok (.iadd, 1) := by decide +kernel
theorem dL_law_600 : decode cL_law 600 = .ok (.iaload, 1) := by decide +kernel
theorem dL_law_601 : decode cL_law 601 = .ok (.invokevirtual 77, 3) := by decide +kernel
theorem dL_law_604 : decode cL_law 604 = .ok (.aload_n 2, 1) := by decide +kernel
theorem dL_law_605 : decode cL_law 605 = .ok (.aload_n 0, 1) := by decide +kernel
theorem dL_law_606 : decode cL_law 606 = .ok (.iload_n 3, 1) := by decide +kernel
theorem dL_law_607 : decode cL_law 607 = .ok (.iconst 1, 1) := by decide +kernel
theorem dL_law_608 : decode cL_law 608 = .ok (.iadd, 1) := by decide +kernel
theorem dL_law_609 : decode cL_law 609 = .ok (.iaload, 1) := by decide +kernel
theorem dL_law_610 : decode cL_law 610 = .ok (.aload_n 0, 1) := by decide +kernel
theorem dL_law_611 : decode cL_law 611 = .ok (.iload_n 3, 1) := by decide +kernel
theorem dL_law_612 : decode cL_law 612 = .ok (.iconst 2, 1) := by decide +kernel
theorem dL_law_613 : decode cL_law 613 = .ok (.iadd, 1) := by decide +kernel
theorem dL_law_614 : decode cL_law 614 = .ok (.iaload, 1) := by decide +kernel
theorem dL_law_615 : decode cL_law 615 = .ok (.invokevirtual 80, 3) := by decide +kernel
theorem dL_law_618 : decode cL_law 618 = .ok (.if_icmp .eq 235, 3) := by decide +kernel
theorem dL_law_621 : decode cL_law 621 = .ok (.iconst 0, 1) := by decide +kernel
theorem dL_law_622 : decode cL_law 622 = .ok (.ireturn, 1) := by decide +kernel
theorem dL_law_623 : decode cL_law 623 = .ok (.aload_n 1, 1) := by decide +kernel
theorem dL_law_624 : decode cL_law 624 = .ok (.invokevirtual 81, 3) := by decide +kernel
theorem dL_law_627 : decode cL_law 627 = .ok (.aload_n 2, 1) := by decide +kernel
theorem dL_law_628 : decode cL_law 628 = .ok (.invokevirtual 84, 3) := by decide +kernel
theorem dL_law_631 : decode cL_law 631 = .ok (.if_icmp .eq 222, 3) := by decide +kernel
theorem dL_law_634 : decode cL_law 634 = .ok (.iconst 0, 1) := by decide +kernel
theorem dL_law_635 : decode cL_law 635 = .ok (.ireturn, 1) := by decide +kernel
theorem dL_law_636 : decode cL_law 636 = .ok (.aload_n 1, 1) := by decide +kernel
theorem dL_law_637 : decode cL_law 637 = .ok (.aload_n 0, 1) := by decide +kernel
theorem dL_law_638 : decode cL_law 638 = .ok (.iload_n 3, 1) := by decide +kernel
theorem dL_law_639 : decode cL_law 639 = .ok (.iconst 1, 1) := by decide +kernel
theorem dL_law_640 : decode cL_law 640 = .ok (.iadd, 1) := by decide +kernel
theorem dL_law_641 : decode cL_law 641 = .ok (.iaload, 1) := by decide +kernel
theorem dL_law_642 : decode cL_law 642 = .ok (.aload_n 0, 1) := by decide +kernel
theorem dL_law_643 : decode cL_law 643 = .ok (.iload_n 3, 1) := by decide +kernel
theorem dL_law_644 : decode cL_law 644 = .ok (.iconst 2, 1) := by decide +kernel
theorem dL_law_645 : decode cL_law 645 = .ok (.iadd, 1) := by decide +kernel
theorem dL_law_646 : decode cL_law 646 = .ok (.iaload, 1) := by decide +kernel
theorem dL_law_647 : decode cL_law 647 = .ok (.invokevirtual 85, 3) := by decide +kernel
theorem dL_law_650 : decode cL_law 650 = .ok (.aload_n 2, 1) := by decide +kernel
theorem dL_law_651 : decode cL_law 651 = .ok (.aload_n 0, 1) := by decide +kernel
theorem dL_law_652 : decode cL_law 652 = .ok (.iload_n 3, 1) := by decide +kernel
theorem dL_law_653 : decode cL_law 653 = .ok (.iconst 1, 1) := by decide +kernel
theorem dL_law_654 : decode cL_law 654 = .ok (.iadd, 1) := by decide +kernel
theorem dL_law_655 : decode cL_law 655 = .ok (.iaload, 1) := by decide +kernel
theorem dL_law_656 : decode cL_law 656 = .ok (.aload_n 0, 1) := by decide +kernel
theorem dL_law_657 : decode cL_law 657 = .ok (.iload_n 3, 1) := by decide +kernel
theorem dL_law_658 : decode cL_law 658 = .ok (.iconst 2, 1) := by decide +kernel
theorem dL_law_659 : decode cL_law 659 = .ok (.iadd, 1) := by decide +kernel
theorem dL_law_660 : decode cL_law 660 = .ok (.iaload, 1) := by decide +kernel
theorem dL_law_661 : decode cL_law 661 = .ok (.invokevirtual 88, 3) := by decide +kernel
theorem dL_law_664 : decode cL_law 664 = .ok (.if_icmp .eq 189, 3) := by decide +kernel
theorem dL_law_667 : decode cL_law 667 = .ok (.iconst 0, 1) := by decide +kernel
theorem dL_law_668 : decode cL_law 668 = .ok (.ireturn, 1) := by decide +kernel
theorem dL_law_669 : decode cL_law 669 = .ok (.aload_n 1, 1) := by decide +kernel
theorem dL_law_670 : decode cL_law 670 = .ok (.aload_n 0, 1) := by decide +kernel
theorem dL_law_671 : decode cL_law 671 = .ok (.iload_n 3, 1) := by decide +kernel
theorem dL_law_672 : decode cL_law 672 = .ok (.iconst 1, 1) := by decide +kernel
theorem dL_law_673 : decode cL_law 673 = .ok (.iadd, 1) := by decide +kernel
theorem dL_law_674 : decode cL_law 674 = .ok (.iaload, 1) := by decide +kernel
theorem dL_law_675 : decode cL_law 675 = .ok (.aload_n 0, 1) := by decide +kernel
theorem dL_law_676 : decode cL_law 676 = .ok (.iload_n 3, 1) := by decide +kernel
theorem dL_law_677 : decode cL_law 677 = .ok (.iconst 2, 1) := by decide +kernel
theorem dL_law_678 : decode cL_law 678 = .ok (.iadd, 1) := by decide +kernel
theorem dL_law_679 : decode cL_law 679 = .ok (.iaload, 1) := by decide +kernel
theorem dL_law_680 : decode cL_law 680 = .ok (.invokevirtual 89, 3) := by decide +kernel
theorem dL_law_683 : decode cL_law 683 = .ok (.aload_n 2, 1) := by decide +kernel
theorem dL_law_684 : decode cL_law 684 = .ok (.aload_n 0, 1) := by decide +kernel
theorem dL_law_685 : decode cL_law 685 = .ok (.iload_n 3, 1) := by decide +kernel
theorem dL_law_686 : decode cL_law 686 = .ok (.iconst 1, 1) := by decide +kernel
theorem dL_law_687 : decode cL_law 687 = .ok (.iadd, 1) := by decide +kernel
theorem dL_law_688 : decode cL_law 688 = .ok (.iaload, 1) := by decide +kernel
theorem dL_law_689 : decode cL_law 689 = .ok (.aload_n 0, 1) := by decide +kernel
theorem dL_law_690 : decode cL_law 690 = .ok (.iload_n 3, 1) := by decide +kernel
theorem dL_law_691 : decode cL_law 691 = .ok (.iconst 2, 1) := by decide +kernel
theorem dL_law_692 : decode cL_law 692 = .ok (.iadd, 1) := by decide +kernel
theorem dL_law_693 : decode cL_law 693 = .ok (.iaload, 1) := by decide +kernel
theorem dL_law_694 : decode cL_law 694 = .ok (.invokevirtual 92, 3) := by decide +kernel
theorem dL_law_697 : decode cL_law 697 = .ok (.if_icmp .eq 156, 3) := by decide +kernel
theorem dL_law_700 : decode cL_law 700 = .ok (.iconst 0, 1) := by decide +kernel
theorem dL_law_701 : decode cL_law 701 = .ok (.ireturn, 1) := by decide +kernel
theorem dL_law_702 : decode cL_law 702 = .ok (.aload_n 1, 1) := by decide +kernel
theorem dL_law_703 : decode cL_law 703 = .ok (.invokevirtual 93, 3) := by decide +kernel
theorem dL_law_706 : decode cL_law 706 = .ok (.aload_n 2, 1) := by decide +kernel
theorem dL_law_707 : decode cL_law 707 = .ok (.invokevirtual 96, 3) := by decide +kernel
theorem dL_law_710 : decode cL_law 710 = .ok (.if_icmp .eq 143, 3) := by decide +kernel
theorem dL_law_713 : decode cL_law 713 = .ok (.iconst 0, 1) := by decide +kernel
theorem dL_law_714 : decode cL_law 714 = .ok (.ireturn, 1) := by decide +kernel
theorem dL_law_715 : decode cL_law 715 = .ok (.aload_n 1, 1) := by decide +kernel
theorem dL_law_716 : decode cL_law 716 = .ok (.aload_n 0, 1) := by decide +kernel
theorem dL_law_717 : decode cL_law 717 = .ok (.iload_n 3, 1) := by decide +kernel
theorem dL_law_718 : decode cL_law 718 = .ok (.iconst 1, 1) := by decide +kernel
theorem dL_law_719 : decode cL_law 719 = .ok (.iadd, 1) := by decide +kernel
theorem dL_law_720 : decode cL_law 720 = .ok (.iaload, 1) := by decide +kernel
theorem dL_law_721 : decode cL_law 721 = .ok (.invokevirtual 97, 3) := by decide +kernel
theorem dL_law_724 : decode cL_law 724 = .ok (.aload_n 2, 1) := by decide +kernel
theorem dL_law_725 : decode cL_law 725 = .ok (.aload_n 0, 1) := by decide +kernel
theorem dL_law_726 : decode cL_law 726 = .ok (.iload_n 3, 1) := by decide +kernel
theorem dL_law_727 : decode cL_law 727 = .ok (.iconst 1, 1) := by decide +kernel
theorem dL_law_728 : decode cL_law 728 = .ok (.iadd, 1) := by decide +kernel
theorem dL_law_729 : decode cL_law 729 = .ok (.iaload, 1) := by decide +kernel
theorem dL_law_730 : decode cL_law 730 = .ok (.invokevirtual 100, 3) := by decide +kernel
theorem dL_law_733 : decode cL_law 733 = .ok (.if_icmp .eq 120, 3) := by decide +kernel
theorem dL_law_736 : decode cL_law 736 = .ok (.iconst 0, 1) := by decide +kernel
theorem dL_law_737 : decode cL_law 737 = .ok (.ireturn, 1) := by decide +kernel
theorem dL_law_738 : decode cL_law 738 = .ok (.aload_n 1, 1) := by decide +kernel
theorem dL_law_739 : decode cL_law 739 = .ok (.aload_n 0, 1) := by decide +kernel
theorem dL_law_740 : decode cL_law 740 = .ok (.iload_n 3, 1) := by decide +kernel
theorem dL_law_741 : decode cL_law 741 = .ok (.iconst 1, 1) := by decide +kernel
theorem dL_law_742 : decode cL_law 742 = .ok (.iadd, 1) := by decide +kernel
theorem dL_law_743 : decode cL_law 743 = .ok (.iaload, 1) := by decide +kernel
theorem dL_law_744 : decode cL_law 744 = .ok (.invokevirtual 101, 3) := by decide +kernel
theorem dL_law_747 : decode cL_law 747 = .ok (.aload_n 2, 1) := by decide +kernel
theorem dL_law_748 : decode cL_law 748 = .ok (.aload_n 0, 1) := by decide +kernel
theorem dL_law_749 : decode cL_law 749 = .ok (.iload_n 3, 1) := by decide +kernel
theorem dL_law_750 : decode cL_law 750 = .ok (.iconst 1, 1) := by decide +kernel
theorem dL_law_751 : decode cL_law 751 = .ok (.iadd, 1) := by decide +kernel
theorem dL_law_752 : decode cL_law 752 = .ok (.iaload, 1) := by decide +kernel
theorem dL_law_753 : decode cL_law 753 = .ok (.invokevirtual 104, 3) := by decide +kernel
theorem dL_law_756 : decode cL_law 756 = .ok (.if_icmp .eq 97, 3) := by decide +kernel
theorem dL_law_759 : decode cL_law 759 = .ok (.iconst 0, 1) := by decide +kernel
theorem dL_law_760 : decode cL_law 760 = .ok (.ireturn, 1) := by decide +kernel
theorem dL_law_761 : decode cL_law 761 = .ok (.aload_n 1, 1) := by decide +kernel
theorem dL_law_762 : decode cL_law 762 = .ok (.invokevirtual 105, 3) := by decide +kernel
theorem dL_law_765 : decode cL_law 765 = .ok (.aload_n 2, 1) := by decide +kernel
theorem dL_law_766 : decode cL_law 766 = .ok (.invokevirtual 108, 3) := by decide +kernel
theorem dL_law_769 : decode cL_law 769 = .ok (.if_icmp .eq 84, 3) := by decide +kernel
theorem dL_law_772 : decode cL_law 772 = .ok (.iconst 0, 1) := by decide +kernel
theorem dL_law_773 : decode cL_law 773 = .ok (.ireturn, 1) := by decide +kernel
theorem dL_law_774 : decode cL_law 774 = .ok (.aload_n 1, 1) := by decide +kernel
theorem dL_law_775 : decode cL_law 775 = .ok (.aload_n 0, 1) := by decide +kernel
theorem dL_law_776 : decode cL_law 776 = .ok (.iload_n 3, 1) := by decide +kernel
theorem dL_law_777 : decode cL_law 777 = .ok (.iconst 1, 1) := by decide +kernel
theorem dL_law_778 : decode cL_law 778 = .ok (.iadd, 1) := by decide +kernel
theorem dL_law_779 : decode cL_law 779 = .ok (.iaload, 1) := by decide +kernel
theorem dL_law_780 : decode cL_law 780 = .ok (.invokevirtual 109, 3) := by decide +kernel
theorem dL_law_783 : decode cL_law 783 = .ok (.aload_n 2, 1) := by decide +kernel
theorem dL_law_784 : decode cL_law 784 = .ok (.aload_n 0, 1) := by decide +kernel
theorem dL_law_785 : decode cL_law 785 = .ok (.iload_n 3, 1) := by decide +kernel
theorem dL_law_786 : decode cL_law 786 = .ok (.iconst 1, 1) := by decide +kernel
theorem dL_law_787 : decode cL_law 787 = .ok (.iadd, 1) := by decide +kernel
theorem dL_law_788 : decode cL_law 788 = .ok (.iaload, 1) := by decide +kernel
theorem dL_law_789 : decode cL_law 789 = .ok (.invokevirtual 112, 3) := by decide +kernel
theorem dL_law_792 : decode cL_law 792 = .ok (.if_icmp .eq 61, 3) := by decide +kernel
theorem dL_law_795 : decode cL_law 795 = .ok (.iconst 0, 1) := by decide +kernel
theorem dL_law_796 : decode cL_law 796 = .ok (.ireturn, 1) := by decide +kernel
theorem dL_law_797 : decode cL_law 797 = .ok (.aload_n 1, 1) := by decide +kernel
theorem dL_law_798 : decode cL_law 798 = .ok (.aload_n 0, 1) := by decide +kernel
theorem dL_law_799 : decode cL_law 799 = .ok (.iload_n 3, 1) := by decide +kernel
theorem dL_law_800 : decode cL_law 800 = .ok (.iconst 1, 1) := by decide +kernel
theorem dL_law_801 : decode cL_law 801 = .ok (.iadd, 1) := by decide +kernel
theorem dL_law_802 : decode cL_law 802 = .ok (.iaload, 1) := by decide +kernel
theorem dL_law_803 : decode cL_law 803 = .ok (.aload_n 0, 1) := by decide +kernel
theorem dL_law_804 : decode cL_law 804 = .ok (.iload_n 3, 1) := by decide +kernel
theorem dL_law_805 : decode cL_law 805 = .ok (.iconst 2, 1) := by decide +kernel
theorem dL_law_806 : decode cL_law 806 = .ok (.iadd, 1) := by decide +kernel
theorem dL_law_807 : decode cL_law 807 = .ok (.iaload, 1) := by decide +kernel
theorem dL_law_808 : decode cL_law 808 = .ok (.invokevirtual 113, 3) := by decide +kernel
theorem dL_law_811 : decode cL_law 811 = .ok (.aload_n 2, 1) := by decide +kernel
theorem dL_law_812 : decode cL_law 812 = .ok (.aload_n 0, 1) := by decide +kernel
theorem dL_law_813 : decode cL_law 813 = .ok (.iload_n 3, 1) := by decide +kernel
theorem dL_law_814 : decode cL_law 814 = .ok (.iconst 1, 1) := by decide +kernel
theorem dL_law_815 : decode cL_law 815 = .ok (.iadd, 1) := by decide +kernel
theorem dL_law_816 : decode cL_law 816 = .ok (.iaload, 1) := by decide +kernel
theorem dL_law_817 : decode cL_law 817 = .ok (.aload_n 0, 1) := by decide +kernel
theorem dL_law_818 : decode cL_law 818 = .ok (.iload_n 3, 1) := by decide +kernel
theorem dL_law_819 : decode cL_law 819 = .ok (.iconst 2, 1) := by decide +kernel
theorem dL_law_820 : decode cL_law 820 = .ok (.iadd, 1) := by decide +kernel
theorem dL_law_821 : decode cL_law 821 = .ok (.iaload, 1) := by decide +kernel
theorem dL_law_822 : decode cL_law 822 = .ok (.invokevirtual 116, 3) := by decide +kernel
theorem dL_law_825 : decode cL_law 825 = .ok (.if_icmp .eq 28, 3) := by decide +kernel
theorem dL_law_828 : decode cL_law 828 = .ok (.iconst 0, 1) := by decide +kernel
theorem dL_law_829 : decode cL_law 829 = .ok (.ireturn, 1) := by decide +kernel
theorem dL_law_830 : decode cL_law 830 = .ok (.aload_n 1, 1) := by decide +kernel
theorem dL_law_831 : decode cL_law 831 = .ok (.aload_n 0, 1) := by decide +kernel
theorem dL_law_832 : decode cL_law 832 = .ok (.iload_n 3, 1) := by decide +kernel
theorem dL_law_833 : decode cL_law 833 = .ok (.iconst 1, 1) := by decide +kernel
theorem dL_law_834 : decode cL_law 834 = .ok (.iadd, 1) := by decide +kernel
theorem dL_law_835 : decode cL_law 835 = .ok (.iaload, 1) := by decide +kernel
theorem dL_law_836 : decode cL_law 836 = .ok (.invokevirtual 117, 3) := by decide +kernel
theorem dL_law_839 : decode cL_law 839 = .ok (.aload_n 2, 1) := by decide +kernel
theorem dL_law_840 : decode cL_law 840 = .ok (.aload_n 0, 1) := by decide +kernel
theorem dL_law_841 : decode cL_law 841 = .ok (.iload_n 3, 1) := by decide +kernel
theorem dL_law_842 : decode cL_law 842 = .ok (.iconst 1, 1) := by decide +kernel
theorem dL_law_843 : decode cL_law 843 = .ok (.iadd, 1) := by decide +kernel
theorem dL_law_844 : decode cL_law 844 = .ok (.iaload, 1) := by decide +kernel
theorem dL_law_845 : decode cL_law 845 = .ok (.invokevirtual 120, 3) := by decide +kernel
theorem dL_law_848 : decode cL_law 848 = .ok (.if_icmp .eq 5, 3) := by decide +kernel
theorem dL_law_851 : decode cL_law 851 = .ok (.iconst 0, 1) := by decide +kernel
theorem dL_law_852 : decode cL_law 852 = .ok (.ireturn, 1) := by decide +kernel
theorem dL_law_853 : decode cL_law 853 = .ok (.iinc 3 5, 3) := by decide +kernel
theorem dL_law_856 : decode cL_law 856 = .ok (.goto (-838), 3) := by decide +kernel
theorem dL_law_859 : decode cL_law 859 = .ok (.iconst 1, 1) := by decide +kernel
theorem dL_law_860 : decode cL_law 860 = .ok (.ireturn, 1) := by decide +kernel
end
section
/-! THE LAYER: an abstract world of 99 cells of whole numbers, and a judgement VV over it -/
def gI (x : Int) : Int32 := Int32.ofInt x
def gJ (x : Int) : Int64 := Int64.ofInt x
abbrev inI (x : Int) : Prop := -2147483648 ≤ x ∧ x < 2147483648
abbrev inJ (x : Int) : Prop := -9223372036854775808 ≤ x ∧ x < 9223372036854775808
theorem gI_to {x : Int} (h : inI x) : (gI x).toInt = x := Int32.toInt_ofInt_of_le h.1 h.2
theorem gJ_to {x : Int} (h : inJ x) : (gJ x).toInt = x := Int64.toInt_ofInt_of_le h.1 h.2
theorem gI_of (x : Int32) : gI x.toInt = x := Int32.ofInt_toInt x
theorem gJ_of (x : Int64) : gJ x.toInt = x := Int64.ofInt_toInt x
theorem inI_to (x : Int32) : inI x.toInt := ⟨Int32.le_toInt x, Int32.toInt_lt x⟩
theorem inJ_to (x : Int64) : inJ x.toInt := ⟨Int64.le_toInt x, Int64.toInt_lt x⟩
theorem gI_add (x y : Int) : gI (x + y) = gI x + gI y := Int32.ofInt_add x y
theorem gI_sub (x y : Int) : gI (x - y) = gI x - gI y := Int32.ofInt_sub x y
theorem gI_mul (x y : Int) : gI (x * y) = gI x * gI y := Int32.ofInt_mul x y
theorem gJ_add (x y : Int) : gJ (x + y) = gJ x + gJ y := Int64.ofInt_add x y
theorem gJ_sub (x y : Int) : gJ (x - y) = gJ x - gJ y := Int64.ofInt_sub x y
theorem gJ_mul (x y : Int) : gJ (x * y) = gJ x * gJ y := Int64.ofInt_mul x y
theorem gI_lt {x y : Int} (hx : inI x) (hy : inI y) : gI x < gI y ↔ x < y := by rw [Int32.lt_iff_toInt_lt, gI_to hx, gI_to hy]
theorem gI_le {x y : Int} (hx : inI x) (hy : inI y) : gI x ≤ gI y ↔ x ≤ y := by rw [Int32.le_iff_toInt_le, gI_to hx, gI_to hy]
theorem gI_eq {x y : Int} (hx : inI x) (hy : inI y) : gI x = gI y ↔ x = y := by
  refine ⟨fun h => ?_, fun h => by rw [h]⟩
  have := congrArg Int32.toInt h
  rwa [gI_to hx, gI_to hy] at this
theorem gJ_eq {x y : Int} (hx : inJ x) (hy : inJ y) : gJ x = gJ y ↔ x = y := by
  refine ⟨fun h => ?_, fun h => by rw [h]⟩
  have := congrArg Int64.toInt h
  rwa [gJ_to hx, gJ_to hy] at this
theorem gI_0 : gI 0 = 0 := by decide
theorem inI_0 : inI 0 := by decide
theorem gI_cl {x : Int} (h : inI x) : (gI x).toNatClampNeg = x.toNat := by
  show (gI x).toInt.toNat = x.toNat
  rw [gI_to h]
theorem gI_in {x : Int} {n : Nat} (hn : n < 2147483648) (h0 : 0 ≤ x) (h1 : x < n) : vp_in (gI x) n ∧ (gI x).toNatClampNeg = x.toNat := by
  have hi : inI x := ⟨by omega, by omega⟩
  exact ⟨vp_in_iff.mpr (by rw [gI_to hi]; exact ⟨h0, h1⟩), gI_cl hi⟩
/-! bit operations on numbers, by way of the machine's own -/
def zand (x y : Int) : Int := (gI x &&& gI y).toInt
def zor (x y : Int) : Int := (gI x ||| gI y).toInt
def zxor (x y : Int) : Int := (gI x ^^^ gI y).toInt
def zshl (x y : Int) : Int := (gI x <<< (gI y &&& 31)).toInt
def zshr (x y : Int) : Int := (gI x >>> (gI y &&& 31)).toInt
def zushr (x y : Int) : Int := ((gI x).toUInt32 >>> ((gI y).toUInt32 &&& Int32.toUInt32 31)).toInt32.toInt
def zdiv (x y : Int) : Int := (gI x / gI y).toInt
def zrem (x y : Int) : Int := (gI x - gI x / gI y * gI y).toInt
def jand (x y : Int) : Int := (gJ x &&& gJ y).toInt
def jor (x y : Int) : Int := (gJ x ||| gJ y).toInt
def jshl (x y : Int) : Int := (gJ x <<< ((gI y).toInt64 &&& 63)).toInt
def jshr (x y : Int) : Int := (gJ x >>> ((gI y).toInt64 &&& 63)).toInt
def jtoi (x : Int) : Int := (gJ x).toInt32.toInt
def jcmp (x y : Int) : Int := if x < y then -1 else if x = y then 0 else 1
/-! the world: 99 cells; what each is (kind, length), by its place -/
abbrev Sg : Type := Nat → Nat → Int
def up2 (σ : Sg) (c k : Nat) (x : Int) : Sg := fun c' k' => if c' = c ∧ k' = k then x else σ c' k'
theorem up2_s (σ : Sg) (c k : Nat) (x : Int) : up2 σ c k x c k = x := if_pos ⟨rfl, rfl⟩
theorem up2_nc (σ : Sg) {c k c' k' : Nat} (x : Int) (h : c' ≠ c) : up2 σ c k x c' k' = σ c' k' := if_neg (fun q => h q.1)
theorem up2_nk (σ : Sg) {c k c' k' : Nat} (x : Int) (h : k' ≠ k) : up2 σ c k x c' k' = σ c' k' := if_neg (fun q => h q.2)
abbrev MI : Type := MethodName × ByteArray × Nat × Option FieldType × Room
abbrev Cx : Type := Launch × va_G × (Nat → ClassId) × (Nat → Nat) × (Nat → Nat) × (Nat × Nat × (Nat → Int32))
abbrev cxL (X : Cx) : Launch := X.1
abbrev cxD (X : Cx) : va_G := X.2.1
abbrev cxY (X : Cx) : Nat → ClassId := X.2.2.1
abbrev cxA (X : Cx) : Nat → Nat := X.2.2.2.1
abbrev cxT (X : Cx) : Nat → Nat := X.2.2.2.2.1
abbrev cxB (X : Cx) : Nat := X.2.2.2.2.2.1
abbrev cxN (X : Cx) : Nat := X.2.2.2.2.2.2.1
abbrev cxS (X : Cx) : Nat → Int32 := X.2.2.2.2.2.2.2
/-- the fields of the objects of a kind: 0 an int, 1 a long, n + 2 the object's n-th next cell -/
def ofl : Nat → List Nat
  | 0 => [3,0,0,0,0]
  | 1 => [3,4,5,0]
  | 2 => [3,0,0]
  | 3 => [3,4,0]
  | 4 => [3,0,0]
  | 5 => [3,0]
  | 6 => [3,4,0,0,0]
  | 7 => [3,4,5]
  | 8 => [3,4,5,6,7,8,0,0,0,0,0,0]
  | 9 => [3,13,14,19,44,51,59,63,67,69,0,0]
  | 10 => [0,3,4,5,6,7,8,9,0,10,0,0,1,0,0,0,0,11,12,13,0,14,15,16,17,18,19,20,21,22,23,24,25,26,27,28,29,30,0,0,31]
  | _ => []
def shpL : List (Nat × Nat) := [(9, 0), (4, 0), (23, 8), (20, 8), (20, 8), (20, 8), (20, 8), (20, 8), (20, 8), (20, 8), (20, 8), (20, 15), (6, 0), (22, 160), (3, 0), (20, 24), (20, 24), (24, 8), (3, 0), (20, 24), (20, 24), (3, 0), (20, 24), (20, 24), (3, 0), (20, 24), (20, 24), (3, 0), (20, 24), (20, 24), (3, 0), (20, 24), (20, 24), (3, 0), (20, 24), (20, 24), (3, 0), (20, 24), (20, 24), (3, 0), (20, 24), (20, 24), (8, 0), (20, 256), (20, 256), (20, 256), (20, 256), (20, 256), (20, 256), (0, 0), (8, 0), (20, 256), (20, 256), (20, 256), (20, 256), (20, 256), (20, 256), (7, 0), (20, 8), (20, 8), (20, 8), (1, 0), (20, 8), (20, 8), (20, 8), (2, 0), (20, 256), (5, 0), (20, 12), (10, 0), (20, 8), (20, 8), (20, 8), (20, 8), (20, 8), (20, 8), (20, 15), (20, 160), (20, 24), (20, 24), (20, 26), (20, 8), (20, 192), (20, 192), (20, 256), (20, 256), (20, 256), (20, 256), (20, 256), (20, 256), (21, 256), (20, 8), (20, 8), (20, 8), (20, 8), (20, 8), (20, 8), (20, 256), (20, 12)]
def shp (c : Nat) : Nat × Nat := shpL.getD c (99, 0)
def Rng (σ : Sg) : Prop := (∀ c k, ¬(c = 69 ∧ k = 12) → inI (σ c k)) ∧ inJ (σ 69 12)
def fval (X : Cx) (σ : Sg) (c k : Nat) : Nat → Value
  | 0 => .int (gI (σ c k))
  | 1 => .long (gJ (σ c k))
  | n + 2 => .ref (cxA X (c + n))
def fvs (X : Cx) (σ : Sg) (c : Nat) : Nat → List Nat → List Value
  | _, [] => []
  | k, t :: ts => fval X σ c k t :: fvs X σ c (k + 1) ts
def contK (X : Cx) (σ : Sg) (c kd n : Nat) : va_E :=
  if kd < 20 then .inr (kd, fvs X σ c 0 (ofl kd)) else if kd < 23 then .inl (cxY X (kd - 20), n, .inl (fun j => gI (σ c j)))
  else .inl (cxY X (kd - 20), n, .inr (.inr (.inr (.inr (fun j => some (cxA X (c + 1 + (if kd = 23 then 1 else 3) * j)))))))
def cont (X : Cx) (σ : Sg) (c : Nat) : va_E := contK X σ c (shp c).1 (shp c).2
def wl (X : Cx) (σ : Sg) : va_W := (List.range 99).map (fun c => (cxA X c, cont X σ c))
def tys (X : Cx) : List (ClassId × FieldType) := [(cxY X 0, .int), (cxY X 1, .boolean), (cxY X 2, .char), (cxY X 3, .array .int), (cxY X 4, .object "GreenDoor$Saying")]
def AX (X : Cx) : Nat → Prop := fun q => ∃ c, c < 99 ∧ q = cxA X c
def DX (X : Cx) : Prop := ∀ i j, i < 99 → j < 99 → cxA X i = cxA X j → i = j
def World (X : Cx) (σ : Sg) (s : State) (H : Heap) : Prop := va_P (cxD X) vwCl (wl X σ) H ∧ va_K (cxD X) vwCl (tys X) s ∧ DX X ∧ Rng σ
def stn : Nat → String × String
  | 0 => ("GreenDoor$Scene", "LEAST_LOOK")
  | 1 => ("GreenDoor$Scene", "GREATEST_LOOK")
  | 2 => ("GreenDoor$Words", "NUMBERS")
  | 3 => ("GreenDoor$Words", "PARTS")
  | 4 => ("GreenDoor$Words", "FIRST_LIKE")
  | _ => ("GreenDoor$Words", "LAST_LIKE")
def stv : Nat → List Int
  | 0 => [0, 0, 1, 0]
  | 1 => [3, 3, 9, 7]
  | 2 => [0, 4, 4, 3, 0, 0, 0, 0, 0, 0, 0, 0, 0, 0, 0]
  | 3 => [0, 0, 0, 0, 1, 2, 2, 2, 1, 1, 1, 1, 1, 1, 1]
  | 4 => [0, 1, 2, 3, 4, 5, 5, 5, 8, 8, 10, 10, 12, 12, 14]
  | _ => [0, 1, 2, 3, 4, 7, 7, 7, 9, 9, 11, 11, 13, 13, 14]
def namL : List Int32 := [97, 108, 108, 32, 32, 32, 32, 32, 107, 105, 110, 100, 32, 32, 32, 32, 99, 111, 108, 111, 117, 114, 32, 32, 109, 97, 114, 107, 32, 32, 32, 32, 110, 111, 116, 32, 32, 32, 32, 32, 97, 110, 100, 32, 32, 32, 32, 32, 111, 114, 32, 32, 32, 32, 32, 32, 98, 117, 116, 32, 32, 32, 32, 32, 98, 101, 115, 105, 100, 101, 32, 32, 116, 105, 101, 100, 32, 32, 32, 32, 109, 111, 115, 116, 32, 32, 32, 32, 108, 101, 97, 115, 116, 32, 32, 32, 108, 101, 102, 116, 109, 111, 115, 116, 115, 101, 99, 111, 110, 100, 32, 32, 111, 110, 108, 121, 32, 32, 32, 32]
/-- what was there before the world was made: the static rows, the text of the words' names, the script -/
def Stc (X : Cx) (A : Nat → Prop) (s : State) (H : Heap) : Prop :=
  (∀ k, k < 6 → va_Z (stn k).1 (stn k).2 "[B" (.ref (cxT X k)) A s H ∧ va_T .byte (cxT X k) (stv k).length (fun j => .int (gI ((stv k).getD j 0))) A s H) ∧
  (va_X (cxB X) (cxN X) (cxS X) s H ∧ ¬ A (cxB X) ∧ cxB X < H.size) ∧
  (∃ tx, vk_R "GreenDoor$Words" 33 tx (cxT X 6) s) ∧ vk_S 1 [120] [namL] (fun _ => cxT X 6) (fun _ => cxT X 7) A s H ∧
  va_Z "java/lang/String" "COMPACT_STRINGS" "Z" (.int 1) A s H ∧ va_Zq "jdk/internal/util/Preconditions" "SIOOBE_FORMATTER" "Ljava/util/function/BiFunction;" A s H ∧
  ∀ (a : String) (i : Nat) (x : MethodName) (h : String), Cond.methodLinkNest a i x h ∈ lw_tbl → va_Nw (.methodLinkNest a i x h) s
theorem Stc.kept {X : Cx} {A : Nat → Prop} {s : State} {H H1 : Heap} (h : Stc X A s H) (hz : H.size ≤ H1.size) (hq : ∀ a : Nat, a < H.size → ¬ A a → H1[a]? = H[a]?) : Stc X A s H1 := by
  obtain ⟨h1, ⟨h2, h3, h4⟩, h5, h6, h7, h8, h9⟩ := h
  exact ⟨fun k hk => ⟨(h1 k hk).1.kept hq, (h1 k hk).2.kept hq⟩, ⟨h2.kept (hq _ h4 h3), h3, Nat.lt_of_lt_of_le h4 hz⟩, h5, h6.kept hq, h7.kept hq, h8.kept hq, h9⟩
theorem Stc.warm {X : Cx} {A : Nat → Prop} {s U : State} {H : Heap} (hW : s.WarmedH U.vm) (h : Stc X A s H) : Stc X A U H := by
  obtain ⟨h1, ⟨h2, h3, h4⟩, ⟨tx, h5⟩, h6, h7, h8, h9⟩ := h
  exact ⟨fun k hk => ⟨(h1 k hk).1.moved hW.alike, (h1 k hk).2.moved hW.alike⟩, ⟨h2.moved hW.alike, h3, h4⟩, ⟨tx, h5.warm hW⟩, h6.moved hW.alike, h7.moved hW.alike, h8.moved hW.alike, fun a i x h q => (h9 a i x h q).warmM hW⟩
theorem Stc.narrow {X : Cx} {A B : Nat → Prop} {s : State} {H : Heap} (h : Stc X A s H) (hAB : ∀ q, B q → A q) : Stc X B s H := by
  obtain ⟨h1, ⟨h2, h3, h4⟩, h5, h6, h7, h8, h9⟩ := h
  exact ⟨fun k hk => ⟨(h1 k hk).1.narrow hAB, (h1 k hk).2.narrow hAB⟩, ⟨h2, fun q => h3 (hAB _ q), h4⟩, h5, h6.narrow hAB, h7.narrow hAB, h8.narrow hAB, h9⟩
theorem wl_get {X : Cx} {σ : Sg} {c : Nat} (h : c < 99) : (wl X σ)[c]? = some (cxA X c, cont X σ c) := by
  unfold wl
  rw [List.getElem?_map, List.getElem?_range h]
  rfl
theorem shp_lt {c : Nat} (h : (shp c).1 < 99) : c < 99 := by
  unfold shp at h
  rw [List.getD_eq_getElem?_getD] at h
  rcases Nat.lt_or_ge c 99 with q | q
  · exact q
  · rw [List.getElem?_eq_none (by exact q)] at h
    exact absurd h (Nat.lt_irrefl _)
theorem wl_D {X : Cx} {σ : Sg} {A : Nat → Prop} (h : DX X) (hA : ∀ q, AX X q → A q) : va_D A (wl X σ) := by
  have key : ∀ (i : Nat) (p : Nat × va_E), (wl X σ)[i]? = some p → i < 99 ∧ p.1 = cxA X i := by
    intro i p hp
    have hi : i < 99 := by
      have := (List.getElem?_eq_some_iff.mp hp).1
      simpa [wl] using this
    rw [wl_get hi] at hp
    exact ⟨hi, by rw [← Option.some.inj hp]⟩
  refine ⟨fun i j p q hp hq e => ?_, fun k q hq => ?_⟩
  · obtain ⟨hi, e1⟩ := key i p hp
    obtain ⟨hj, e2⟩ := key j q hq
    exact h i j hi hj (by rw [← e1, ← e2, e])
  · obtain ⟨hk, e1⟩ := key k q hq
    exact hA _ ⟨k, hk, e1⟩
theorem cont_obj {X : Cx} {σ : Sg} {c ci n : Nat} (h : shp c = (ci, n)) (hc : ci < 20) : cont X σ c = .inr (ci, fvs X σ c 0 (ofl ci)) := by
  unfold cont contK; rw [h]; exact if_pos hc
theorem cont_arr {X : Cx} {σ : Sg} {c ci n : Nat} (h : shp c = (ci, n)) (h1 : 20 ≤ ci) (h2 : ci < 23) : cont X σ c = .inl (cxY X (ci - 20), n, .inl (fun j => gI (σ c j))) := by
  unfold cont contK; rw [h]; rw [if_neg (Nat.not_lt.mpr h1)]; exact if_pos h2
theorem cont_ref {X : Cx} {σ : Sg} {c ci n : Nat} (h : shp c = (ci, n)) (h1 : 23 ≤ ci) : cont X σ c = .inl (cxY X (ci - 20), n, .inr (.inr (.inr (.inr (fun j => some (cxA X (c + 1 + (if ci = 23 then 1 else 3) * j))))))) := by
  unfold cont contK; rw [h]; rw [if_neg (show ¬ ci < 20 by omega)]; exact if_neg (show ¬ ci < 23 by omega)
theorem fvs_get {X : Cx} {σ : Sg} {c : Nat} : ∀ (L : List Nat) (k0 k t : Nat), L[k]? = some t → (fvs X σ c k0 L)[k]? = some (fval X σ c (k0 + k) t)
  | [], _, _, _, h => by simp at h
  | t :: ts, k0, 0, t', h => by simp at h; subst h; rfl
  | t :: ts, k0, k + 1, t', h => by
    have h' : ts[k]? = some t' := by simpa using h
    have := fvs_get (X := X) (σ := σ) (c := c) ts (k0 + 1) k t' h'
    show (fvs X σ c (k0 + 1) ts)[k]? = _
    rw [this, show k0 + 1 + k = k0 + (k + 1) by omega]
theorem fvs_len {X : Cx} {σ : Sg} {c : Nat} : ∀ (L : List Nat) (k0 : Nat), (fvs X σ c k0 L).length = L.length
  | [], _ => rfl
  | _ :: ts, k0 => by show (fvs X σ c (k0 + 1) ts).length + 1 = _; rw [fvs_len ts]; rfl
theorem fval_ne {X : Cx} {σ : Sg} {c k k' : Nat} (x : Int) (h : k' ≠ k) : ∀ t, fval X (up2 σ c k x) c k' t = fval X σ c k' t
  | 0 => by show Value.int (gI (up2 σ c k x c k')) = _; rw [up2_nk σ x h]; rfl
  | 1 => by show Value.long (gJ (up2 σ c k x c k')) = _; rw [up2_nk σ x h]; rfl
  | _ + 2 => rfl
theorem fvs_off {X : Cx} {σ : Sg} {c k : Nat} (x : Int) : ∀ (L : List Nat) (k0 : Nat), k < k0 → fvs X (up2 σ c k x) c k0 L = fvs X σ c k0 L
  | [], _, _ => rfl
  | t :: ts, k0, h => by
    show fval X (up2 σ c k x) c k0 t :: fvs X (up2 σ c k x) c (k0 + 1) ts = fval X σ c k0 t :: fvs X σ c (k0 + 1) ts
    rw [fval_ne x (by omega), fvs_off x ts (k0 + 1) (by omega)]
theorem fvs_set {X : Cx} {σ : Sg} {c : Nat} (x : Int) : ∀ (L : List Nat) (k0 k t : Nat), L[k]? = some t → (fvs X σ c k0 L).set k (fval X (up2 σ c (k0 + k) x) c (k0 + k) t) = fvs X (up2 σ c (k0 + k) x) c k0 L
  | [], _, _, _, h => by simp at h
  | t :: ts, k0, 0, t', h => by
    simp at h; subst h
    show fval X (up2 σ c (k0 + 0) x) c (k0 + 0) t :: fvs X σ c (k0 + 1) ts = fval X (up2 σ c (k0 + 0) x) c k0 t :: fvs X (up2 σ c (k0 + 0) x) c (k0 + 1) ts
    rw [fvs_off x ts (k0 + 1) (by omega)]
    rfl
  | t :: ts, k0, k + 1, t', h => by
    have h' : ts[k]? = some t' := by simpa using h
    have := fvs_set (X := X) (σ := σ) (c := c) x ts (k0 + 1) k t' h'
    rw [show k0 + 1 + k = k0 + (k + 1) by omega] at this
    show fval X σ c k0 t :: (fvs X σ c (k0 + 1) ts).set k _ = fval X (up2 σ c (k0 + (k + 1)) x) c k0 t :: fvs X (up2 σ c (k0 + (k + 1)) x) c (k0 + 1) ts
    rw [this, fval_ne x (by omega)]
theorem fvs_ext {X : Cx} {σ σ' : Sg} {c : Nat} (h : ∀ k, σ' c k = σ c k) : ∀ (L : List Nat) (k0 : Nat), fvs X σ' c k0 L = fvs X σ c k0 L
  | [], _ => rfl
  | t :: ts, k0 => by
    show fval X σ' c k0 t :: fvs X σ' c (k0 + 1) ts = fval X σ c k0 t :: fvs X σ c (k0 + 1) ts
    rw [fvs_ext h ts (k0 + 1)]
    congr 1
    match t with
    | 0 => show Value.int _ = Value.int _; rw [h]
    | 1 => show Value.long _ = Value.long _; rw [h]
    | _ + 2 => rfl
theorem cont_ext {X : Cx} {σ σ' : Sg} {c : Nat} (h : ∀ k, σ' c k = σ c k) : cont X σ' c = cont X σ c := by
  unfold cont contK
  rw [fvs_ext h]
  simp only [h]
theorem wl_set {X : Cx} {σ σ' : Sg} {c : Nat} (hc : c < 99) (h : ∀ c' k, c' ≠ c → σ' c' k = σ c' k) : (wl X σ).set c (cxA X c, cont X σ' c) = wl X σ' := by
  apply List.ext_getElem?
  intro i
  rw [List.getElem?_set]
  by_cases e : c = i
  · subst e
    rw [if_pos rfl, if_pos (by simpa [wl] using hc), wl_get hc]
  · rw [if_neg e]
    by_cases hi : i < 99
    · rw [wl_get hi, wl_get hi, cont_ext (fun k => h i k (fun q => e q.symm))]
    · rw [List.getElem?_eq_none (by simp [wl]; omega), List.getElem?_eq_none (by simp [wl]; omega)]
theorem Rng.up {σ : Sg} (h : Rng σ) {c k : Nat} {x : Int} (hx : inI x) : Rng (up2 σ c k x) := by
  refine ⟨fun c' k' hn => ?_, ?_⟩
  · unfold up2
    split
    · exact hx
    · exact h.1 c' k' hn
  · unfold up2
    split
    · exact ⟨by omega, by omega⟩
    · exact h.2
theorem Rng.upJ {σ : Sg} (h : Rng σ) {x : Int} (hx : inJ x) : Rng (up2 σ 69 12 x) := by
  refine ⟨fun c' k' hn => ?_, ?_⟩
  · unfold up2
    rw [if_neg hn]
    exact h.1 c' k' hn
  · unfold up2
    exact hx
def gdT : List Cond := lw_tbl.filter goodWord
def wsM (M : MI) : List Cond := Cond.code M.1 M.2.1 M.2.2.1 M.2.2.2.1 :: gdT
/-- what stays the same all along a method's walk -/
def VC (X : Cx) (M : MI) (p : Program) (s : State) (m : MethodId) (args : Array Value) (meth : Method) (c : Code) (A : Nat → Prop) (cells slots : Nat) : Prop :=
  p.tables.exec = Jvm.exec ∧ c.code = M.2.1 ∧ c.maxLocals = M.2.2.1 ∧ meth.sig.returnType = M.2.2.2.1 ∧ meth.locks = false ∧ s.vm.findClass M.1.cls = some m.cls ∧ (∀ w ∈ gdT, w.before args s = true) ∧ (∀ q, AX X q → A q) ∧ Stc X A s s.heap ∧ cells ≤ M.2.2.2.2.cells ∧ slots ≤ M.2.2.2.2.slots
def retv (X : Cx) (ret : Option FieldType) (r : Int) : Option Value := match ret with
  | none => none
  | some (.object _) => some (.ref (cxA X r.toNat))
  | some _ => some (.int (gI r))
def retOK (M : MI) (pc : Nat) (r : Int) : Prop := match M.2.2.2.1 with
  | none => decode M.2.1 pc = .ok (.return_, 1)
  | some (.object _) => decode M.2.1 pc = .ok (.areturn, 1)
  | some ty => decode M.2.1 pc = .ok (.ireturn, 1) ∧ narrow ty (.int (gI r)) = .int (gI r)
def VV (X : Cx) (M : MI) (pc : Nat) (L : List (Nat × Value)) (st : List Value) (σ : Sg) (Q : Int → Sg → Prop) : Prop :=
  ∀ (p : Program) (e : Env) (s : State) (m : MethodId) (args : Array Value) (below : List Frame) (meth : Method) (c : Code) (A : Nat → Prop) (cells slots : Nat) (Z : State → Prop), VC X M p s m args meth c A cells slots →
    (∀ (r : Int) (σ' : Sg) (H' : Heap) (locs' : List Loc) (pc' : Nat) (ls' : Array Slot), Q r σ' → World X σ' s H' → va_S A s.heap H' locs' → retOK M pc' r → W p (cxL X) e M.2.2.2.2 s m args below meth c H' locs' cells slots Z (F0 m pc' ls' (retv X M.2.2.2.1 r).toList)) →
    ∀ (H : Heap) (locs : List Loc) (ls : Array Slot), World X σ s H → va_S A s.heap H locs → lv_has ls M.2.2.1 L → W p (cxL X) e M.2.2.2.2 s m args below meth c H locs cells slots Z (F0 m pc ls st)
theorem VV.mono {X : Cx} {M : MI} {pc : Nat} {L : List (Nat × Value)} {st : List Value} {σ : Sg} {Q Q' : Int → Sg → Prop} (h : VV X M pc L st σ Q) (hq : ∀ r σ', Q r σ' → Q' r σ') : VV X M pc L st σ Q' := by
  intro p e s m args below meth c A cells slots Z C hz
  exact h p e s m args below meth c A cells slots Z C (fun r σ' H' locs' pc' ls' q => hz r σ' H' locs' pc' ls' (hq r σ' q))
theorem V_rng {X : Cx} {M : MI} {pc : Nat} {L : List (Nat × Value)} {st : List Value} {σ : Sg} {Q : Int → Sg → Prop} (h : Rng σ → VV X M pc L st σ Q) : VV X M pc L st σ Q := by
  intro p e s m args below meth c A cells slots Z C hz H locs ls Wd S hl
  exact h Wd.2.2.2 p e s m args below meth c A cells slots Z C hz H locs ls Wd S hl
theorem V_sub {X : Cx} {M : MI} {pc : Nat} {L L' : List (Nat × Value)} {st : List Value} {σ : Sg} {Q : Int → Sg → Prop} (ks : List Nat) (hs : lv_pick L ks = L') (h : VV X M pc L' st σ Q) : VV X M pc L st σ Q := by
  intro p e s m args below meth c A cells slots Z C hz H locs ls Wd S hl
  exact h p e s m args below meth c A cells slots Z C hz H locs ls Wd S (lv_sub hl ks hs)
theorem V_iconst {X : Cx} {M : MI} {pc : Nat} {L : List (Nat × Value)} {st : List Value} {σ : Sg} {Q : Int → Sg → Prop} {n : Int} (hd : decode M.2.1 pc = .ok (.iconst n, 1)) (k : VV X M (pc + 1) L (.int (gI n) :: st) σ Q) : VV X M pc L (st) σ Q := by
  intro p e s m args below meth c A cells slots Z C hz H locs ls Wd S hl
  refine lv_iconst C.1 C.2.1 hd rfl ?_
  exact k p e s m args below meth c A cells slots Z C hz H locs ls Wd S hl
theorem V_bipush {X : Cx} {M : MI} {pc : Nat} {L : List (Nat × Value)} {st : List Value} {σ : Sg} {Q : Int → Sg → Prop} {n v : Int} (hv : (Int8.ofInt n).toInt32 = gI v) (hd : decode M.2.1 pc = .ok (.bipush n, 2)) (k : VV X M (pc + 2) L (.int (gI v) :: st) σ Q) : VV X M pc L (st) σ Q := by
  intro p e s m args below meth c A cells slots Z C hz H locs ls Wd S hl
  refine lv_bipush C.1 C.2.1 hd hv ?_
  exact k p e s m args below meth c A cells slots Z C hz H locs ls Wd S hl
theorem V_sipush {X : Cx} {M : MI} {pc : Nat} {L : List (Nat × Value)} {st : List Value} {σ : Sg} {Q : Int → Sg → Prop} {n v : Int} (hv : (Int16.ofInt n).toInt32 = gI v) (hd : decode M.2.1 pc = .ok (.sipush n, 3)) (k : VV X M (pc + 3) L (.int (gI v) :: st) σ Q) : VV X M pc L (st) σ Q := by
  intro p e s m args below meth c A cells slots Z C hz H locs ls Wd S hl
  refine lv_sipush C.1 C.2.1 hd hv ?_
  exact k p e s m args below meth c A cells slots Z C hz H locs ls Wd S hl
theorem V_lconst {X : Cx} {M : MI} {pc : Nat} {L : List (Nat × Value)} {st : List Value} {σ : Sg} {Q : Int → Sg → Prop} {n : Fin 2} {v : Int} (hv : Int64.ofNat (n : Nat) = gJ v) (hd : decode M.2.1 pc = .ok (.lconst n, 1)) (k : VV X M (pc + 1) L (.long (gJ v) :: st) σ Q) : VV X M pc L (st) σ Q := by
  intro p e s m args below meth c A cells slots Z C hz H locs ls Wd S hl
  refine lv_lconst C.1 C.2.1 hd hv ?_
  exact k p e s m args below meth c A cells slots Z C hz H locs ls Wd S hl
theorem V_iload_n {X : Cx} {M : MI} {pc : Nat} {L : List (Nat × Value)} {st : List Value} {σ : Sg} {Q : Int → Sg → Prop} {q : Fin 4} {i : Nat} {x : Int} (j : Nat) (hi : (q : Nat) = i) (hj : L[j]? = some (i, .int (gI x))) (hd : decode M.2.1 pc = .ok (.iload_n q, 1)) (k : VV X M (pc + 1) L (.int (gI x) :: st) σ Q) : VV X M pc L (st) σ Q := by
  intro p e s m args below meth c A cells slots Z C hz H locs ls Wd S hl
  refine lv_iload_n C.1 C.2.1 hd hi (lv_at hl j hj) ?_
  exact k p e s m args below meth c A cells slots Z C hz H locs ls Wd S hl
theorem V_iload {X : Cx} {M : MI} {pc : Nat} {L : List (Nat × Value)} {st : List Value} {σ : Sg} {Q : Int → Sg → Prop} {i : Nat} {x : Int} (j : Nat) (hj : L[j]? = some (i, .int (gI x))) (hd : decode M.2.1 pc = .ok (.iload i, 2)) (k : VV X M (pc + 2) L (.int (gI x) :: st) σ Q) : VV X M pc L (st) σ Q := by
  intro p e s m args below meth c A cells slots Z C hz H locs ls Wd S hl
  refine lv_iload C.1 C.2.1 hd (lv_at hl j hj) ?_
  exact k p e s m args below meth c A cells slots Z C hz H locs ls Wd S hl
theorem V_lload_n {X : Cx} {M : MI} {pc : Nat} {L : List (Nat × Value)} {st : List Value} {σ : Sg} {Q : Int → Sg → Prop} {q : Fin 4} {i : Nat} {x : Int} (j : Nat) (hi : (q : Nat) = i) (hj : L[j]? = some (i, .long (gJ x))) (hd : decode M.2.1 pc = .ok (.lload_n q, 1)) (k : VV X M (pc + 1) L (.long (gJ x) :: st) σ Q) : VV X M pc L (st) σ Q := by
  intro p e s m args below meth c A cells slots Z C hz H locs ls Wd S hl
  refine lv_lload_n C.1 C.2.1 hd hi (lv_at hl j hj) ?_
  exact k p e s m args below meth c A cells slots Z C hz H locs ls Wd S hl
theorem V_lload {X : Cx} {M : MI} {pc : Nat} {L : List (Nat × Value)} {st : List Value} {σ : Sg} {Q : Int → Sg → Prop} {i : Nat} {x : Int} (j : Nat) (hj : L[j]? = some (i, .long (gJ x))) (hd : decode M.2.1 pc = .ok (.lload i, 2)) (k : VV X M (pc + 2) L (.long (gJ x) :: st) σ Q) : VV X M pc L (st) σ Q := by
  intro p e s m args below meth c A cells slots Z C hz H locs ls Wd S hl
  refine lv_lload C.1 C.2.1 hd (lv_at hl j hj) ?_
  exact k p e s m args below meth c A cells slots Z C hz H locs ls Wd S hl
theorem V_aload_n {X : Cx} {M : MI} {pc : Nat} {L : List (Nat × Value)} {st : List Value} {σ : Sg} {Q : Int → Sg → Prop} {q : Fin 4} {i : Nat} {x : Nat} (j : Nat) (hi : (q : Nat) = i) (hj : L[j]? = some (i, .ref x)) (hd : decode M.2.1 pc = .ok (.aload_n q, 1)) (k : VV X M (pc + 1) L (.ref x :: st) σ Q) : VV X M pc L (st) σ Q := by
  intro p e s m args below meth c A cells slots Z C hz H locs ls Wd S hl
  refine lv_aload_n C.1 C.2.1 hd hi (lv_at hl j hj) ?_
  exact k p e s m args below meth c A cells slots Z C hz H locs ls Wd S hl
theorem V_aload {X : Cx} {M : MI} {pc : Nat} {L : List (Nat × Value)} {st : List Value} {σ : Sg} {Q : Int → Sg → Prop} {i : Nat} {x : Nat} (j : Nat) (hj : L[j]? = some (i, .ref x)) (hd : decode M.2.1 pc = .ok (.aload i, 2)) (k : VV X M (pc + 2) L (.ref x :: st) σ Q) : VV X M pc L (st) σ Q := by
  intro p e s m args below meth c A cells slots Z C hz H locs ls Wd S hl
  refine lv_aload C.1 C.2.1 hd (lv_at hl j hj) ?_
  exact k p e s m args below meth c A cells slots Z C hz H locs ls Wd S hl
theorem V_iadd {X : Cx} {M : MI} {pc : Nat} {L : List (Nat × Value)} {st : List Value} {σ : Sg} {Q : Int → Sg → Prop} {x y : Int} (hd : decode M.2.1 pc = .ok (.iadd, 1)) (k : VV X M (pc + 1) L (.int (gI (x + y)) :: st) σ Q) : VV X M pc L (.int (gI y) :: .int (gI x) :: st) σ Q := by
  intro p e s m args below meth c A cells slots Z C hz H locs ls Wd S hl
  refine lv_iadd C.1 C.2.1 hd ?_
  rw [← gI_add]
  exact k p e s m args below meth c A cells slots Z C hz H locs ls Wd S hl
theorem V_isub {X : Cx} {M : MI} {pc : Nat} {L : List (Nat × Value)} {st : List Value} {σ : Sg} {Q : Int → Sg → Prop} {x y : Int} (hd : decode M.2.1 pc = .ok (.isub, 1)) (k : VV X M (pc + 1) L (.int (gI (x - y)) :: st) σ Q) : VV X M pc L (.int (gI y) :: .int (gI x) :: st) σ Q := by
  intro p e s m args below meth c A cells slots Z C hz H locs ls Wd S hl
  refine lv_isub C.1 C.2.1 hd ?_
  rw [← gI_sub]
  exact k p e s m args below meth c A cells slots Z C hz H locs ls Wd S hl
theorem V_imul {X : Cx} {M : MI} {pc : Nat} {L : List (Nat × Value)} {st : List Value} {σ : Sg} {Q : Int → Sg → Prop} {x y : Int} (hd : decode M.2.1 pc = .ok (.imul, 1)) (k : VV X M (pc + 1) L (.int (gI (x * y)) :: st) σ Q) : VV X M pc L (.int (gI y) :: .int (gI x) :: st) σ Q := by
  intro p e s m args below meth c A cells slots Z C hz H locs ls Wd S hl
  refine lv_imul C.1 C.2.1 hd ?_
  rw [← gI_mul]
  exact k p e s m args below meth c A cells slots Z C hz H locs ls Wd S hl
theorem V_iand {X : Cx} {M : MI} {pc : Nat} {L : List (Nat × Value)} {st : List Value} {σ : Sg} {Q : Int → Sg → Prop} {x y : Int} (hd : decode M.2.1 pc = .ok (.iand, 1)) (k : VV X M (pc + 1) L (.int (gI (zand x y)) :: st) σ Q) : VV X M pc L (.int (gI y) :: .int (gI x) :: st) σ Q := by
  intro p e s m args below meth c A cells slots Z C hz H locs ls Wd S hl
  refine lv_iand C.1 C.2.1 hd ?_
  rw [show gI x &&& gI y = gI (zand x y) from (gI_of _).symm]
  exact k p e s m args below meth c A cells slots Z C hz H locs ls Wd S hl
theorem V_ior {X : Cx} {M : MI} {pc : Nat} {L : List (Nat × Value)} {st : List Value} {σ : Sg} {Q : Int → Sg → Prop} {x y : Int} (hd : decode M.2.1 pc = .ok (.ior, 1)) (k : VV X M (pc + 1) L (.int (gI (zor x y)) :: st) σ Q) : VV X M pc L (.int (gI y) :: .int (gI x) :: st) σ Q := by
  intro p e s m args below meth c A cells slots Z C hz H locs ls Wd S hl
  refine lv_ior C.1 C.2.1 hd ?_
  rw [show gI x ||| gI y = gI (zor x y) from (gI_of _).symm]
  exact k p e s m args below meth c A cells slots Z C hz H locs ls Wd S hl
theorem V_ixor {X : Cx} {M : MI} {pc : Nat} {L : List (Nat × Value)} {st : List Value} {σ : Sg} {Q : Int → Sg → Prop} {x y : Int} (hd : decode M.2.1 pc = .ok (.ixor, 1)) (k : VV X M (pc + 1) L (.int (gI (zxor x y)) :: st) σ Q) : VV X M pc L (.int (gI y) :: .int (gI x) :: st) σ Q := by
  intro p e s m args below meth c A cells slots Z C hz H locs ls Wd S hl
  refine lv_ixor C.1 C.2.1 hd ?_
  rw [show gI x ^^^ gI y = gI (zxor x y) from (gI_of _).symm]
  exact k p e s m args below meth c A cells slots Z C hz H locs ls Wd S hl
theorem V_ishl {X : Cx} {M : MI} {pc : Nat} {L : List (Nat × Value)} {st : List Value} {σ : Sg} {Q : Int → Sg → Prop} {x y : Int} (hd : decode M.2.1 pc = .ok (.ishl, 1)) (k : VV X M (pc + 1) L (.int (gI (zshl x y)) :: st) σ Q) : VV X M pc L (.int (gI y) :: .int (gI x) :: st) σ Q := by
  intro p e s m args below meth c A cells slots Z C hz H locs ls Wd S hl
  refine lv_ishl C.1 C.2.1 hd ?_
  rw [show gI x <<< (gI y &&& 31) = gI (zshl x y) from (gI_of _).symm]
  exact k p e s m args below meth c A cells slots Z C hz H locs ls Wd S hl
theorem V_ishr {X : Cx} {M : MI} {pc : Nat} {L : List (Nat × Value)} {st : List Value} {σ : Sg} {Q : Int → Sg → Prop} {x y : Int} (hd : decode M.2.1 pc = .ok (.ishr, 1)) (k : VV X M (pc + 1) L (.int (gI (zshr x y)) :: st) σ Q) : VV X M pc L (.int (gI y) :: .int (gI x) :: st) σ Q := by
  intro p e s m args below meth c A cells slots Z C hz H locs ls Wd S hl
  refine lv_ishr C.1 C.2.1 hd ?_
  rw [show gI x >>> (gI y &&& 31) = gI (zshr x y) from (gI_of _).symm]
  exact k p e s m args below meth c A cells slots Z C hz H locs ls Wd S hl
theorem V_iushr {X : Cx} {M : MI} {pc : Nat} {L : List (Nat × Value)} {st : List Value} {σ : Sg} {Q : Int → Sg → Prop} {x y : Int} (hd : decode M.2.1 pc = .ok (.iushr, 1)) (k : VV X M (pc + 1) L (.int (gI (zushr x y)) :: st) σ Q) : VV X M pc L (.int (gI y) :: .int (gI x) :: st) σ Q := by
  intro p e s m args below meth c A cells slots Z C hz H locs ls Wd S hl
  refine lv_iushr C.1 C.2.1 hd (gI_of _).symm ?_
  exact k p e s m args below meth c A cells slots Z C hz H locs ls Wd S hl
theorem V_idiv {X : Cx} {M : MI} {pc : Nat} {L : List (Nat × Value)} {st : List Value} {σ : Sg} {Q : Int → Sg → Prop} {x y : Int} (h0 : inI y ∧ y ≠ 0) (hd : decode M.2.1 pc = .ok (.idiv, 1)) (k : VV X M (pc + 1) L (.int (gI (zdiv x y)) :: st) σ Q) : VV X M pc L (.int (gI y) :: .int (gI x) :: st) σ Q := by
  intro p e s m args below meth c A cells slots Z C hz H locs ls Wd S hl
  refine lv_idiv C.1 C.2.1 hd (fun q => h0.2 ((gI_eq h0.1 inI_0).mp (q.trans gI_0.symm))) ?_
  rw [show gI x / gI y = gI (zdiv x y) from (gI_of _).symm]
  exact k p e s m args below meth c A cells slots Z C hz H locs ls Wd S hl
theorem V_irem {X : Cx} {M : MI} {pc : Nat} {L : List (Nat × Value)} {st : List Value} {σ : Sg} {Q : Int → Sg → Prop} {x y : Int} (h0 : inI y ∧ y ≠ 0) (hd : decode M.2.1 pc = .ok (.irem, 1)) (k : VV X M (pc + 1) L (.int (gI (zrem x y)) :: st) σ Q) : VV X M pc L (.int (gI y) :: .int (gI x) :: st) σ Q := by
  intro p e s m args below meth c A cells slots Z C hz H locs ls Wd S hl
  refine lv_irem C.1 C.2.1 hd (fun q => h0.2 ((gI_eq h0.1 inI_0).mp (q.trans gI_0.symm))) ?_
  rw [show gI x - gI x / gI y * gI y = gI (zrem x y) from (gI_of _).symm]
  exact k p e s m args below meth c A cells slots Z C hz H locs ls Wd S hl
theorem V_ladd {X : Cx} {M : MI} {pc : Nat} {L : List (Nat × Value)} {st : List Value} {σ : Sg} {Q : Int → Sg → Prop} {x y : Int} (hd : decode M.2.1 pc = .ok (.ladd, 1)) (k : VV X M (pc + 1) L (.long (gJ (x + y)) :: st) σ Q) : VV X M pc L (.long (gJ y) :: .long (gJ x) :: st) σ Q := by
  intro p e s m args below meth c A cells slots Z C hz H locs ls Wd S hl
  refine lv_ladd C.1 C.2.1 hd ?_
  rw [← gJ_add]
  exact k p e s m args below meth c A cells slots Z C hz H locs ls Wd S hl
theorem V_lsub {X : Cx} {M : MI} {pc : Nat} {L : List (Nat × Value)} {st : List Value} {σ : Sg} {Q : Int → Sg → Prop} {x y : Int} (hd : decode M.2.1 pc = .ok (.lsub, 1)) (k : VV X M (pc + 1) L (.long (gJ (x - y)) :: st) σ Q) : VV X M pc L (.long (gJ y) :: .long (gJ x) :: st) σ Q := by
  intro p e s m args below meth c A cells slots Z C hz H locs ls Wd S hl
  refine lv_lsub C.1 C.2.1 hd ?_
  rw [← gJ_sub]
  exact k p e s m args below meth c A cells slots Z C hz H locs ls Wd S hl
theorem V_lmul {X : Cx} {M : MI} {pc : Nat} {L : List (Nat × Value)} {st : List Value} {σ : Sg} {Q : Int → Sg → Prop} {x y : Int} (hd : decode M.2.1 pc = .ok (.lmul, 1)) (k : VV X M (pc + 1) L (.long (gJ (x * y)) :: st) σ Q) : VV X M pc L (.long (gJ y) :: .long (gJ x) :: st) σ Q := by
  intro p e s m args below meth c A cells slots Z C hz H locs ls Wd S hl
  refine lv_lmul C.1 C.2.1 hd ?_
  rw [← gJ_mul]
  exact k p e s m args below meth c A cells slots Z C hz H locs ls Wd S hl
theorem V_land {X : Cx} {M : MI} {pc : Nat} {L : List (Nat × Value)} {st : List Value} {σ : Sg} {Q : Int → Sg → Prop} {x y : Int} (hd : decode M.2.1 pc = .ok (.land, 1)) (k : VV X M (pc + 1) L (.long (gJ (jand x y)) :: st) σ Q) : VV X M pc L (.long (gJ y) :: .long (gJ x) :: st) σ Q := by
  intro p e s m args below meth c A cells slots Z C hz H locs ls Wd S hl
  refine lv_land C.1 C.2.1 hd ?_
  rw [show gJ x &&& gJ y = gJ (jand x y) from (gJ_of _).symm]
  exact k p e s m args below meth c A cells slots Z C hz H locs ls Wd S hl
theorem V_lor {X : Cx} {M : MI} {pc : Nat} {L : List (Nat × Value)} {st : List Value} {σ : Sg} {Q : Int → Sg → Prop} {x y : Int} (hd : decode M.2.1 pc = .ok (.lor, 1)) (k : VV X M (pc + 1) L (.long (gJ (jor x y)) :: st) σ Q) : VV X M pc L (.long (gJ y) :: .long (gJ x) :: st) σ Q := by
  intro p e s m args below meth c A cells slots Z C hz H locs ls Wd S hl
  refine lv_lor C.1 C.2.1 hd ?_
  rw [show gJ x ||| gJ y = gJ (jor x y) from (gJ_of _).symm]
  exact k p e s m args below meth c A cells slots Z C hz H locs ls Wd S hl
theorem V_lshl {X : Cx} {M : MI} {pc : Nat} {L : List (Nat × Value)} {st : List Value} {σ : Sg} {Q : Int → Sg → Prop} {x y : Int} (hd : decode M.2.1 pc = .ok (.lshl, 1)) (k : VV X M (pc + 1) L (.long (gJ (jshl x y)) :: st) σ Q) : VV X M pc L (.int (gI y) :: .long (gJ x) :: st) σ Q := by
  intro p e s m args below meth c A cells slots Z C hz H locs ls Wd S hl
  refine lv_lshl C.1 C.2.1 hd (gJ_of _).symm ?_
  exact k p e s m args below meth c A cells slots Z C hz H locs ls Wd S hl
theorem V_lshr {X : Cx} {M : MI} {pc : Nat} {L : List (Nat × Value)} {st : List Value} {σ : Sg} {Q : Int → Sg → Prop} {x y : Int} (hd : decode M.2.1 pc = .ok (.lshr, 1)) (k : VV X M (pc + 1) L (.long (gJ (jshr x y)) :: st) σ Q) : VV X M pc L (.int (gI y) :: .long (gJ x) :: st) σ Q := by
  intro p e s m args below meth c A cells slots Z C hz H locs ls Wd S hl
  refine lv_lshr C.1 C.2.1 hd (gJ_of _).symm ?_
  exact k p e s m args below meth c A cells slots Z C hz H locs ls Wd S hl
theorem V_l2i {X : Cx} {M : MI} {pc : Nat} {L : List (Nat × Value)} {st : List Value} {σ : Sg} {Q : Int → Sg → Prop} {x : Int} (hd : decode M.2.1 pc = .ok (.l2i, 1)) (k : VV X M (pc + 1) L (.int (gI (jtoi x)) :: st) σ Q) : VV X M pc L (.long (gJ x) :: st) σ Q := by
  intro p e s m args below meth c A cells slots Z C hz H locs ls Wd S hl
  refine lv_l2i C.1 C.2.1 hd (gI_of _).symm ?_
  exact k p e s m args below meth c A cells slots Z C hz H locs ls Wd S hl
theorem gI_long {x : Int} (h : inI x) : (gI x).toInt64 = gJ x := by
  have : (gI x).toInt64.toInt = x := by rw [Int32.toInt_toInt64, gI_to h]
  rw [← gJ_of (gI x).toInt64, this]
theorem V_i2l {X : Cx} {M : MI} {pc : Nat} {L : List (Nat × Value)} {st : List Value} {σ : Sg} {Q : Int → Sg → Prop} {x : Int} (h0 : inI x) (hd : decode M.2.1 pc = .ok (.i2l, 1)) (k : VV X M (pc + 1) L (.long (gJ x) :: st) σ Q) : VV X M pc L (.int (gI x) :: st) σ Q := by
  intro p e s m args below meth c A cells slots Z C hz H locs ls Wd S hl
  refine lv_i2l C.1 C.2.1 hd (gI_long h0) ?_
  exact k p e s m args below meth c A cells slots Z C hz H locs ls Wd S hl
theorem gI_char : ∀ n : Nat, n < 256 → ((gI n).toUInt32 % 65536).toInt32 = gI n := by decide +kernel
theorem gI_char' {x : Int} (h0 : 0 ≤ x) (h1 : x < 256) : ((gI x).toUInt32 % 65536).toInt32 = gI x := by
  have := gI_char x.toNat (by omega)
  rwa [Int.toNat_of_nonneg h0] at this
theorem V_i2c {X : Cx} {M : MI} {pc : Nat} {L : List (Nat × Value)} {st : List Value} {σ : Sg} {Q : Int → Sg → Prop} {x : Int} (h0 : 0 ≤ x ∧ x < 256) (hd : decode M.2.1 pc = .ok (.i2c, 1)) (k : VV X M (pc + 1) L (.int (gI x) :: st) σ Q) : VV X M pc L (.int (gI x) :: st) σ Q := by
  intro p e s m args below meth c A cells slots Z C hz H locs ls Wd S hl
  refine lv_i2c C.1 C.2.1 hd (gI_char' h0.1 h0.2) ?_
  exact k p e s m args below meth c A cells slots Z C hz H locs ls Wd S hl
theorem gJ_cmp {x y : Int} (hx : inJ x) (hy : inJ y) : lg_cmp (gJ x) (gJ y) = gI (jcmp x y) := by
  unfold jcmp
  rcases Int.lt_trichotomy x y with h | h | h
  · rw [if_pos h]
    have h1 : ¬ gJ y < gJ x := by rw [Int64.lt_iff_toInt_lt, gJ_to hx, gJ_to hy]; omega
    have h2 : ¬ gJ x = gJ y := fun q => by have := (gJ_eq hx hy).mp q; omega
    simp [lg_cmp, h1, h2, gI]
  · subst h
    simp [lg_cmp, gI]
  · have h1 : gJ y < gJ x := by rw [Int64.lt_iff_toInt_lt, gJ_to hx, gJ_to hy]; exact h
    rw [if_neg (by omega), if_neg (by omega)]
    simp [lg_cmp, h1, gI]
theorem V_lcmp {X : Cx} {M : MI} {pc : Nat} {L : List (Nat × Value)} {st : List Value} {σ : Sg} {Q : Int → Sg → Prop} {x y : Int} (hx : inJ x) (hy : inJ y) (hd : decode M.2.1 pc = .ok (.lcmp, 1)) (k : VV X M (pc + 1) L (.int (gI (jcmp x y)) :: st) σ Q) : VV X M pc L (.long (gJ y) :: .long (gJ x) :: st) σ Q := by
  intro p e s m args below meth c A cells slots Z C hz H locs ls Wd S hl
  refine W.lcmp C.1 C.2.1 hd ?_
  rw [gJ_cmp hx hy]
  exact k p e s m args below meth c A cells slots Z C hz H locs ls Wd S hl
theorem V_dup {X : Cx} {M : MI} {pc : Nat} {L : List (Nat × Value)} {st : List Value} {σ : Sg} {Q : Int → Sg → Prop} {v : Value} (hv : v.category = 1) (hd : decode M.2.1 pc = .ok (.dup, 1)) (k : VV X M (pc + 1) L (v :: v :: st) σ Q) : VV X M pc L (v :: st) σ Q := by
  intro p e s m args below meth c A cells slots Z C hz H locs ls Wd S hl
  refine lv_dup C.1 C.2.1 hd hv ?_
  exact k p e s m args below meth c A cells slots Z C hz H locs ls Wd S hl
theorem V_pop {X : Cx} {M : MI} {pc : Nat} {L : List (Nat × Value)} {st : List Value} {σ : Sg} {Q : Int → Sg → Prop} {v : Value} (hv : v.category = 1) (hd : decode M.2.1 pc = .ok (.pop, 1)) (k : VV X M (pc + 1) L (st) σ Q) : VV X M pc L (v :: st) σ Q := by
  intro p e s m args below meth c A cells slots Z C hz H locs ls Wd S hl
  refine lv_pop C.1 C.2.1 hd hv ?_
  exact k p e s m args below meth c A cells slots Z C hz H locs ls Wd S hl
theorem V_dup_x1 {X : Cx} {M : MI} {pc : Nat} {L : List (Nat × Value)} {st : List Value} {σ : Sg} {Q : Int → Sg → Prop} {v u : Value} (hv : v.category = 1) (hu : u.category = 1) (hd : decode M.2.1 pc = .ok (.dup_x1, 1)) (k : VV X M (pc + 1) L (v :: u :: v :: st) σ Q) : VV X M pc L (v :: u :: st) σ Q := by
  intro p e s m args below meth c A cells slots Z C hz H locs ls Wd S hl
  refine lv_dup_x1 C.1 C.2.1 hd hv hu ?_
  exact k p e s m args below meth c A cells slots Z C hz H locs ls Wd S hl
theorem V_dup_x2 {X : Cx} {M : MI} {pc : Nat} {L : List (Nat × Value)} {st : List Value} {σ : Sg} {Q : Int → Sg → Prop} {v u t : Value} (hv : v.category = 1) (hu : u.category = 1) (ht : t.category = 1) (hd : decode M.2.1 pc = .ok (.dup_x2, 1)) (k : VV X M (pc + 1) L (v :: u :: t :: v :: st) σ Q) : VV X M pc L (v :: u :: t :: st) σ Q := by
  intro p e s m args below meth c A cells slots Z C hz H locs ls Wd S hl
  refine lv_dup_x2 C.1 C.2.1 hd hv hu ht ?_
  exact k p e s m args below meth c A cells slots Z C hz H locs ls Wd S hl
theorem V_dup2 {X : Cx} {M : MI} {pc : Nat} {L : List (Nat × Value)} {st : List Value} {σ : Sg} {Q : Int → Sg → Prop} {v u : Value} (hv : v.category = 1) (hu : u.category = 1) (hd : decode M.2.1 pc = .ok (.dup2, 1)) (k : VV X M (pc + 1) L (v :: u :: v :: u :: st) σ Q) : VV X M pc L (v :: u :: st) σ Q := by
  intro p e s m args below meth c A cells slots Z C hz H locs ls Wd S hl
  refine lv_dup2_11 C.1 C.2.1 hd hv hu ?_
  exact k p e s m args below meth c A cells slots Z C hz H locs ls Wd S hl
theorem gI_eq0 {x : Int} (hx : inI x) : gI x = 0 ↔ x = 0 := by have := gI_eq hx inI_0; rwa [gI_0] at this
theorem gI_lt0 {x : Int} (hx : inI x) : gI x < 0 ↔ x < 0 := by have := gI_lt hx inI_0; rwa [gI_0] at this
theorem gI_gt0 {x : Int} (hx : inI x) : 0 < gI x ↔ 0 < x := by have := gI_lt inI_0 hx; rwa [gI_0] at this
theorem gI_ge0 {x : Int} (hx : inI x) : 0 ≤ gI x ↔ 0 ≤ x := by have := gI_le inI_0 hx; rwa [gI_0] at this
theorem gI_le0 {x : Int} (hx : inI x) : gI x ≤ 0 ↔ x ≤ 0 := by have := gI_le hx inI_0; rwa [gI_0] at this
theorem V_if_eq {X : Cx} {M : MI} {pc : Nat} {L : List (Nat × Value)} {st : List Value} {σ : Sg} {Q : Int → Sg → Prop} {x : Int} {off : Int} {tgt : Nat} (hd : decode M.2.1 pc = .ok (.ifCond .eq off, 3)) (ht : (pc : Int) + off = (tgt : Int)) (hx : inI x) (kt : x = 0 → VV X M tgt L st σ Q) (kf : ¬ x = 0 → VV X M (pc + 3) L st σ Q) : VV X M pc L (.int (gI x) :: st) σ Q := by
  intro p e s m args below meth c A cells slots Z C hz H locs ls Wd S hl
  exact lv_if_eq C.1 C.2.1 hd ht (fun q => kt ((gI_eq0 hx).mp q) p e s m args below meth c A cells slots Z C hz H locs ls Wd S hl) (fun q => kf (fun z => q ((gI_eq0 hx).mpr z)) p e s m args below meth c A cells slots Z C hz H locs ls Wd S hl)
theorem V_if_ne {X : Cx} {M : MI} {pc : Nat} {L : List (Nat × Value)} {st : List Value} {σ : Sg} {Q : Int → Sg → Prop} {x : Int} {off : Int} {tgt : Nat} (hd : decode M.2.1 pc = .ok (.ifCond .ne off, 3)) (ht : (pc : Int) + off = (tgt : Int)) (hx : inI x) (kt : ¬ x = 0 → VV X M tgt L st σ Q) (kf : x = 0 → VV X M (pc + 3) L st σ Q) : VV X M pc L (.int (gI x) :: st) σ Q := by
  intro p e s m args below meth c A cells slots Z C hz H locs ls Wd S hl
  exact lv_if_ne C.1 C.2.1 hd ht (fun q => kt (fun z => q ((gI_eq0 hx).mpr z)) p e s m args below meth c A cells slots Z C hz H locs ls Wd S hl) (fun q => kf ((gI_eq0 hx).mp q) p e s m args below meth c A cells slots Z C hz H locs ls Wd S hl)
theorem V_if_lt {X : Cx} {M : MI} {pc : Nat} {L : List (Nat × Value)} {st : List Value} {σ : Sg} {Q : Int → Sg → Prop} {x : Int} {off : Int} {tgt : Nat} (hd : decode M.2.1 pc = .ok (.ifCond .lt off, 3)) (ht : (pc : Int) + off = (tgt : Int)) (hx : inI x) (kt : x < 0 → VV X M tgt L st σ Q) (kf : 0 ≤ x → VV X M (pc + 3) L st σ Q) : VV X M pc L (.int (gI x) :: st) σ Q := by
  intro p e s m args below meth c A cells slots Z C hz H locs ls Wd S hl
  exact lv_if_lt C.1 C.2.1 hd ht (fun q => kt ((gI_lt0 hx).mp q) p e s m args below meth c A cells slots Z C hz H locs ls Wd S hl) (fun q => kf ((by have z := mt (gI_lt0 hx).mpr q; omega)) p e s m args below meth c A cells slots Z C hz H locs ls Wd S hl)
theorem V_if_ge {X : Cx} {M : MI} {pc : Nat} {L : List (Nat × Value)} {st : List Value} {σ : Sg} {Q : Int → Sg → Prop} {x : Int} {off : Int} {tgt : Nat} (hd : decode M.2.1 pc = .ok (.ifCond .ge off, 3)) (ht : (pc : Int) + off = (tgt : Int)) (hx : inI x) (kt : 0 ≤ x → VV X M tgt L st σ Q) (kf : x < 0 → VV X M (pc + 3) L st σ Q) : VV X M pc L (.int (gI x) :: st) σ Q := by
  intro p e s m args below meth c A cells slots Z C hz H locs ls Wd S hl
  exact lv_if_ge C.1 C.2.1 hd ht (fun q => kt ((gI_ge0 hx).mp q) p e s m args below meth c A cells slots Z C hz H locs ls Wd S hl) (fun q => kf ((by have z := mt (gI_ge0 hx).mpr q; omega)) p e s m args below meth c A cells slots Z C hz H locs ls Wd S hl)
theorem V_if_gt {X : Cx} {M : MI} {pc : Nat} {L : List (Nat × Value)} {st : List Value} {σ : Sg} {Q : Int → Sg → Prop} {x : Int} {off : Int} {tgt : Nat} (hd : decode M.2.1 pc = .ok (.ifCond .gt off, 3)) (ht : (pc : Int) + off = (tgt : Int)) (hx : inI x) (kt : 0 < x → VV X M tgt L st σ Q) (kf : x ≤ 0 → VV X M (pc + 3) L st σ Q) : VV X M pc L (.int (gI x) :: st) σ Q := by
  intro p e s m args below meth c A cells slots Z C hz H locs ls Wd S hl
  exact lv_if_gt C.1 C.2.1 hd ht (fun q => kt ((gI_gt0 hx).mp q) p e s m args below meth c A cells slots Z C hz H locs ls Wd S hl) (fun q => kf ((by have z := mt (gI_gt0 hx).mpr q; omega)) p e s m args below meth c A cells slots Z C hz H locs ls Wd S hl)
theorem V_if_le {X : Cx} {M : MI} {pc : Nat} {L : List (Nat × Value)} {st : List Value} {σ : Sg} {Q : Int → Sg → Prop} {x : Int} {off : Int} {tgt : Nat} (hd : decode M.2.1 pc = .ok (.ifCond .le off, 3)) (ht : (pc : Int) + off = (tgt : Int)) (hx : inI x) (kt : x ≤ 0 → VV X M tgt L st σ Q) (kf : 0 < x → VV X M (pc + 3) L st σ Q) : VV X M pc L (.int (gI x) :: st) σ Q := by
  intro p e s m args below meth c A cells slots Z C hz H locs ls Wd S hl
  exact lv_if_le C.1 C.2.1 hd ht (fun q => kt ((gI_le0 hx).mp q) p e s m args below meth c A cells slots Z C hz H locs ls Wd S hl) (fun q => kf ((by have z := mt (gI_le0 hx).mpr q; omega)) p e s m args below meth c A cells slots Z C hz H locs ls Wd S hl)
theorem V_icmp_eq {X : Cx} {M : MI} {pc : Nat} {L : List (Nat × Value)} {st : List Value} {σ : Sg} {Q : Int → Sg → Prop} {x y : Int} {off : Int} {tgt : Nat} (hd : decode M.2.1 pc = .ok (.if_icmp .eq off, 3)) (ht : (pc : Int) + off = (tgt : Int)) (hx : inI x) (hy : inI y) (kt : x = y → VV X M tgt L st σ Q) (kf : ¬ x = y → VV X M (pc + 3) L st σ Q) : VV X M pc L (.int (gI y) :: .int (gI x) :: st) σ Q := by
  intro p e s m args below meth c A cells slots Z C hz H locs ls Wd S hl
  exact lv_icmp_eq C.1 C.2.1 hd ht (fun q => kt ((gI_eq hx hy).mp q) p e s m args below meth c A cells slots Z C hz H locs ls Wd S hl) (fun q => kf (fun z => q ((gI_eq hx hy).mpr z)) p e s m args below meth c A cells slots Z C hz H locs ls Wd S hl)
theorem V_icmp_ne {X : Cx} {M : MI} {pc : Nat} {L : List (Nat × Value)} {st : List Value} {σ : Sg} {Q : Int → Sg → Prop} {x y : Int} {off : Int} {tgt : Nat} (hd : decode M.2.1 pc = .ok (.if_icmp .ne off, 3)) (ht : (pc : Int) + off = (tgt : Int)) (hx : inI x) (hy : inI y) (kt : ¬ x = y → VV X M tgt L st σ Q) (kf : x = y → VV X M (pc + 3) L st σ Q) : VV X M pc L (.int (gI y) :: .int (gI x) :: st) σ Q := by
  intro p e s m args below meth c A cells slots Z C hz H locs ls Wd S hl
  exact lv_icmp_ne C.1 C.2.1 hd ht (fun q => kt (fun z => q ((gI_eq hx hy).mpr z)) p e s m args below meth c A cells slots Z C hz H locs ls Wd S hl) (fun q => kf ((gI_eq hx hy).mp q) p e s m args below meth c A cells slots Z C hz H locs ls Wd S hl)
theorem V_icmp_lt {X : Cx} {M : MI} {pc : Nat} {L : List (Nat × Value)} {st : List Value} {σ : Sg} {Q : Int → Sg → Prop} {x y : Int} {off : Int} {tgt : Nat} (hd : decode M.2.1 pc = .ok (.if_icmp .lt off, 3)) (ht : (pc : Int) + off = (tgt : Int)) (hx : inI x) (hy : inI y) (kt : x < y → VV X M tgt L st σ Q) (kf : y ≤ x → VV X M (pc + 3) L st σ Q) : VV X M pc L (.int (gI y) :: .int (gI x) :: st) σ Q := by
  intro p e s m args below meth c A cells slots Z C hz H locs ls Wd S hl
  exact lv_icmp_lt C.1 C.2.1 hd ht (fun q => kt ((gI_lt hx hy).mp q) p e s m args below meth c A cells slots Z C hz H locs ls Wd S hl) (fun q => kf ((by have z := mt (gI_lt hx hy).mpr q; omega)) p e s m args below meth c A cells slots Z C hz H locs ls Wd S hl)
theorem V_icmp_ge {X : Cx} {M : MI} {pc : Nat} {L : List (Nat × Value)} {st : List Value} {σ : Sg} {Q : Int → Sg → Prop} {x y : Int} {off : Int} {tgt : Nat} (hd : decode M.2.1 pc = .ok (.if_icmp .ge off, 3)) (ht : (pc : Int) + off = (tgt : Int)) (hx : inI x) (hy : inI y) (kt : y ≤ x → VV X M tgt L st σ Q) (kf : x < y → VV X M (pc + 3) L st σ Q) : VV X M pc L (.int (gI y) :: .int (gI x) :: st) σ Q := by
  intro p e s m args below meth c A cells slots Z C hz H locs ls Wd S hl
  exact lv_icmp_ge C.1 C.2.1 hd ht (fun q => kt ((gI_le hy hx).mp q) p e s m args below meth c A cells slots Z C hz H locs ls Wd S hl) (fun q => kf ((by have z := mt (gI_le hy hx).mpr q; omega)) p e s m args below meth c A cells slots Z C hz H locs ls Wd S hl)
theorem V_icmp_gt {X : Cx} {M : MI} {pc : Nat} {L : List (Nat × Value)} {st : List Value} {σ : Sg} {Q : Int → Sg → Prop} {x y : Int} {off : Int} {tgt : Nat} (hd : decode M.2.1 pc = .ok (.if_icmp .gt off, 3)) (ht : (pc : Int) + off = (tgt : Int)) (hx : inI x) (hy : inI y) (kt : y < x → VV X M tgt L st σ Q) (kf : x ≤ y → VV X M (pc + 3) L st σ Q) : VV X M pc L (.int (gI y) :: .int (gI x) :: st) σ Q := by
  intro p e s m args below meth c A cells slots Z C hz H locs ls Wd S hl
  exact lv_icmp_gt C.1 C.2.1 hd ht (fun q => kt ((gI_lt hy hx).mp q) p e s m args below meth c A cells slots Z C hz H locs ls Wd S hl) (fun q => kf ((by have z := mt (gI_lt hy hx).mpr q; omega)) p e s m args below meth c A cells slots Z C hz H locs ls Wd S hl)
theorem V_icmp_le {X : Cx} {M : MI} {pc : Nat} {L : List (Nat × Value)} {st : List Value} {σ : Sg} {Q : Int → Sg → Prop} {x y : Int} {off : Int} {tgt : Nat} (hd : decode M.2.1 pc = .ok (.if_icmp .le off, 3)) (ht : (pc : Int) + off = (tgt : Int)) (hx : inI x) (hy : inI y) (kt : x ≤ y → VV X M tgt L st σ Q) (kf : y < x → VV X M (pc + 3) L st σ Q) : VV X M pc L (.int (gI y) :: .int (gI x) :: st) σ Q := by
  intro p e s m args below meth c A cells slots Z C hz H locs ls Wd S hl
  exact lv_icmp_le C.1 C.2.1 hd ht (fun q => kt ((gI_le hx hy).mp q) p e s m args below meth c A cells slots Z C hz H locs ls Wd S hl) (fun q => kf ((by have z := mt (gI_le hx hy).mpr q; omega)) p e s m args below meth c A cells slots Z C hz H locs ls Wd S hl)
theorem V_goto {X : Cx} {M : MI} {pc : Nat} {L : List (Nat × Value)} {st : List Value} {σ : Sg} {Q : Int → Sg → Prop} {off : Int} {tgt : Nat} (hd : decode M.2.1 pc = .ok (.goto off, 3)) (ht : (pc : Int) + off = (tgt : Int)) (k : VV X M tgt L st σ Q) : VV X M pc L st σ Q := by
  intro p e s m args below meth c A cells slots Z C hz H locs ls Wd S hl
  exact lv_goto C.1 C.2.1 hd ht (k p e s m args below meth c A cells slots Z C hz H locs ls Wd S hl)
end
section
/-! ROWS of the layer: locals, memory, calls, ends -/
theorem V_istore_n {X : Cx} {M : MI} {pc : Nat} {L : List (Nat × Value)} {st : List Value} {σ : Sg} {Q : Int → Sg → Prop} {L' : List (Nat × Value)} {q : Fin 4} {i : Nat} {x : Int} (hi : (q : Nat) = i) (hn : i < M.2.2.1) (hL : (i, Value.int (gI x)) :: L.filter (fun q => !(q.1 == i) && !(q.1 + 1 == i && q.2.category == 2)) = L') (hd : decode M.2.1 pc = .ok (.istore_n q, 1)) (k : VV X M (pc + 1) L' st σ Q) : VV X M pc L (.int (gI x) :: st) σ Q := by
  intro p e s m args below meth c A cells slots Z C hz H locs ls Wd S hl
  exact lv_istore_n C.1 C.2.1 hd hi hl hn hL (fun ls hl => k p e s m args below meth c A cells slots Z C hz H locs ls Wd S hl)
theorem V_istore {X : Cx} {M : MI} {pc : Nat} {L : List (Nat × Value)} {st : List Value} {σ : Sg} {Q : Int → Sg → Prop} {L' : List (Nat × Value)} {i : Nat} {x : Int} (hn : i < M.2.2.1) (hL : (i, Value.int (gI x)) :: L.filter (fun q => !(q.1 == i) && !(q.1 + 1 == i && q.2.category == 2)) = L') (hd : decode M.2.1 pc = .ok (.istore i, 2)) (k : VV X M (pc + 2) L' st σ Q) : VV X M pc L (.int (gI x) :: st) σ Q := by
  intro p e s m args below meth c A cells slots Z C hz H locs ls Wd S hl
  exact lv_istore C.1 C.2.1 hd hl hn hL (fun ls hl => k p e s m args below meth c A cells slots Z C hz H locs ls Wd S hl)
theorem V_astore_n {X : Cx} {M : MI} {pc : Nat} {L : List (Nat × Value)} {st : List Value} {σ : Sg} {Q : Int → Sg → Prop} {L' : List (Nat × Value)} {q : Fin 4} {i : Nat} {x : Nat} (hi : (q : Nat) = i) (hn : i < M.2.2.1) (hL : (i, Value.ref x) :: L.filter (fun q => !(q.1 == i) && !(q.1 + 1 == i && q.2.category == 2)) = L') (hd : decode M.2.1 pc = .ok (.astore_n q, 1)) (k : VV X M (pc + 1) L' st σ Q) : VV X M pc L (.ref x :: st) σ Q := by
  intro p e s m args below meth c A cells slots Z C hz H locs ls Wd S hl
  exact lv_astore_n C.1 C.2.1 hd hi hl hn hL (fun ls hl => k p e s m args below meth c A cells slots Z C hz H locs ls Wd S hl)
theorem V_astore {X : Cx} {M : MI} {pc : Nat} {L : List (Nat × Value)} {st : List Value} {σ : Sg} {Q : Int → Sg → Prop} {L' : List (Nat × Value)} {i : Nat} {x : Nat} (hn : i < M.2.2.1) (hL : (i, Value.ref x) :: L.filter (fun q => !(q.1 == i) && !(q.1 + 1 == i && q.2.category == 2)) = L') (hd : decode M.2.1 pc = .ok (.astore i, 2)) (k : VV X M (pc + 2) L' st σ Q) : VV X M pc L (.ref x :: st) σ Q := by
  intro p e s m args below meth c A cells slots Z C hz H locs ls Wd S hl
  exact lv_astore C.1 C.2.1 hd hl hn hL (fun ls hl => k p e s m args below meth c A cells slots Z C hz H locs ls Wd S hl)
theorem V_lstore_n {X : Cx} {M : MI} {pc : Nat} {L : List (Nat × Value)} {st : List Value} {σ : Sg} {Q : Int → Sg → Prop} {L' : List (Nat × Value)} {q : Fin 4} {i : Nat} {x : Int} (hi : (q : Nat) = i) (hn : i + 1 < M.2.2.1) (hL : (i, Value.long (gJ x)) :: L.filter (fun q => !(q.1 == i) && (!(q.1 == i + 1) && !(q.1 + 1 == i && q.2.category == 2))) = L') (hd : decode M.2.1 pc = .ok (.lstore_n q, 1)) (k : VV X M (pc + 1) L' st σ Q) : VV X M pc L (.long (gJ x) :: st) σ Q := by
  intro p e s m args below meth c A cells slots Z C hz H locs ls Wd S hl
  exact lv_lstore_n C.1 C.2.1 hd hi hl hn hL (fun ls hl => k p e s m args below meth c A cells slots Z C hz H locs ls Wd S hl)
theorem V_iinc {X : Cx} {M : MI} {pc : Nat} {L : List (Nat × Value)} {st : List Value} {σ : Sg} {Q : Int → Sg → Prop} {L' : List (Nat × Value)} {i : Nat} {n x : Int} (j : Nat) (hj : L[j]? = some (i, .int (gI x))) (hn : i < M.2.2.1) (hL : (i, Value.int (gI (x + n))) :: L.filter (fun q => !(q.1 == i) && !(q.1 + 1 == i && q.2.category == 2)) = L') (hd : decode M.2.1 pc = .ok (.iinc i n, 3)) (k : VV X M (pc + 3) L' st σ Q) : VV X M pc L st σ Q := by
  intro p e s m args below meth c A cells slots Z C hz H locs ls Wd S hl
  exact lv_iinc C.1 C.2.1 hd hl hj (gI_add x n).symm hn hL (fun ls hl => k p e s m args below meth c A cells slots Z C hz H locs ls Wd S hl)
theorem V_tsw {X : Cx} {M : MI} {pc : Nat} {L : List (Nat × Value)} {st : List Value} {σ : Sg} {Q : Int → Sg → Prop} {dflt lo hi : Int} {offs : Array Int} {len : Nat} {x : Int} {off : Int} {tgt : Nat} (hd : decode M.2.1 pc = .ok (.tableswitch dflt lo hi offs, len)) (hx : inI x) (h1 : lo ≤ x) (h2 : x ≤ hi) (ho : offs[(x - lo).toNat]? = some off) (ht : (pc : Int) + off = (tgt : Int)) (k : VV X M tgt L st σ Q) : VV X M pc L (.int (gI x) :: st) σ Q := by
  intro p e s m args below meth c A cells slots Z C hz H locs ls Wd S hl
  exact lv_tableIn C.1 C.2.1 hd (by rw [gI_to hx]; omega) (by rw [gI_to hx]; omega) (by rw [gI_to hx]; exact ho) ht (k p e s m args below meth c A cells slots Z C hz H locs ls Wd S hl)
theorem V_tswD {X : Cx} {M : MI} {pc : Nat} {L : List (Nat × Value)} {st : List Value} {σ : Sg} {Q : Int → Sg → Prop} {dflt lo hi : Int} {offs : Array Int} {len : Nat} {x : Int} {tgt : Nat} (hd : decode M.2.1 pc = .ok (.tableswitch dflt lo hi offs, len)) (hx : inI x) (h : x < lo ∨ hi < x) (ht : (pc : Int) + dflt = (tgt : Int)) (k : VV X M tgt L st σ Q) : VV X M pc L (.int (gI x) :: st) σ Q := by
  intro p e s m args below meth c A cells slots Z C hz H locs ls Wd S hl
  exact lv_tableOut C.1 C.2.1 hd (by rw [gI_to hx]; exact h) ht (k p e s m args below meth c A cells slots Z C hz H locs ls Wd S hl)
theorem V_lsw {X : Cx} {M : MI} {pc : Nat} {L : List (Nat × Value)} {st : List Value} {σ : Sg} {Q : Int → Sg → Prop} {dflt : Int} {ps : Array (Int × Int)} {len : Nat} {x : Int} {off : Int} {tgt : Nat} (hd : decode M.2.1 pc = .ok (.lookupswitch dflt ps, len)) (hx : inI x) (hp : (ps.toList.zip (ps.toList.drop 1)).all (fun (a, next) => a.1 < next.1) = true) (ho : Op.lookupswitch.offset ps.toList dflt x = off) (ht : (pc : Int) + off = (tgt : Int)) (k : VV X M tgt L st σ Q) : VV X M pc L (.int (gI x) :: st) σ Q := by
  intro p e s m args below meth c A cells slots Z C hz H locs ls Wd S hl
  exact lv_lookup C.1 C.2.1 hd hp (by rw [gI_to hx]; exact ho) ht (k p e s m args below meth c A cells slots Z C hz H locs ls Wd S hl)
theorem V_ldc {X : Cx} {M : MI} {pc : Nat} {L : List (Nat × Value)} {st : List Value} {σ : Sg} {Q : Int → Sg → Prop} {idx : Nat} {v : Int32} {x : Int} (hd : decode M.2.1 pc = .ok (.ldc idx, 2)) (hc : Cond.constant M.1.cls idx v ∈ gdT) (hv : v = gI x) (k : VV X M (pc + 2) L (.int (gI x) :: st) σ Q) : VV X M pc L st σ Q := by
  intro p e s m args below meth c A cells slots Z C hz H locs ls Wd S hl
  subst hv
  exact lv_ldc C.1 C.2.1 C.2.2.2.2.2.1 (C.2.2.2.2.2.2.1 _ hc) hd (k p e s m args below meth c A cells slots Z C hz H locs ls Wd S hl)
theorem V_ldc2 {X : Cx} {M : MI} {pc : Nat} {L : List (Nat × Value)} {st : List Value} {σ : Sg} {Q : Int → Sg → Prop} {idx : Nat} {v : Int64} {x : Int} (hd : decode M.2.1 pc = .ok (.ldc2_w idx, 3)) (hc : Cond.constantLong M.1.cls idx v ∈ gdT) (hv : v = gJ x) (k : VV X M (pc + 3) L (.long (gJ x) :: st) σ Q) : VV X M pc L st σ Q := by
  intro p e s m args below meth c A cells slots Z C hz H locs ls Wd S hl
  subst hv
  exact lv_ldc2 C.1 C.2.1 C.2.2.2.2.2.1 (C.2.2.2.2.2.2.1 _ hc) hd (k p e s m args below meth c A cells slots Z C hz H locs ls Wd S hl)
/-- a kind of objects: its name, its fields' table and types -/
def CI (ci : Nat) (Cn : String) (T : u_T) (N : Nat) (ty : Nat → FieldType) : Prop := vwCl[ci]? = some (Cn, T, N) ∧ ci < 20 ∧ (∀ w ∈ u_ws Cn T N, w ∈ gdT) ∧ (∀ k, k < N → parseFieldDescriptor (T k).2.2.1 = some (ty k)) ∧ (∀ a, a < N → ∀ b, b < N → a ≠ b → (T a).2.1 ≠ (T b).2.1)
theorem V_getI {X : Cx} {M : MI} {pc : Nat} {L : List (Nat × Value)} {st : List Value} {σ : Sg} {Q : Int → Sg → Prop} {ci c0 n f idx N : Nat} {Cn : String} {T : u_T} {ty : Nat → FieldType} (hC : CI ci Cn T N ty) (hs : shp c0 = (ci, n)) (hf : (ofl ci)[f]? = some 0) (hk : f < N) (hd : decode M.2.1 pc = .ok (.getfield idx, 3)) (hl0 : Cond.fieldLink M.1.cls idx (T f).1 (T f).2.1 (T f).2.2.1 ∈ gdT) (k : VV X M (pc + 3) L (.int (gI (σ c0 f)) :: st) σ Q) : VV X M pc L (.ref (cxA X c0) :: st) σ Q := by
  intro p e s m args below meth c A cells slots Z C hz H locs ls Wd S hl
  exact va_get (ref := (T f).1) C.1 C.2.1 C.2.2.2.2.2.2.1 hC.2.2.1 C.2.2.2.2.2.1 Wd.2.1 Wd.1 c0 (by rw [wl_get (shp_lt (by rw [hs]; exact Nat.lt_trans hC.2.1 (by decide))), cont_obj hs hC.2.1]) hC.1 f hk (C.2.2.2.2.2.2.1 _ hl0) (fun _ h9 => h9) (by rw [fvs_get _ 0 f 0 hf, Nat.zero_add]; rfl) hd (k p e s m args below meth c A cells slots Z C hz H locs ls Wd S hl)
theorem V_getJ {X : Cx} {M : MI} {pc : Nat} {L : List (Nat × Value)} {st : List Value} {σ : Sg} {Q : Int → Sg → Prop} {ci c0 n f idx N : Nat} {Cn : String} {T : u_T} {ty : Nat → FieldType} (hC : CI ci Cn T N ty) (hs : shp c0 = (ci, n)) (hf : (ofl ci)[f]? = some 1) (hk : f < N) (hd : decode M.2.1 pc = .ok (.getfield idx, 3)) (hl0 : Cond.fieldLink M.1.cls idx (T f).1 (T f).2.1 (T f).2.2.1 ∈ gdT) (k : VV X M (pc + 3) L (.long (gJ (σ c0 f)) :: st) σ Q) : VV X M pc L (.ref (cxA X c0) :: st) σ Q := by
  intro p e s m args below meth c A cells slots Z C hz H locs ls Wd S hl
  exact va_get (ref := (T f).1) C.1 C.2.1 C.2.2.2.2.2.2.1 hC.2.2.1 C.2.2.2.2.2.1 Wd.2.1 Wd.1 c0 (by rw [wl_get (shp_lt (by rw [hs]; exact Nat.lt_trans hC.2.1 (by decide))), cont_obj hs hC.2.1]) hC.1 f hk (C.2.2.2.2.2.2.1 _ hl0) (fun _ h9 => h9) (by rw [fvs_get _ 0 f 1 hf, Nat.zero_add]; rfl) hd (k p e s m args below meth c A cells slots Z C hz H locs ls Wd S hl)
theorem V_getR {X : Cx} {M : MI} {pc : Nat} {L : List (Nat × Value)} {st : List Value} {σ : Sg} {Q : Int → Sg → Prop} {ci c0 n f idx N t c1 : Nat} {Cn : String} {T : u_T} {ty : Nat → FieldType} (hC : CI ci Cn T N ty) (hs : shp c0 = (ci, n)) (hf : (ofl ci)[f]? = some (t + 2)) (hk : f < N) (h1 : c0 + t = c1) (hd : decode M.2.1 pc = .ok (.getfield idx, 3)) (hl0 : Cond.fieldLink M.1.cls idx (T f).1 (T f).2.1 (T f).2.2.1 ∈ gdT) (k : VV X M (pc + 3) L (.ref (cxA X c1) :: st) σ Q) : VV X M pc L (.ref (cxA X c0) :: st) σ Q := by
  intro p e s m args below meth c A cells slots Z C hz H locs ls Wd S hl
  subst h1
  exact va_get (ref := (T f).1) C.1 C.2.1 C.2.2.2.2.2.2.1 hC.2.2.1 C.2.2.2.2.2.1 Wd.2.1 Wd.1 c0 (by rw [wl_get (shp_lt (by rw [hs]; exact Nat.lt_trans hC.2.1 (by decide))), cont_obj hs hC.2.1]) hC.1 f hk (C.2.2.2.2.2.2.1 _ hl0) (fun _ h9 => h9) (by rw [fvs_get _ 0 f (t + 2) hf]; rfl) hd (k p e s m args below meth c A cells slots Z C hz H locs ls Wd S hl)
theorem up2_off (σ : Sg) {c k : Nat} (x : Int) : ∀ c' k', c' ≠ c → up2 σ c k x c' k' = σ c' k' := fun _ _ h => up2_nc σ x h
theorem wl_obj {X : Cx} {σ : Sg} {c ci n f t : Nat} {x : Int} {v : Value} (hs : shp c = (ci, n)) (hci : ci < 20) (hf : (ofl ci)[f]? = some t) (hv : fval X (up2 σ c f x) c f t = v) : (wl X σ).set c (cxA X c, .inr (ci, (fvs X σ c 0 (ofl ci)).set f v)) = wl X (up2 σ c f x) := by
  rw [← wl_set (shp_lt (by rw [hs]; exact Nat.lt_trans hci (by decide))) (up2_off σ x), cont_obj hs hci]
  have := fvs_set (X := X) (σ := σ) (c := c) x (ofl ci) 0 f t hf
  rw [Nat.zero_add] at this
  rw [← this, hv]
theorem wl_arr {X : Cx} {σ : Sg} {c ci n i : Nat} {x : Int} (hs : shp c = (ci, n)) (h1 : 20 ≤ ci) (h2 : ci < 23) : (wl X σ).set c (cxA X c, .inl (cxY X (ci - 20), n, .inl (upd (fun j => gI (σ c j)) i (gI x)))) = wl X (up2 σ c i x) := by
  rw [← wl_set (shp_lt (by rw [hs]; exact Nat.lt_trans h2 (by decide))) (up2_off σ x), cont_arr hs h1 h2]
  have : (fun j => gI (up2 σ c i x c j)) = upd (fun j => gI (σ c j)) i (gI x) := by
    funext j
    unfold up2 upd
    by_cases e : j = i
    · rw [if_pos ⟨rfl, e⟩, if_pos e]
    · rw [if_neg (fun q => e q.2), if_neg e]
  rw [this]
theorem nar_Z {x : Int} (h : x = 0 ∨ x = 1) : narrow .boolean (.int (gI x)) = .int (gI x) ∧ fits .boolean (.int (gI x)) = true ∧ vp_nar .boolean (gI x) = gI x := by
  rcases h with rfl | rfl <;> decide +kernel
theorem V_putI {X : Cx} {M : MI} {pc : Nat} {L : List (Nat × Value)} {st : List Value} {σ : Sg} {Q : Int → Sg → Prop} {ci c0 n f idx N : Nat} {Cn : String} {T : u_T} {ty : Nat → FieldType} {x : Int} (hC : CI ci Cn T N ty) (hs : shp c0 = (ci, n)) (hf : (ofl ci)[f]? = some 0) (hk : f < N) (hty : ty f = .int) (hfin : (T f).2.2.2 = false) (hx : inI x) (hd : decode M.2.1 pc = .ok (.putfield idx, 3)) (hl0 : Cond.fieldLink M.1.cls idx (T f).1 (T f).2.1 (T f).2.2.1 ∈ gdT) (k : VV X M (pc + 3) L st (up2 σ c0 f x) Q) : VV X M pc L (.int (gI x) :: .ref (cxA X c0) :: st) σ Q := by
  intro p e s m args below meth c A cells slots Z C hz H locs ls Wd S hl
  obtain ⟨hP, hK, hDX, hR⟩ := Wd
  have hD := wl_D (σ := σ) hDX C.2.2.2.2.2.2.2.1
  refine va_put (ref := (T f).1) C.1 C.2.1 C.2.2.2.2.2.2.1 hC.2.2.1 ty hC.2.2.2.1 hC.2.2.2.2 C.2.2.2.2.2.1 hK hP hD S c0 (by rw [wl_get (shp_lt (by rw [hs]; exact Nat.lt_trans hC.2.1 (by decide))), cont_obj hs hC.2.1]) hC.1 f hk (C.2.2.2.2.2.2.1 _ hl0) (fun _ h9 => h9) hfin (by rw [hC.2.2.2.1 f hk, hty]) (vp_nar_int _) rfl (by rw [fvs_len]; exact (List.getElem?_eq_some_iff.mp hf).1) hd (fun H1 locs1 hP1 hD1 S1 => ?_)
  rw [wl_obj (x := x) hs hC.2.1 hf (by show Value.int (gI (up2 σ c0 f x c0 f)) = _; rw [up2_s])] at hP1
  exact k p e s m args below meth c A cells slots Z C hz H1 locs1 ls ⟨hP1, hK, hDX, hR.up hx⟩ S1 hl
theorem V_putZ {X : Cx} {M : MI} {pc : Nat} {L : List (Nat × Value)} {st : List Value} {σ : Sg} {Q : Int → Sg → Prop} {ci c0 n f idx N : Nat} {Cn : String} {T : u_T} {ty : Nat → FieldType} {x : Int} (hC : CI ci Cn T N ty) (hs : shp c0 = (ci, n)) (hf : (ofl ci)[f]? = some 0) (hk : f < N) (hty : ty f = .boolean) (hfin : (T f).2.2.2 = false) (hx : x = 0 ∨ x = 1) (hd : decode M.2.1 pc = .ok (.putfield idx, 3)) (hl0 : Cond.fieldLink M.1.cls idx (T f).1 (T f).2.1 (T f).2.2.1 ∈ gdT) (k : VV X M (pc + 3) L st (up2 σ c0 f x) Q) : VV X M pc L (.int (gI x) :: .ref (cxA X c0) :: st) σ Q := by
  intro p e s m args below meth c A cells slots Z C hz H locs ls Wd S hl
  obtain ⟨hP, hK, hDX, hR⟩ := Wd
  have hD := wl_D (σ := σ) hDX C.2.2.2.2.2.2.2.1
  refine va_put (ref := (T f).1) C.1 C.2.1 C.2.2.2.2.2.2.1 hC.2.2.1 ty hC.2.2.2.1 hC.2.2.2.2 C.2.2.2.2.2.1 hK hP hD S c0 (by rw [wl_get (shp_lt (by rw [hs]; exact Nat.lt_trans hC.2.1 (by decide))), cont_obj hs hC.2.1]) hC.1 f hk (C.2.2.2.2.2.2.1 _ hl0) (fun _ h9 => h9) hfin (by rw [hC.2.2.2.1 f hk, hty]) (nar_Z hx).1 (nar_Z hx).2.1 (by rw [fvs_len]; exact (List.getElem?_eq_some_iff.mp hf).1) hd (fun H1 locs1 hP1 hD1 S1 => ?_)
  rw [wl_obj (x := x) hs hC.2.1 hf (by show Value.int (gI (up2 σ c0 f x c0 f)) = _; rw [up2_s])] at hP1
  exact k p e s m args below meth c A cells slots Z C hz H1 locs1 ls ⟨hP1, hK, hDX, hR.up (by rcases hx with rfl | rfl <;> decide)⟩ S1 hl
theorem V_putJ {X : Cx} {M : MI} {pc : Nat} {L : List (Nat × Value)} {st : List Value} {σ : Sg} {Q : Int → Sg → Prop} {ci c0 n f idx N : Nat} {Cn : String} {T : u_T} {ty : Nat → FieldType} {x : Int} (hC : CI ci Cn T N ty) (hs : shp c0 = (ci, n)) (hf : (ofl ci)[f]? = some 1) (hk : f < N) (hty : ty f = .long) (hfin : (T f).2.2.2 = false) (hx : inJ x) (h69 : c0 = 69 ∧ f = 12) (hd : decode M.2.1 pc = .ok (.putfield idx, 3)) (hl0 : Cond.fieldLink M.1.cls idx (T f).1 (T f).2.1 (T f).2.2.1 ∈ gdT) (k : VV X M (pc + 3) L st (up2 σ c0 f x) Q) : VV X M pc L (.long (gJ x) :: .ref (cxA X c0) :: st) σ Q := by
  intro p e s m args below meth c A cells slots Z C hz H locs ls Wd S hl
  obtain ⟨hP, hK, hDX, hR⟩ := Wd
  have hD := wl_D (σ := σ) hDX C.2.2.2.2.2.2.2.1
  refine va_put (ref := (T f).1) C.1 C.2.1 C.2.2.2.2.2.2.1 hC.2.2.1 ty hC.2.2.2.1 hC.2.2.2.2 C.2.2.2.2.2.1 hK hP hD S c0 (by rw [wl_get (shp_lt (by rw [hs]; exact Nat.lt_trans hC.2.1 (by decide))), cont_obj hs hC.2.1]) hC.1 f hk (C.2.2.2.2.2.2.1 _ hl0) (fun _ h9 => h9) hfin (by rw [hC.2.2.2.1 f hk, hty]) rfl rfl (by rw [fvs_len]; exact (List.getElem?_eq_some_iff.mp hf).1) hd (fun H1 locs1 hP1 hD1 S1 => ?_)
  rw [wl_obj (x := x) hs hC.2.1 hf (by show Value.long (gJ (up2 σ c0 f x c0 f)) = _; rw [up2_s])] at hP1
  exact k p e s m args below meth c A cells slots Z C hz H1 locs1 ls ⟨hP1, hK, hDX, by rw [h69.1, h69.2]; exact hR.upJ hx⟩ S1 hl
theorem V_iald {X : Cx} {M : MI} {pc : Nat} {L : List (Nat × Value)} {st : List Value} {σ : Sg} {Q : Int → Sg → Prop} {c0 n : Nat} {i : Int} (hs : shp c0 = (20, n)) (hn : n < 2147483648) (hi : 0 ≤ i ∧ i < n) (hd : decode M.2.1 pc = .ok (.iaload, 1)) (k : VV X M (pc + 1) L (.int (gI (σ c0 i.toNat)) :: st) σ Q) : VV X M pc L (.int (gI i) :: .ref (cxA X c0) :: st) σ Q := by
  intro p e s m args below meth c A cells slots Z C hz H locs ls Wd S hl
  obtain ⟨h1, h2⟩ := gI_in hn hi.1 hi.2
  refine va_iald C.1 C.2.1 Wd.2.1 Wd.1 c0 0 (f := fun j => gI (σ c0 j)) (by rw [wl_get (shp_lt (by rw [hs]; show 20 < 99; decide)), cont_arr hs (by decide) (by decide)]) rfl h1 hd ?_
  rw [h2]
  exact k p e s m args below meth c A cells slots Z C hz H locs ls Wd S hl
theorem V_zald {X : Cx} {M : MI} {pc : Nat} {L : List (Nat × Value)} {st : List Value} {σ : Sg} {Q : Int → Sg → Prop} {c0 n : Nat} {i : Int} (hs : shp c0 = (21, n)) (hn : n < 2147483648) (hi : 0 ≤ i ∧ i < n) (hd : decode M.2.1 pc = .ok (.baload, 1)) (k : VV X M (pc + 1) L (.int (gI (σ c0 i.toNat)) :: st) σ Q) : VV X M pc L (.int (gI i) :: .ref (cxA X c0) :: st) σ Q := by
  intro p e s m args below meth c A cells slots Z C hz H locs ls Wd S hl
  obtain ⟨h1, h2⟩ := gI_in hn hi.1 hi.2
  refine va_zald C.1 C.2.1 Wd.2.1 Wd.1 c0 1 (f := fun j => gI (σ c0 j)) (by rw [wl_get (shp_lt (by rw [hs]; show 21 < 99; decide)), cont_arr hs (by decide) (by decide)]) rfl h1 hd ?_
  rw [h2]
  exact k p e s m args below meth c A cells slots Z C hz H locs ls Wd S hl
theorem V_cald {X : Cx} {M : MI} {pc : Nat} {L : List (Nat × Value)} {st : List Value} {σ : Sg} {Q : Int → Sg → Prop} {c0 n : Nat} {i : Int} (hs : shp c0 = (22, n)) (hn : n < 2147483648) (hi : 0 ≤ i ∧ i < n) (hd : decode M.2.1 pc = .ok (.caload, 1)) (k : VV X M (pc + 1) L (.int (gI (σ c0 i.toNat)) :: st) σ Q) : VV X M pc L (.int (gI i) :: .ref (cxA X c0) :: st) σ Q := by
  intro p e s m args below meth c A cells slots Z C hz H locs ls Wd S hl
  obtain ⟨h1, h2⟩ := gI_in hn hi.1 hi.2
  refine va_cald C.1 C.2.1 Wd.2.1 Wd.1 c0 2 (f := fun j => gI (σ c0 j)) (by rw [wl_get (shp_lt (by rw [hs]; show 22 < 99; decide)), cont_arr hs (by decide) (by decide)]) rfl h1 hd ?_
  rw [h2]
  exact k p e s m args below meth c A cells slots Z C hz H locs ls Wd S hl
theorem V_iast {X : Cx} {M : MI} {pc : Nat} {L : List (Nat × Value)} {st : List Value} {σ : Sg} {Q : Int → Sg → Prop} {c0 n : Nat} {i x : Int} (hs : shp c0 = (20, n)) (hn : n < 2147483648) (hi : 0 ≤ i ∧ i < n) (hx : inI x) (hd : decode M.2.1 pc = .ok (.iastore, 1)) (k : VV X M (pc + 1) L st (up2 σ c0 i.toNat x) Q) : VV X M pc L (.int (gI x) :: .int (gI i) :: .ref (cxA X c0) :: st) σ Q := by
  intro p e s m args below meth c A cells slots Z C hz H locs ls Wd S hl
  obtain ⟨h1, h2⟩ := gI_in hn hi.1 hi.2
  obtain ⟨hP, hK, hDX, hR⟩ := Wd
  have hD := wl_D (σ := σ) hDX C.2.2.2.2.2.2.2.1
  refine va_iast C.1 C.2.1 hK hP hD S c0 0 (f := fun j => gI (σ c0 j)) (by rw [wl_get (shp_lt (by rw [hs]; show 20 < 99; decide)), cont_arr hs (by decide) (by decide)]) rfl h1 hd (fun H1 locs1 hP1 hD1 S1 => ?_)
  rw [h2, show cxY X 0 = cxY X (20 - 20) from rfl, wl_arr hs (by decide) (by decide)] at hP1
  exact k p e s m args below meth c A cells slots Z C hz H1 locs1 ls ⟨hP1, hK, hDX, hR.up hx⟩ S1 hl
theorem V_zast {X : Cx} {M : MI} {pc : Nat} {L : List (Nat × Value)} {st : List Value} {σ : Sg} {Q : Int → Sg → Prop} {c0 n : Nat} {i x : Int} (hs : shp c0 = (21, n)) (hn : n < 2147483648) (hi : 0 ≤ i ∧ i < n) (hx : x = 0 ∨ x = 1) (hd : decode M.2.1 pc = .ok (.bastore, 1)) (k : VV X M (pc + 1) L st (up2 σ c0 i.toNat x) Q) : VV X M pc L (.int (gI x) :: .int (gI i) :: .ref (cxA X c0) :: st) σ Q := by
  intro p e s m args below meth c A cells slots Z C hz H locs ls Wd S hl
  obtain ⟨h1, h2⟩ := gI_in hn hi.1 hi.2
  obtain ⟨hP, hK, hDX, hR⟩ := Wd
  have hD := wl_D (σ := σ) hDX C.2.2.2.2.2.2.2.1
  refine va_zast C.1 C.2.1 hK hP hD S c0 1 (f := fun j => gI (σ c0 j)) (by rw [wl_get (shp_lt (by rw [hs]; show 21 < 99; decide)), cont_arr hs (by decide) (by decide)]) rfl h1 hd (fun H1 locs1 hP1 hD1 S1 => ?_)
  rw [(nar_Z hx).2.2] at hP1
  rw [h2, show cxY X 1 = cxY X (21 - 20) from rfl, wl_arr hs (by decide) (by decide)] at hP1
  exact k p e s m args below meth c A cells slots Z C hz H1 locs1 ls ⟨hP1, hK, hDX, hR.up (by rcases hx with rfl | rfl <;> decide)⟩ S1 hl
theorem nar_C0 : ∀ n : Nat, n < 256 → (gI n).toUInt32.toUInt16.toUInt32.toInt32 = gI n := by decide +kernel
theorem nar_C {x : Int} (h0 : 0 ≤ x) (h1 : x < 256) : (gI x).toUInt32.toUInt16.toUInt32.toInt32 = gI x := by
  have := nar_C0 x.toNat (by omega)
  rwa [Int.toNat_of_nonneg h0] at this
theorem V_cast {X : Cx} {M : MI} {pc : Nat} {L : List (Nat × Value)} {st : List Value} {σ : Sg} {Q : Int → Sg → Prop} {c0 n : Nat} {i x : Int} (hs : shp c0 = (22, n)) (hn : n < 2147483648) (hi : 0 ≤ i ∧ i < n) (hx : 0 ≤ x ∧ x < 256) (hd : decode M.2.1 pc = .ok (.castore, 1)) (k : VV X M (pc + 1) L st (up2 σ c0 i.toNat x) Q) : VV X M pc L (.int (gI x) :: .int (gI i) :: .ref (cxA X c0) :: st) σ Q := by
  intro p e s m args below meth c A cells slots Z C hz H locs ls Wd S hl
  obtain ⟨h1, h2⟩ := gI_in hn hi.1 hi.2
  obtain ⟨hP, hK, hDX, hR⟩ := Wd
  have hD := wl_D (σ := σ) hDX C.2.2.2.2.2.2.2.1
  refine va_cast C.1 C.2.1 hK hP hD S c0 2 (f := fun j => gI (σ c0 j)) (by rw [wl_get (shp_lt (by rw [hs]; show 22 < 99; decide)), cont_arr hs (by decide) (by decide)]) rfl h1 hd (fun H1 locs1 hP1 hD1 S1 => ?_)
  rw [(vp_nar_char (gI x)).trans (nar_C hx.1 hx.2)] at hP1
  rw [h2, show cxY X 2 = cxY X (22 - 20) from rfl, wl_arr hs (by decide) (by decide)] at hP1
  exact k p e s m args below meth c A cells slots Z C hz H1 locs1 ls ⟨hP1, hK, hDX, hR.up ⟨by omega, by omega⟩⟩ S1 hl
theorem V_aald {X : Cx} {M : MI} {pc : Nat} {L : List (Nat × Value)} {st : List Value} {σ : Sg} {Q : Int → Sg → Prop} {c0 n c1 : Nat} {i : Int} (hs : shp c0 = (23, n)) (hn : n < 2147483648) (hi : 0 ≤ i ∧ i < n) (h1 : c0 + 1 + 1 * i.toNat = c1) (hd : decode M.2.1 pc = .ok (.aaload, 1)) (k : VV X M (pc + 1) L (.ref (cxA X c1) :: st) σ Q) : VV X M pc L (.int (gI i) :: .ref (cxA X c0) :: st) σ Q := by
  intro p e s m args below meth c A cells slots Z C hz H locs ls Wd S hl
  subst h1
  obtain ⟨h1, h2⟩ := gI_in hn hi.1 hi.2
  have hlt : (gI i).toNatClampNeg < n := Nat.not_le.mp fun q => h1 (Or.inr q)
  have hc : (wl X σ)[c0]? = some (cxA X c0, .inl (cxY X 3, n, .inr (.inr (.inr (.inr (fun j => some (cxA X (c0 + 1 + 1 * j)))))))) := by rw [wl_get (shp_lt (by rw [hs]; show 23 < 99; decide)), cont_ref hs (by decide)]; rfl
  refine W.aald (v := .ref (cxA X (c0 + 1 + 1 * i.toNat))) (ty := .array .int) C.1 C.2.1 (Wd.1 c0 _ hc) ((Wd.2.1.2 3 _ rfl).1 n (fun j => va_rf (some (cxA X (c0 + 1 + 1 * j))))) rfl (fun q => by cases q) (by show ¬ (gI i < 0 ∨ (arrV _ _ _).slots.size ≤ _); rw [arrV_size]; exact h1) (by show (arrV _ _ _).slots[_]? = _; rw [arrV_read _ _ hlt, h2]; rfl) rfl rfl hd ?_
  exact k p e s m args below meth c A cells slots Z C hz H locs ls Wd S hl
theorem V_aaldS {X : Cx} {M : MI} {pc : Nat} {L : List (Nat × Value)} {st : List Value} {σ : Sg} {Q : Int → Sg → Prop} {c0 n c1 : Nat} {i : Int} (hs : shp c0 = (24, n)) (hn : n < 2147483648) (hi : 0 ≤ i ∧ i < n) (h1 : c0 + 1 + 3 * i.toNat = c1) (hd : decode M.2.1 pc = .ok (.aaload, 1)) (k : VV X M (pc + 1) L (.ref (cxA X c1) :: st) σ Q) : VV X M pc L (.int (gI i) :: .ref (cxA X c0) :: st) σ Q := by
  intro p e s m args below meth c A cells slots Z C hz H locs ls Wd S hl
  subst h1
  obtain ⟨h1, h2⟩ := gI_in hn hi.1 hi.2
  have hlt : (gI i).toNatClampNeg < n := Nat.not_le.mp fun q => h1 (Or.inr q)
  have hc : (wl X σ)[c0]? = some (cxA X c0, .inl (cxY X 4, n, .inr (.inr (.inr (.inr (fun j => some (cxA X (c0 + 1 + 3 * j)))))))) := by rw [wl_get (shp_lt (by rw [hs]; show 24 < 99; decide)), cont_ref hs (by decide)]; rfl
  refine W.aald (v := .ref (cxA X (c0 + 1 + 3 * i.toNat))) (ty := .object "GreenDoor$Saying") C.1 C.2.1 (Wd.1 c0 _ hc) ((Wd.2.1.2 4 _ rfl).1 n (fun j => va_rf (some (cxA X (c0 + 1 + 3 * j))))) rfl (fun q => by cases q) (by show ¬ (gI i < 0 ∨ (arrV _ _ _).slots.size ≤ _); rw [arrV_size]; exact h1) (by show (arrV _ _ _).slots[_]? = _; rw [arrV_read _ _ hlt, h2]; rfl) rfl rfl hd ?_
  exact k p e s m args below meth c A cells slots Z C hz H locs ls Wd S hl
theorem V_alen {X : Cx} {M : MI} {pc : Nat} {L : List (Nat × Value)} {st : List Value} {σ : Sg} {Q : Int → Sg → Prop} {c0 kd n : Nat} (hs : shp c0 = (kd, n)) (h1 : 20 ≤ kd) (h2 : kd < 23) (hd : decode M.2.1 pc = .ok (.arraylength, 1)) (k : VV X M (pc + 1) L (.int (gI n) :: st) σ Q) : VV X M pc L (.ref (cxA X c0) :: st) σ Q := by
  intro p e s m args below meth c A cells slots Z C hz H locs ls Wd S hl
  have ht : ∃ ty, (tys X)[kd - 20]? = some (cxY X (kd - 20), ty) := by
    rcases (show kd = 20 ∨ kd = 21 ∨ kd = 22 by omega) with rfl | rfl | rfl <;> exact ⟨_, rfl⟩
  obtain ⟨ty, ht⟩ := ht
  exact va_alen C.1 C.2.1 Wd.2.1 Wd.1 c0 (kd - 20) (by rw [wl_get (shp_lt (by rw [hs]; exact Nat.lt_trans h2 (by decide))), cont_arr hs h1 h2]) ht (v := gI n) (Int32.ofInt_eq_ofNat).symm hd (k p e s m args below meth c A cells slots Z C hz H locs ls Wd S hl)
theorem V_gets {X : Cx} {M : MI} {pc : Nat} {L : List (Nat × Value)} {st : List Value} {σ : Sg} {Q : Int → Sg → Prop} {idx : Nat} (t : Nat) (h6 : t < 6) (hd : decode M.2.1 pc = .ok (.getstatic idx, 3)) (hl0 : Cond.fieldLink M.1.cls idx (stn t).1 (stn t).2 "[B" ∈ gdT) (k : VV X M (pc + 3) L (.ref (cxT X t) :: st) σ Q) : VV X M pc L st σ Q := by
  intro p e s m args below meth c A cells slots Z C hz H locs ls Wd S hl
  exact va_gets (ref := (stn t).1) C.1 C.2.1 ((C.2.2.2.2.2.2.2.2.1.1 t h6).1) S C.2.2.2.2.2.1 (C.2.2.2.2.2.2.1 _ hl0) (fun _ h9 => h9) hd (k p e s m args below meth c A cells slots Z C hz H locs ls Wd S hl)
theorem V_baldT {X : Cx} {M : MI} {pc : Nat} {L : List (Nat × Value)} {st : List Value} {σ : Sg} {Q : Int → Sg → Prop} (t : Nat) {i : Int} (h6 : t < 6) (hi : 0 ≤ i ∧ i < (stv t).length) (hd : decode M.2.1 pc = .ok (.baload, 1)) (k : VV X M (pc + 1) L (.int (gI ((stv t).getD i.toNat 0)) :: st) σ Q) : VV X M pc L (.int (gI i) :: .ref (cxT X t) :: st) σ Q := by
  intro p e s m args below meth c A cells slots Z C hz H locs ls Wd S hl
  have hn : (stv t).length < 2147483648 := by
    rcases (show t = 0 ∨ t = 1 ∨ t = 2 ∨ t = 3 ∨ t = 4 ∨ t = 5 by omega) with rfl | rfl | rfl | rfl | rfl | rfl <;> decide
  obtain ⟨h1, h2⟩ := gI_in hn hi.1 hi.2
  exact va_tb C.1 C.2.1 ((C.2.2.2.2.2.2.2.2.1.1 t h6).2) S h1 (by rw [h2]) hd (k p e s m args below meth c A cells slots Z C hz H locs ls Wd S hl)
theorem V_sld {X : Cx} {M : MI} {pc : Nat} {L : List (Nat × Value)} {st : List Value} {σ : Sg} {Q : Int → Sg → Prop} {i : Int} (hn : cxN X < 2147483648) (hi : 0 ≤ i ∧ i < cxN X) (hd : decode M.2.1 pc = .ok (.iaload, 1)) (k : VV X M (pc + 1) L (.int (gI (cxS X i.toNat).toInt) :: st) σ Q) : VV X M pc L (.int (gI i) :: .ref (cxB X) :: st) σ Q := by
  intro p e s m args below meth c A cells slots Z C hz H locs ls Wd S hl
  obtain ⟨h1, h2⟩ := gI_in hn hi.1 hi.2
  refine va_sld C.1 C.2.1 C.2.2.2.2.2.2.2.2.1.2.1.1 C.2.2.2.2.2.2.2.2.1.2.1.2.2 C.2.2.2.2.2.2.2.2.1.2.1.2.1 S h1 hd ?_
  rw [h2, ← gI_of (cxS X i.toNat)]
  exact k p e s m args below meth c A cells slots Z C hz H locs ls Wd S hl
theorem V_slen {X : Cx} {M : MI} {pc : Nat} {L : List (Nat × Value)} {st : List Value} {σ : Sg} {Q : Int → Sg → Prop} (hd : decode M.2.1 pc = .ok (.arraylength, 1)) (k : VV X M (pc + 1) L (.int (gI (cxN X)) :: st) σ Q) : VV X M pc L (.ref (cxB X) :: st) σ Q := by
  intro p e s m args below meth c A cells slots Z C hz H locs ls Wd S hl
  refine va_slen C.1 C.2.1 C.2.2.2.2.2.2.2.2.1.2.1.1 C.2.2.2.2.2.2.2.2.1.2.1.2.2 C.2.2.2.2.2.2.2.2.1.2.1.2.1 S hd ?_
  rw [← Int32.ofInt_eq_ofNat]
  exact k p e s m args below meth c A cells slots Z C hz H locs ls Wd S hl
theorem V_mmax {X : Cx} {M : MI} {pc : Nat} {L : List (Nat × Value)} {st : List Value} {σ : Sg} {Q : Int → Sg → Prop} {idx : Nat} {x y : Int} (hx : inI x) (hy : inI y) (hm : Cond.static Lib.Math.max.name ∈ gdT ∧ Cond.initialized "java/lang/Math" ∈ gdT ∧ Cond.code Lib.Math.max.name Lib.Math.max.code 2 (some .int) ∈ gdT) (hd : decode M.2.1 pc = .ok (.invokestatic idx, 3)) (hl0 : Cond.methodLink M.1.cls idx Lib.Math.max.name ∈ gdT) (hfr : 1 ≤ M.2.2.2.2.frames) (hlo : (st.map fun v => v.category).sum + 13 ≤ M.2.2.2.2.locals) (k : VV X M (pc + 3) L (.int (gI (if x < y then y else x)) :: st) σ Q) : VV X M pc L (.int (gI y) :: .int (gI x) :: st) σ Q := by
  intro p e s m args below meth c A cells slots Z C hz H locs ls Wd S hl
  refine va_mmax C.1 C.2.1 (C.2.2.1.trans hl.1.symm) C.2.2.2.2.2.1 (C.2.2.2.2.2.2.1 _ hl0) (C.2.2.2.2.2.2.1 _ hm.1) (C.2.2.2.2.2.2.1 _ hm.2.1) (C.2.2.2.2.2.2.1 _ hm.2.2) hfr hlo C.2.2.2.2.2.2.2.2.2.1 C.2.2.2.2.2.2.2.2.2.2 hd ?_
  rw [show (if gI x < gI y then gI y else gI x) = gI (if x < y then y else x) from by
    by_cases q : x < y
    · rw [if_pos q, if_pos ((gI_lt hx hy).mpr q)]
    · rw [if_neg q, if_neg (fun z => q ((gI_lt hx hy).mp z))]]
  exact k p e s m args below meth c A cells slots Z C hz H locs ls Wd S hl
theorem V_mmin {X : Cx} {M : MI} {pc : Nat} {L : List (Nat × Value)} {st : List Value} {σ : Sg} {Q : Int → Sg → Prop} {idx : Nat} {x y : Int} (hx : inI x) (hy : inI y) (hm : Cond.static Lib.Math.min.name ∈ gdT ∧ Cond.initialized "java/lang/Math" ∈ gdT ∧ Cond.code Lib.Math.min.name Lib.Math.min.code 2 (some .int) ∈ gdT) (hd : decode M.2.1 pc = .ok (.invokestatic idx, 3)) (hl0 : Cond.methodLink M.1.cls idx Lib.Math.min.name ∈ gdT) (hfr : 1 ≤ M.2.2.2.2.frames) (hlo : (st.map fun v => v.category).sum + 13 ≤ M.2.2.2.2.locals) (k : VV X M (pc + 3) L (.int (gI (if y < x then y else x)) :: st) σ Q) : VV X M pc L (.int (gI y) :: .int (gI x) :: st) σ Q := by
  intro p e s m args below meth c A cells slots Z C hz H locs ls Wd S hl
  refine va_mmin C.1 C.2.1 (C.2.2.1.trans hl.1.symm) C.2.2.2.2.2.1 (C.2.2.2.2.2.2.1 _ hl0) (C.2.2.2.2.2.2.1 _ hm.1) (C.2.2.2.2.2.2.1 _ hm.2.1) (C.2.2.2.2.2.2.1 _ hm.2.2) hfr hlo C.2.2.2.2.2.2.2.2.2.1 C.2.2.2.2.2.2.2.2.2.2 hd ?_
  rw [show (if gI y < gI x then gI y else gI x) = gI (if y < x then y else x) from by
    by_cases q : y < x
    · rw [if_pos q, if_pos ((gI_lt hy hx).mpr q)]
    · rw [if_neg q, if_neg (fun z => q ((gI_lt hy hx).mp z))]]
  exact k p e s m args below meth c A cells slots Z C hz H locs ls Wd S hl
theorem V_iret {X : Cx} {M : MI} {pc : Nat} {L : List (Nat × Value)} {st : List Value} {σ : Sg} {Q : Int → Sg → Prop} {x : Int} {ty : FieldType} (hr : M.2.2.2.1 = some ty) (ho : ∀ n, ty ≠ .object n) (hn : narrow ty (.int (gI x)) = .int (gI x)) (hd : decode M.2.1 pc = .ok (.ireturn, 1)) (k : Q x σ) : VV X M pc L (.int (gI x) :: []) σ Q := by
  intro p e s m args below meth c A cells slots Z C hz H locs ls Wd S hl
  have h1 : retOK M pc x := by
    unfold retOK; rw [hr]
    cases ty <;> first | exact absurd rfl (ho _) | exact ⟨hd, hn⟩
  have h2 := hz x σ H locs pc ls k Wd S h1
  have h3 : (retv X M.2.2.2.1 x).toList = [.int (gI x)] := by
    unfold retv; rw [hr]
    cases ty <;> first | exact absurd rfl (ho _) | rfl
  rw [h3] at h2
  exact h2
theorem V_vret {X : Cx} {M : MI} {pc : Nat} {L : List (Nat × Value)} {st : List Value} {σ : Sg} {Q : Int → Sg → Prop} (hr : M.2.2.2.1 = none) (hd : decode M.2.1 pc = .ok (.return_, 1)) (k : Q 0 σ) : VV X M pc L [] σ Q := by
  intro p e s m args below meth c A cells slots Z C hz H locs ls Wd S hl
  have h1 : retOK M pc 0 := by unfold retOK; rw [hr]; exact hd
  have h2 := hz 0 σ H locs pc ls k Wd S h1
  have h3 : (retv X M.2.2.2.1 0).toList = [] := by unfold retv; rw [hr]; rfl
  rw [h3] at h2
  exact h2
theorem V_aret {X : Cx} {M : MI} {pc : Nat} {L : List (Nat × Value)} {st : List Value} {σ : Sg} {Q : Int → Sg → Prop} {c0 : Nat} {n : String} (hr : M.2.2.2.1 = some (.object n)) (hd : decode M.2.1 pc = .ok (.areturn, 1)) (k : Q c0 σ) : VV X M pc L (.ref (cxA X c0) :: []) σ Q := by
  intro p e s m args below meth c A cells slots Z C hz H locs ls Wd S hl
  have h1 : retOK M pc c0 := by unfold retOK; rw [hr]; exact hd
  have h2 := hz c0 σ H locs pc ls k Wd S h1
  have h3 : (retv X M.2.2.2.1 c0).toList = [.ref (cxA X c0)] := by unfold retv; rw [hr]; rfl
  rw [h3] at h2
  exact h2
theorem World.moved {X : Cx} {σ : Sg} {s U : State} {H : Heap} (hvm : s.vm.Alike U.vm) (h : World X σ s H) : World X σ U H := ⟨h.1, va_K.moved hvm h.2.1, h.2.2.1, h.2.2.2⟩
/-- a method's end, for every caller -/
def QV (X : Cx) (M : MI) (Q : Int → Sg → Prop) : Array Value → State → Outcome → State → Prop := fun _ st oc t => (∃ (r : Int) (σ' : Sg), oc = .returned (retv X M.2.2.2.1 r) ∧ Q r σ' ∧ World X σ' t t.heap) ∧ va_F (AX X) st t
/-- a method's contract: from the world σ it returns, with an answer and a world of which Q -/
def CC (X : Cx) (M : MI) (av : List Value) (σ : Sg) (Q : Int → Sg → Prop) : Prop := Met (cxL X) M.1 (wsM M) M.2.2.2.2 (va_Pc av (fun U => World X σ U U.heap ∧ Stc X (AX X) U U.heap)) (QV X M Q) 0 0 (AX X)
theorem V_enter {X : Cx} {M : MI} {av : List Value} {σ : Sg} {Q : Int → Sg → Prop} {L : List (Nat × Value)} (hy : plainName M.1.cls = true) (hlen : (lg_sl av).length ≤ M.2.2.1) (hL : lv_args 0 av = L) (h : VV X M 0 L [] σ Q) : CC X M av σ Q := by
  subst hL
  refine Met.ofW (cc := M.2.1) (maxL := M.2.2.1) (ret := M.2.2.2.1) hy rfl ?_
  intro p e s m args below meth c s₁ B hml hv
  obtain ⟨rfl, Wd, St⟩ := hv
  have hts := atoms_spec (ws := wsM M) B.pre
  have hlocks := B.notSynchronized
  have hl := lv_entry av hlen
  rw [lg_entry_eq]
  generalize (lg_sl av ++ List.replicate (M.2.2.1 - (lg_sl av).length) Slot.unset).toArray = ls at hl ⊢
  refine h p e s m _ below meth c (AX X) 0 0 _ ⟨B.exec, B.bytes, hml, B.returns, hlocks, findClass_of_methodNamed B.named, fun w hw => hts w (List.mem_cons_of_mem _ hw), fun _ q => q, St, Nat.zero_le _, Nat.zero_le _⟩ ?_ s.heap [] ls Wd va_S.rf hl
  intro r σ' H' locs' pc' ls' hq Wd' S' hok
  have hr := B.returns
  have post : ∀ t : State, t.heap = H' → s.WarmedH t.vm → QV X M Q av.toArray s (.returned (retv X M.2.2.2.1 r)) t := fun t ht hW => ⟨⟨r, σ', rfl, hq, by rw [ht]; exact Wd'.moved hW.alike⟩, S'.F ht⟩
  unfold retOK at hok
  generalize hret : M.2.2.2.1 = ret at hok post hr ⊢
  match ret, hok, post, hr with
  | none, hok, post, hr => exact W.vret B.exec B.bytes hr post S'.2.2 hok
  | some (.object n), hok, post, hr => exact W.aret B.exec B.bytes hr (Or.inl ⟨n, rfl⟩) (Or.inr ⟨_, rfl⟩) post S'.2.2 hok
  | some .int, hok, post, hr => exact W.zret B.exec B.bytes hr hok.2 post S'.2.2 hok.1
  | some .boolean, hok, post, hr => exact W.zret B.exec B.bytes hr hok.2 post S'.2.2 hok.1
  | some .char, hok, post, hr => exact W.zret B.exec B.bytes hr hok.2 post S'.2.2 hok.1
  | some .byte, hok, post, hr => exact W.zret B.exec B.bytes hr hok.2 post S'.2.2 hok.1
  | some .short, hok, post, hr => exact W.zret B.exec B.bytes hr hok.2 post S'.2.2 hok.1
  | some .long, hok, post, hr => exact W.zret B.exec B.bytes hr hok.2 post S'.2.2 hok.1
  | some .float, hok, post, hr => exact W.zret B.exec B.bytes hr hok.2 post S'.2.2 hok.1
  | some .double, hok, post, hr => exact W.zret B.exec B.bytes hr hok.2 post S'.2.2 hok.1
  | some (.array t), hok, post, hr => exact W.zret B.exec B.bytes hr hok.2 post S'.2.2 hok.1
def okB (M : MI) (n : Nat) : Prop := Cond.code M.1 M.2.1 M.2.2.1 M.2.2.2.1 ∈ gdT ∧ Cond.initialized M.1.cls ∈ gdT ∧ (M.1.cls ≠ "java/lang/invoke/MethodHandle" ∧ M.1.cls ≠ "java/lang/invoke/VarHandle" ∧ (parseMethodDescriptor M.1.desc).map (fun d => d.parameters.length) = some n) ∧ M.2.2.2.2.cells = 0 ∧ M.2.2.2.2.slots = 0
theorem tbl_good {w : Cond} (h : w ∈ gdT) : goodWord w = true := (List.mem_filter.mp h).2
theorem okB.good {M : MI} {n : Nat} (h : okB M n) : GoodIn gdT (wsM M) := by
  intro w hw
  rcases List.mem_cons.mp hw with rfl | hw
  · exact ⟨h.1, good_of_word (tbl_good h.1)⟩
  · exact ⟨hw, good_of_word (tbl_good hw)⟩
theorem CC_blind {X : Cx} {av : List Value} {σ : Sg} : FrameBlind (va_Pc av (fun U => World X σ U U.heap ∧ Stc X (AX X) U U.heap)) := by
  intro a U g mk q
  obtain ⟨h1, h2, h3⟩ := q
  exact ⟨h1, World.moved (s := U) (U := U.calling g mk a) (Vm.Alike.refl U.vm) h2, Stc.warm (s := U) (U := U.calling g mk a) (State.WarmedH.refl U) h3⟩
section VCALL
variable {X : Cx} {M M' : MI} {σ : Sg} {Q : Int → Sg → Prop} {p : Program} {e : Env} {s : State} {m : MethodId} {args : Array Value} {below : List Frame} {meth : Method} {c : Code} {A : Nat → Prop} {cells slots : Nat} {Z : State → Prop} {pc : Nat} {L : List (Nat × Value)} {st st0 : List Value} {H : Heap} {locs : List Loc} {ls : Array Slot} {a : Array Value}
theorem V_back (C : VC X M p s m args meth c A cells slots)
    (hz : ∀ (r : Int) (σ' : Sg) (H' : Heap) (locs' : List Loc) (pc' : Nat) (ls' : Array Slot), Q r σ' → World X σ' s H' → va_S A s.heap H' locs' → retOK M pc' r → W p (cxL X) e M.2.2.2.2 s m args below meth c H' locs' cells slots Z (F0 m pc' ls' (retv X M.2.2.2.1 r).toList))
    (S : va_S A s.heap H locs) (hl : lv_has ls M.2.2.1 L)
    (hr : va_Run p (cxL X) e M.2.2.2.2 s m args below meth c H locs cells slots 0 0 (F0 m pc ls st0) st (QV X M' (fun r σ' => VV X M (pc + 3) L ((retv X M'.2.2.2.1 r).toList ++ st) σ' Q) a) (AX X)) :
    W p (cxL X) e M.2.2.2.2 s m args below meth c H locs cells slots Z (F0 m pc ls st0) := by
  have hA := C.2.2.2.2.2.2.2.1
  intro T hT Xs
  obtain ⟨v, st₀, t, T', L', h0, X', hL, e1, e2, ⟨⟨r, σ', hv, hq, Wd⟩, hz1, hk⟩, stp⟩ := hr T hT Xs
  cases hv
  rw [h0] at hz1 hk
  rw [← e1] at Wd hz1 hk
  have hal : t.vm.Alike s.vm := by rw [← e2]; exact X'.warmed.alike.symm
  have S' : va_S A s.heap T'.heap (locs ++ L') := ⟨Nat.le_trans S.1 hz1, fun q h1 h2 => by rw [hk q (Nat.lt_of_lt_of_le h1 S.1) (fun z => h2 (hA q z))]; exact S.2.1 q h1 h2, fun q hq => by
    rcases List.mem_append.mp hq with h | h
    · exact S.2.2 q h
    · exact hA _ (hL q h)⟩
  obtain ⟨t2, a1, b1⟩ := hq p e s m args below meth c A cells slots Z C hz T'.heap (locs ++ L') ls (Wd.moved hal) S' hl T' rfl X'
  exact ⟨t2, stp t2 a1, b1⟩
theorem V_pre {av : List Value} (C : VC X M p s m args meth c A cells slots) (Wd : World X σ s H) (S : va_S A s.heap H locs) : ∀ U : State, U.heap = H → s.WarmedH U.vm → va_Pc av (fun U => World X σ U U.heap ∧ Stc X (AX X) U U.heap) av.toArray U := by
  intro U hU hW
  refine ⟨rfl, by rw [hU]; exact Wd.moved hW.alike, ?_⟩
  rw [hU]
  exact ((C.2.2.2.2.2.2.2.2.1.kept S.1 S.2.1).narrow C.2.2.2.2.2.2.2.1).warm hW
theorem V_roomOK (C : VC X M p s m args meth c A cells slots) : cells + 0 ≤ M.2.2.2.2.cells ∧ slots + 0 ≤ M.2.2.2.2.slots := ⟨C.2.2.2.2.2.2.2.2.2.1, C.2.2.2.2.2.2.2.2.2.2⟩
end VCALL

theorem V_callV {X : Cx} {M : MI} {pc : Nat} {L : List (Nat × Value)} {st st0 : List Value} {σ : Sg} {Q : Int → Sg → Prop} {M' : MI} {idx n : Nat} {c0 ci n0 N : Nat} {T : u_T} {As : List Value} (hok : okB M' n) (hi : Cond.instanceMethod M'.1 ∈ gdT ∧ Cond.selects M'.1.cls M'.1 M'.1 ∈ gdT) (hs : shp c0 = (ci, n0)) (hc : vwCl[ci]? = some (M'.1.cls, T, N)) (hci : ci < 20) (hn : As.length = n) (hst : st0 = As.reverse ++ .ref (cxA X c0) :: st) (hsum : (st.map fun v => v.category).sum ≤ 8) (hd : decode M.2.1 pc = .ok (.invokevirtual idx, 3)) (hl0 : Cond.methodLink M.1.cls idx M'.1 ∈ gdT) (hR : M'.2.2.2.2.frames + 1 ≤ M.2.2.2.2.frames ∧ 8 + (M'.2.2.1 + 11) + M'.2.2.2.2.locals ≤ M.2.2.2.2.locals) (h : CC X M' (.ref (cxA X c0) :: As) σ (fun r σ' => VV X M (pc + 3) L ((retv X M'.2.2.2.1 r).toList ++ st) σ' Q)) : VV X M pc L st0 σ Q := by
  intro p e s m args below meth c A cells slots Z C hz H locs ls Wd S hl
  subst hst
  refine V_back C hz S hl (va_runV ⟨C.1, C.2.1, C.2.2.1, C.2.2.2.2.2.1, C.2.2.2.2.2.2.1⟩ h ⟨(callB_of n C.2.2.2.2.2.2.1 hok.good rfl hok.2.2.2.1 hok.2.2.2.2 (C.2.2.2.2.2.2.1 _ hok.2.1) (C.2.2.2.2.2.2.1 _ hl0) hok.2.2.1 hR), C.2.2.2.2.2.2.1 _ hi.1, C.2.2.2.2.2.2.1 _ hi.2⟩ ⟨CC_blind, va_recv (ci := ci) (q0 := c0) Wd.2.1 Wd.1 hc (by rw [wl_get (shp_lt (by rw [hs]; exact Nat.lt_trans hci (by decide))), cont_obj hs hci]), V_pre C Wd S⟩ rfl hn hl.1 rfl (lv_room hsum) hd (V_roomOK C))
theorem V_callS {X : Cx} {M : MI} {pc : Nat} {L : List (Nat × Value)} {st st0 : List Value} {σ : Sg} {Q : Int → Sg → Prop} {M' : MI} {idx n : Nat} {As : List Value} (hok : okB M' n) (hi : Cond.static M'.1 ∈ gdT) (hn : As.length = n) (hst : st0 = As.reverse ++ st) (hsum : (st.map fun v => v.category).sum ≤ 8) (hd : decode M.2.1 pc = .ok (.invokestatic idx, 3)) (hl0 : Cond.methodLink M.1.cls idx M'.1 ∈ gdT) (hR : M'.2.2.2.2.frames + 1 ≤ M.2.2.2.2.frames ∧ 8 + (M'.2.2.1 + 11) + M'.2.2.2.2.locals ≤ M.2.2.2.2.locals) (h : CC X M' As σ (fun r σ' => VV X M (pc + 3) L ((retv X M'.2.2.2.1 r).toList ++ st) σ' Q)) : VV X M pc L st0 σ Q := by
  intro p e s m args below meth c A cells slots Z C hz H locs ls Wd S hl
  subst hst
  refine V_back C hz S hl (va_runS ⟨C.1, C.2.1, C.2.2.1, C.2.2.2.2.2.1, C.2.2.2.2.2.2.1⟩ h ⟨(callB_of n C.2.2.2.2.2.2.1 hok.good rfl hok.2.2.2.1 hok.2.2.2.2 (C.2.2.2.2.2.2.1 _ hok.2.1) (C.2.2.2.2.2.2.1 _ hl0) hok.2.2.1 hR), C.2.2.2.2.2.2.1 _ hi⟩ ⟨CC_blind, V_pre C Wd S⟩ rfl hn hl.1 rfl (lv_room hsum) hd (V_roomOK C))
theorem V_callSN {X : Cx} {M : MI} {pc : Nat} {L : List (Nat × Value)} {st st0 : List Value} {σ : Sg} {Q : Int → Sg → Prop} {M' : MI} {idx n : Nat} {host : String} {As : List Value} (hok : okB M' n) (hi : Cond.static M'.1 ∈ gdT) (hn : As.length = n) (hst : st0 = As.reverse ++ st) (hsum : (st.map fun v => v.category).sum ≤ 8) (hd : decode M.2.1 pc = .ok (.invokestatic idx, 3)) (hl0 : Cond.methodLinkNest M.1.cls idx M'.1 host ∈ lw_tbl) (hR : M'.2.2.2.2.frames + 1 ≤ M.2.2.2.2.frames ∧ 8 + (M'.2.2.1 + 11) + M'.2.2.2.2.locals ≤ M.2.2.2.2.locals) (h : CC X M' As σ (fun r σ' => VV X M (pc + 3) L ((retv X M'.2.2.2.1 r).toList ++ st) σ' Q)) : VV X M pc L st0 σ Q := by
  intro p e s m args below meth c A cells slots Z C hz H locs ls Wd S hl
  subst hst
  refine V_back C hz S hl (va_runSN ⟨C.1, C.2.1, C.2.2.1, C.2.2.2.2.2.1, C.2.2.2.2.2.2.1⟩ h ⟨va_cnB n C.2.2.2.2.2.2.1 hok.good rfl hok.2.2.2.1 hok.2.2.2.2 (C.2.2.2.2.2.2.2.2.1.2.2.2.2.2.2 _ _ _ _ hl0) (C.2.2.2.2.2.2.1 _ hok.2.1) hok.2.2.1 hR, C.2.2.2.2.2.2.1 _ hi, trivial⟩ ⟨CC_blind, V_pre C Wd S⟩ rfl hn hl.1 rfl (lv_room hsum) hd (V_roomOK C))
end
section
/-! calls, in the form that the printed rows use; the shapes of the cells -/
theorem CC.mono {X : Cx} {M : MI} {av : List Value} {σ : Sg} {Q Q' : Int → Sg → Prop} (h : CC X M av σ Q) (hq : ∀ r σ', Q r σ' → Q' r σ') : CC X M av σ Q' := by
  intro p e ha hc hk s m args below hf happ hP hK
  obtain ⟨n, o, h1, h2, h3, ⟨⟨r, σ', e1, e2, e3⟩, h5⟩, h6⟩ := h p e ha hc hk s m args below hf happ hP hK
  exact ⟨n, o, h1, h2, h3, ⟨⟨r, σ', e1, hq r σ' e2, e3⟩, h5⟩, h6⟩
theorem V_cV {X : Cx} {M : MI} {pc : Nat} {L : List (Nat × Value)} {st st0 : List Value} {σ : Sg} {Q T : Int → Sg → Prop} {M' : MI} {idx n : Nat} {c0 ci n0 N : Nat} {U : u_T} {As : List Value} (rs : Int → List Value) (hok : okB M' n) (hi : Cond.instanceMethod M'.1 ∈ gdT ∧ Cond.selects M'.1.cls M'.1 M'.1 ∈ gdT) (hs : shp c0 = (ci, n0)) (hc : vwCl[ci]? = some (M'.1.cls, U, N)) (hci : ci < 20) (hn : As.length = n) (hst : st0 = As.reverse ++ .ref (cxA X c0) :: st) (hsum : (st.map fun v => v.category).sum ≤ 8) (hd : decode M.2.1 pc = .ok (.invokevirtual idx, 3)) (hl0 : Cond.methodLink M.1.cls idx M'.1 ∈ gdT)
    (hR : M'.2.2.2.2.frames + 1 ≤ M.2.2.2.2.frames ∧ 8 + (M'.2.2.1 + 11) + M'.2.2.2.2.locals ≤ M.2.2.2.2.locals) (hrs : ∀ r, (retv X M'.2.2.2.1 r).toList ++ st = rs r) (h : CC X M' (.ref (cxA X c0) :: As) σ T) (k : ∀ r σ', T r σ' → VV X M (pc + 3) L (rs r) σ' Q) : VV X M pc L st0 σ Q :=
  V_callV hok hi hs hc hci hn hst hsum hd hl0 hR (h.mono fun r σ' q => by rw [hrs]; exact k r σ' q)
theorem V_cS {X : Cx} {M : MI} {pc : Nat} {L : List (Nat × Value)} {st st0 : List Value} {σ : Sg} {Q T : Int → Sg → Prop} {M' : MI} {idx n : Nat} {As : List Value} (rs : Int → List Value) (hok : okB M' n) (hi : Cond.static M'.1 ∈ gdT) (hn : As.length = n) (hst : st0 = As.reverse ++ st) (hsum : (st.map fun v => v.category).sum ≤ 8) (hd : decode M.2.1 pc = .ok (.invokestatic idx, 3)) (hl0 : Cond.methodLink M.1.cls idx M'.1 ∈ gdT)
    (hR : M'.2.2.2.2.frames + 1 ≤ M.2.2.2.2.frames ∧ 8 + (M'.2.2.1 + 11) + M'.2.2.2.2.locals ≤ M.2.2.2.2.locals) (hrs : ∀ r, (retv X M'.2.2.2.1 r).toList ++ st = rs r) (h : CC X M' As σ T) (k : ∀ r σ', T r σ' → VV X M (pc + 3) L (rs r) σ' Q) : VV X M pc L st0 σ Q :=
  V_callS hok hi hn hst hsum hd hl0 hR (h.mono fun r σ' q => by rw [hrs]; exact k r σ' q)
theorem V_cN {X : Cx} {M : MI} {pc : Nat} {L : List (Nat × Value)} {st st0 : List Value} {σ : Sg} {Q T : Int → Sg → Prop} {M' : MI} {idx n : Nat} {host : String} {As : List Value} (rs : Int → List Value) (hok : okB M' n) (hi : Cond.static M'.1 ∈ gdT) (hn : As.length = n) (hst : st0 = As.reverse ++ st) (hsum : (st.map fun v => v.category).sum ≤ 8) (hd : decode M.2.1 pc = .ok (.invokestatic idx, 3)) (hl0 : Cond.methodLinkNest M.1.cls idx M'.1 host ∈ lw_tbl)
    (hR : M'.2.2.2.2.frames + 1 ≤ M.2.2.2.2.frames ∧ 8 + (M'.2.2.1 + 11) + M'.2.2.2.2.locals ≤ M.2.2.2.2.locals) (hrs : ∀ r, (retv X M'.2.2.2.1 r).toList ++ st = rs r) (h : CC X M' As σ T) (k : ∀ r σ', T r σ' → VV X M (pc + 3) L (rs r) σ' Q) : VV X M pc L st0 σ Q :=
  V_callSN hok hi hn hst hsum hd hl0 hR (h.mono fun r σ' q => by rw [hrs]; exact k r σ' q)
def isSay (c : Nat) : Prop := shp c = (3, 0) ∧ shp (c + 1) = (20, 24) ∧ shp (c + 2) = (20, 24)
def isWay (c : Nat) : Prop := shp c = (8, 0) ∧ shp (c + 1) = (20, 256) ∧ shp (c + 2) = (20, 256) ∧ shp (c + 3) = (20, 256) ∧ shp (c + 4) = (20, 256) ∧ shp (c + 5) = (20, 256) ∧ shp (c + 6) = (20, 256)
theorem isSay_14 : isSay 14 := by unfold isSay; decide +kernel
theorem isSay_k : ∀ n, n < 8 → isSay (18 + 3 * n) := by unfold isSay; decide +kernel
theorem isWay_42 : isWay 42 := by unfold isWay; decide +kernel
theorem isWay_50 : isWay 50 := by unfold isWay; decide +kernel
theorem sh_row : ∀ n, n < 8 → shp (3 + n) = (20, 8) := by decide +kernel
theorem inI_z (x : Int32) : inI x.toInt := inI_to x
theorem inI_stv (t n : Nat) (h : t < 6) : inI ((stv t).getD n 0) := by
  rw [List.getD_eq_getElem?_getD]
  cases hq : (stv t)[n]? with
  | none => decide
  | some v =>
    have hm := List.mem_of_getElem? hq
    have key : ∀ t, t < 6 → ∀ v ∈ stv t, inI v := by decide +kernel
    exact key t h v hm
theorem sh_0 : shp 0 = (9, 0) := by decide +kernel
theorem sh_1 : shp 1 = (4, 0) := by decide +kernel
theorem sh_2 : shp 2 = (23, 8) := by decide +kernel
theorem sh_3 : shp 3 = (20, 8) := by decide +kernel
theorem sh_4 : shp 4 = (20, 8) := by decide +kernel
theorem sh_5 : shp 5 = (20, 8) := by decide +kernel
theorem sh_6 : shp 6 = (20, 8) := by decide +kernel
theorem sh_7 : shp 7 = (20, 8) := by decide +kernel
theorem sh_8 : shp 8 = (20, 8) := by decide +kernel
theorem sh_9 : shp 9 = (20, 8) := by decide +kernel
theorem sh_10 : shp 10 = (20, 8) := by decide +kernel
theorem sh_11 : shp 11 = (20, 15) := by decide +kernel
theorem sh_12 : shp 12 = (6, 0) := by decide +kernel
theorem sh_13 : shp 13 = (22, 160) := by decide +kernel
theorem sh_14 : shp 14 = (3, 0) := by decide +kernel
theorem sh_15 : shp 15 = (20, 24) := by decide +kernel
theorem sh_16 : shp 16 = (20, 24) := by decide +kernel
theorem sh_17 : shp 17 = (24, 8) := by decide +kernel
theorem sh_18 : shp 18 = (3, 0) := by decide +kernel
theorem sh_19 : shp 19 = (20, 24) := by decide +kernel
theorem sh_20 : shp 20 = (20, 24) := by decide +kernel
theorem sh_21 : shp 21 = (3, 0) := by decide +kernel
theorem sh_22 : shp 22 = (20, 24) := by decide +kernel
theorem sh_23 : shp 23 = (20, 24) := by decide +kernel
theorem sh_24 : shp 24 = (3, 0) := by decide +kernel
theorem sh_25 : shp 25 = (20, 24) := by decide +kernel
theorem sh_26 : shp 26 = (20, 24) := by decide +kernel
theorem sh_27 : shp 27 = (3, 0) := by decide +kernel
theorem sh_28 : shp 28 = (20, 24) := by decide +kernel
theorem sh_29 : shp 29 = (20, 24) := by decide +kernel
theorem sh_30 : shp 30 = (3, 0) := by decide +kernel
theorem sh_31 : shp 31 = (20, 24) := by decide +kernel
theorem sh_32 : shp 32 = (20, 24) := by decide +kernel
theorem sh_33 : shp 33 = (3, 0) := by decide +kernel
theorem sh_34 : shp 34 = (20, 24) := by decide +kernel
theorem sh_35 : shp 35 = (20, 24) := by decide +kernel
theorem sh_36 : shp 36 = (3, 0) := by decide +kernel
theorem sh_37 : shp 37 = (20, 24) := by decide +kernel
theorem sh_38 : shp 38 = (20, 24) := by decide +kernel
theorem sh_39 : shp 39 = (3, 0) := by decide +kernel
theorem sh_40 : shp 40 = (20, 24) := by decide +kernel
theorem sh_41 : shp 41 = (20, 24) := by decide +kernel
theorem sh_42 : shp 42 = (8, 0) := by decide +kernel
theorem sh_43 : shp 43 = (20, 256) := by decide +kernel
theorem sh_44 : shp 44 = (20, 256) := by decide +kernel
theorem sh_45 : shp 45 = (20, 256) := by decide +kernel
theorem sh_46 : shp 46 = (20, 256) := by decide +kernel
theorem sh_47 : shp 47 = (20, 256) := by decide +kernel
theorem sh_48 : shp 48 = (20, 256) := by decide +kernel
theorem sh_49 : shp 49 = (0, 0) := by decide +kernel
theorem sh_50 : shp 50 = (8, 0) := by decide +kernel
theorem sh_51 : shp 51 = (20, 256) := by decide +kernel
theorem sh_52 : shp 52 = (20, 256) := by decide +kernel
theorem sh_53 : shp 53 = (20, 256) := by decide +kernel
theorem sh_54 : shp 54 = (20, 256) := by decide +kernel
theorem sh_55 : shp 55 = (20, 256) := by decide +kernel
theorem sh_56 : shp 56 = (20, 256) := by decide +kernel
theorem sh_57 : shp 57 = (7, 0) := by decide +kernel
theorem sh_58 : shp 58 = (20, 8) := by decide +kernel
theorem sh_59 : shp 59 = (20, 8) := by decide +kernel
theorem sh_60 : shp 60 = (20, 8) := by decide +kernel
theorem sh_61 : shp 61 = (1, 0) := by decide +kernel
theorem sh_62 : shp 62 = (20, 8) := by decide +kernel
theorem sh_63 : shp 63 = (20, 8) := by decide +kernel
theorem sh_64 : shp 64 = (20, 8) := by decide +kernel
theorem sh_65 : shp 65 = (2, 0) := by decide +kernel
theorem sh_66 : shp 66 = (20, 256) := by decide +kernel
theorem sh_67 : shp 67 = (5, 0) := by decide +kernel
theorem sh_68 : shp 68 = (20, 12) := by decide +kernel
theorem sh_69 : shp 69 = (10, 0) := by decide +kernel
theorem sh_70 : shp 70 = (20, 8) := by decide +kernel
theorem sh_71 : shp 71 = (20, 8) := by decide +kernel
theorem sh_72 : shp 72 = (20, 8) := by decide +kernel
theorem sh_73 : shp 73 = (20, 8) := by decide +kernel
theorem sh_74 : shp 74 = (20, 8) := by decide +kernel
theorem sh_75 : shp 75 = (20, 8) := by decide +kernel
theorem sh_76 : shp 76 = (20, 15) := by decide +kernel
theorem sh_77 : shp 77 = (20, 160) := by decide +kernel
theorem sh_78 : shp 78 = (20, 24) := by decide +kernel
theorem sh_79 : shp 79 = (20, 24) := by decide +kernel
theorem sh_80 : shp 80 = (20, 26) := by decide +kernel
theorem sh_81 : shp 81 = (20, 8) := by decide +kernel
theorem sh_82 : shp 82 = (20, 192) := by decide +kernel
theorem sh_83 : shp 83 = (20, 192) := by decide +kernel
theorem sh_84 : shp 84 = (20, 256) := by decide +kernel
theorem sh_85 : shp 85 = (20, 256) := by decide +kernel
theorem sh_86 : shp 86 = (20, 256) := by decide +kernel
theorem sh_87 : shp 87 = (20, 256) := by decide +kernel
theorem sh_88 : shp 88 = (20, 256) := by decide +kernel
theorem sh_89 : shp 89 = (20, 256) := by decide +kernel
theorem sh_90 : shp 90 = (21, 256) := by decide +kernel
theorem sh_91 : shp 91 = (20, 8) := by decide +kernel
theorem sh_92 : shp 92 = (20, 8) := by decide +kernel
theorem sh_93 : shp 93 = (20, 8) := by decide +kernel
theorem sh_94 : shp 94 = (20, 8) := by decide +kernel
theorem sh_95 : shp 95 = (20, 8) := by decide +kernel
theorem sh_96 : shp 96 = (20, 8) := by decide +kernel
theorem sh_97 : shp 97 = (20, 256) := by decide +kernel
theorem sh_98 : shp 98 = (20, 12) := by decide +kernel
theorem ci_X0 : CI 0 RX0 TX0 5 tyX0 := ⟨rfl, by decide, by decide +kernel, tyX0_ok, nmX0⟩
theorem ci_X1 : CI 1 RX1 TX1 4 tyX1 := ⟨rfl, by decide, by decide +kernel, tyX1_ok, nmX1⟩
theorem ci_X2 : CI 2 RX2 TX2 3 tyX2 := ⟨rfl, by decide, by decide +kernel, tyX2_ok, nmX2⟩
theorem ci_X4 : CI 3 RX4 TX4 3 tyX4 := ⟨rfl, by decide, by decide +kernel, tyX4_ok, nmX4⟩
theorem ci_X5 : CI 4 RX5 TX5 3 tyX5 := ⟨rfl, by decide, by decide +kernel, tyX5_ok, nmX5⟩
theorem ci_X6 : CI 5 RX6 TX6 2 tyX6 := ⟨rfl, by decide, by decide +kernel, tyX6_ok, nmX6⟩
theorem ci_X7 : CI 6 RX7 TX7 5 tyX7 := ⟨rfl, by decide, by decide +kernel, tyX7_ok, nmX7⟩
theorem ci_X8 : CI 7 RX8 TX8 3 tyX8 := ⟨rfl, by decide, by decide +kernel, tyX8_ok, nmX8⟩
theorem ci_X9 : CI 8 RX9 TX9 12 tyX9 := ⟨rfl, by decide, by decide +kernel, tyX9_ok, nmX9⟩
theorem ci_X11 : CI 9 RX11 TX11 12 tyX11 := ⟨rfl, by decide, by decide +kernel, tyX11_ok, nmX11⟩
theorem ci_X12 : CI 10 RX12 TX12 41 tyX12 := ⟨rfl, by decide, by decide +kernel, tyX12_ok, nmX12⟩
end
section
/-! rows that a few methods need: long constants' neighbours, static rows' length, System.arraycopy of eight, the text of the words' names -/
theorem sh_69' : shp 69 = (10, 0) := by decide +kernel
theorem inI_sh {σ : Sg} {c kd n k : Nat} (hR : Rng σ) (hs : shp c = (kd, n)) (hk : kd ≠ 10) : inI (σ c k) := by
  refine hR.1 c k (fun q => hk ?_)
  have h := hs
  rw [q.1, sh_69'] at h
  exact (congrArg Prod.fst h).symm
theorem inI_jc (x y : Int) : inI (jcmp x y) := by
  unfold jcmp
  split
  · decide
  · split <;> decide
theorem V_ldc_w {X : Cx} {M : MI} {pc : Nat} {L : List (Nat × Value)} {st : List Value} {σ : Sg} {Q : Int → Sg → Prop} {idx : Nat} {v : Int32} {x : Int} (hd : decode M.2.1 pc = .ok (.ldc_w idx, 3)) (hc : Cond.constant M.1.cls idx v ∈ gdT) (hv : v = gI x) (k : VV X M (pc + 3) L (.int (gI x) :: st) σ Q) : VV X M pc L st σ Q := by
  intro p e s m args below meth c A cells slots Z C hz H locs ls Wd S hl
  subst hv
  exact lv_ldcw C.1 C.2.1 C.2.2.2.2.2.1 (C.2.2.2.2.2.2.1 _ hc) hd (k p e s m args below meth c A cells slots Z C hz H locs ls Wd S hl)
theorem V_alenT {X : Cx} {M : MI} {pc : Nat} {L : List (Nat × Value)} {st : List Value} {σ : Sg} {Q : Int → Sg → Prop} (t : Nat) (h6 : t < 6) (hd : decode M.2.1 pc = .ok (.arraylength, 1)) (k : VV X M (pc + 1) L (.int (gI (stv t).length) :: st) σ Q) : VV X M pc L (.ref (cxT X t) :: st) σ Q := by
  intro p e s m args below meth c A cells slots Z C hz H locs ls Wd S hl
  exact va_tlen C.1 C.2.1 ((C.2.2.2.2.2.2.2.2.1.1 t h6).2) S (Int32.ofInt_eq_ofNat).symm hd (k p e s m args below meth c A cells slots Z C hz H locs ls Wd S hl)
/-- the first eight places of cell a stand in cell b -/
def cpy8 (σ : Sg) (a b : Nat) : Sg := fun c k => if c = b ∧ k < 8 then σ a k else σ c k
theorem ok_arrc : Cond.native arraycopyName ∈ gdT ∧ Cond.static arraycopyName ∈ gdT ∧ Cond.initialized "java/lang/System" ∈ gdT := ⟨by decide +kernel, by decide +kernel, by decide +kernel⟩
theorem nfw_arrc : nativeFrameWords "java/lang/System" "arraycopy" 5 + 11 ≤ 50 := by decide +kernel
theorem V_copy8 {X : Cx} {M : MI} {pc : Nat} {L : List (Nat × Value)} {st : List Value} {σ : Sg} {Q : Int → Sg → Prop} {idx a b : Nat} (ha : shp a = (20, 8)) (hb : shp b = (20, 8)) (hd : decode M.2.1 pc = .ok (.invokestatic idx, 3)) (hl0 : Cond.methodLink M.1.cls idx arraycopyName ∈ gdT) (hfr : 1 ≤ M.2.2.2.2.frames) (hlo : (st.map fun v => v.category).sum + 50 ≤ M.2.2.2.2.locals) (k : VV X M (pc + 3) L st (cpy8 σ a b) Q) : VV X M pc L (.int (gI 8) :: .int (gI 0) :: .ref (cxA X b) :: .int (gI 0) :: .ref (cxA X a) :: st) σ Q := by
  intro p e0 s m args below meth c A cells slots Z C hz H locs ls Wd S hl
  obtain ⟨hP, hK, hDX, hR⟩ := Wd
  have hD := wl_D (σ := σ) hDX C.2.2.2.2.2.2.2.1
  have hts := C.2.2.2.2.2.2.1
  have la : a < 99 := shp_lt (by rw [ha]; show 20 < 99; decide)
  have lb : b < 99 := shp_lt (by rw [hb]; show 20 < 99; decide)
  refine va_copyi C.1 C.2.1 (C.2.2.1.trans hl.1.symm) C.2.2.2.2.2.1 (hts _ hl0) (hts _ ok_arrc.1) (hts _ ok_arrc.2.1) (hts _ ok_arrc.2.2) hK hP hD S a b 0 0 (f := fun j => gI (σ a j)) (g := fun j => gI (σ b j)) (by rw [wl_get la, cont_arr ha (by decide) (by decide)]) (by rw [wl_get lb, cont_arr hb (by decide) (by decide)]) rfl rfl rfl (by decide) (by decide) (by decide) (by decide) (by decide) (fun _ _ => rfl) hfr (Nat.le_trans (Nat.add_le_add_left nfw_arrc _) hlo) hd (fun H1 locs1 hP1 hD1 S1 => ?_)
  have e : (wl X σ).set b (cxA X b, .inl (cxY X (20 - 20), 8, .inl (va_cpy (fun j => gI (σ a j)) (fun j => gI (σ b j)) (gI 0).toNatClampNeg (gI 0).toNatClampNeg (gI 8).toNatClampNeg))) = wl X (cpy8 σ a b) := by
    rw [← wl_set lb (σ' := cpy8 σ a b) (fun c' k h => if_neg (fun q => h q.1)), cont_arr hb (by decide) (by decide)]
    have : (fun j => gI (cpy8 σ a b b j)) = va_cpy (fun j => gI (σ a j)) (fun j => gI (σ b j)) (gI 0).toNatClampNeg (gI 0).toNatClampNeg (gI 8).toNatClampNeg := by
      funext j
      have e0 : (gI 0).toNatClampNeg = 0 := by decide
      have e8 : (gI 8).toNatClampNeg = 8 := by decide
      rw [e0, e8]
      unfold cpy8 va_cpy
      by_cases q : j < 8
      · rw [if_pos ⟨rfl, q⟩, if_pos ⟨Nat.zero_le _, by omega⟩]
        show gI (σ a j) = gI (σ a (0 + (j - 0)))
        rw [Nat.zero_add, Nat.sub_zero]
      · rw [if_neg (fun z => q z.2), if_neg (fun z => q (by omega))]
    rw [this]
  have hP2 : va_P (cxD X) vwCl (wl X (cpy8 σ a b)) H1 := e ▸ hP1
  refine k p e0 s m args below meth c A cells slots Z C hz H1 locs1 ls ⟨hP2, hK, hDX, ⟨fun c' k' hn => ?_, ?_⟩⟩ S1 hl
  · unfold cpy8
    split
    · exact inI_sh hR ha (by decide)
    · exact hR.1 c' k' hn
  · unfold cpy8
    rw [if_neg (fun q => by omega)]
    exact hR.2
def namC (n : Nat) : Int := (namL.getD n 0).toInt
theorem V_ldcS {X : Cx} {M : MI} {pc : Nat} {L : List (Nat × Value)} {st : List Value} {σ : Sg} {Q : Int → Sg → Prop} (hM : M.1.cls = "GreenDoor$Words") (hd : decode M.2.1 pc = .ok (.ldc 33, 2)) (k : VV X M (pc + 2) L (.ref (cxT X 6) :: st) σ Q) : VV X M pc L st σ Q := by
  intro p e s m args below meth c A cells slots Z C hz H locs ls Wd S hl
  obtain ⟨tx, htx⟩ := C.2.2.2.2.2.2.2.2.1.2.2.1
  have hown := C.2.2.2.2.2.1
  rw [hM] at hown
  exact va_ldcS C.1 C.2.1 hown htx hd (k p e s m args below meth c A cells slots Z C hz H locs ls Wd S hl)
end
section
theorem V_charAt {X : Cx} {M : MI} {pc : Nat} {L : List (Nat × Value)} {st : List Value} {σ : Sg} {Q : Int → Sg → Prop} {idx : Nat} {i : Int} (hi : 0 ≤ i ∧ i < 120) (hd : decode M.2.1 pc = .ok (.invokevirtual idx, 3)) (hfr : M.1.cls = "GreenDoor$Words" ∧ idx = 35 ∧ 6 ≤ M.2.2.2.2.frames ∧ 160 ≤ M.2.2.2.2.locals ∧ (st.map fun v => v.category).sum ≤ 8) (k : VV X M (pc + 3) L (.int (gI (namC i.toNat)) :: st) σ Q) : VV X M pc L (.int (gI i) :: .ref (cxT X 6) :: st) σ Q := by
  sorry
end
section
theorem tb_1 {w : Cond} (h : w ∈ tables_1_1) : w ∈ lw_tbl := List.mem_append_right _ (List.mem_append_left _ h)
theorem tb_2 {w : Cond} (h : w ∈ tables_1_2) : w ∈ lw_tbl := List.mem_append_right _ (List.mem_append_right _ (List.mem_append_left _ h))
theorem tb_3 {w : Cond} (h : w ∈ tables_1_3) : w ∈ lw_tbl := List.mem_append_right _ (List.mem_append_right _ (List.mem_append_right _ (List.mem_append_left _ h)))
theorem tb_4 {w : Cond} (h : w ∈ tables_1_4) : w ∈ lw_tbl := List.mem_append_right _ (List.mem_append_right _ (List.mem_append_right _ (List.mem_append_right _ (List.mem_append_left _ h))))
theorem tb_5 {w : Cond} (h : w ∈ tables_1_5) : w ∈ lw_tbl := List.mem_append_right _ (List.mem_append_right _ (List.mem_append_right _ (List.mem_append_right _ (List.mem_append_right _ h))))
theorem gm_1 (k : Nat) {w : Cond} (h : tables_1_1[k]? = some w) (hg : goodWord w = true) : w ∈ gdT := List.mem_filter.mpr ⟨tb_1 (List.mem_of_getElem? h), hg⟩
theorem gm_2 (k : Nat) {w : Cond} (h : tables_1_2[k]? = some w) (hg : goodWord w = true) : w ∈ gdT := List.mem_filter.mpr ⟨tb_2 (List.mem_of_getElem? h), hg⟩
theorem gm_3 (k : Nat) {w : Cond} (h : tables_1_3[k]? = some w) (hg : goodWord w = true) : w ∈ gdT := List.mem_filter.mpr ⟨tb_3 (List.mem_of_getElem? h), hg⟩
theorem gm_4 (k : Nat) {w : Cond} (h : tables_1_4[k]? = some w) (hg : goodWord w = true) : w ∈ gdT := List.mem_filter.mpr ⟨tb_4 (List.mem_of_getElem? h), hg⟩
theorem gm_5 (k : Nat) {w : Cond} (h : tables_1_5[k]? = some w) (hg : goodWord w = true) : w ∈ gdT := List.mem_filter.mpr ⟨tb_5 (List.mem_of_getElem? h), hg⟩
theorem gm_s (k : Nat) {w : Cond} (h : (k2_sels lw_privs)[k]? = some w) (hg : goodWord w = true) : w ∈ gdT := List.mem_filter.mpr ⟨List.mem_append_left _ (List.mem_of_getElem? h), hg⟩
end
section
/-! printed by program: the methods (with their room), what links them, their contracts K.. -/
abbrev mX10_isKnown : MI := (yX10_isKnown, cX10_isKnown, 2, (some .boolean), { frames := 0, cells := 0, slots := 0, locals := 0 })
abbrev mX11_isWithin : MI := (yX11_isWithin, cX11_isWithin, 2, (some .boolean), { frames := 0, cells := 0, slots := 0, locals := 0 })
abbrev mX5_has : MI := (yX5_has, cX5_has, 2, (some .boolean), { frames := 1, cells := 0, slots := 0, locals := 21 })
abbrev mJ7_fill_53178 : MI := (yJ7_fill_53178, cJ7_fill_53178, 4, none, { frames := 0, cells := 0, slots := 0, locals := 0 })
abbrev mX10_parts : MI := (yX10_parts, cX10_parts, 1, (some .int), { frames := 1, cells := 0, slots := 0, locals := 21 })
abbrev mX10_numbers : MI := (yX10_numbers, cX10_numbers, 1, (some .int), { frames := 1, cells := 0, slots := 0, locals := 21 })
abbrev mX5_all : MI := (yX5_all, cX5_all, 1, (some .int), { frames := 0, cells := 0, slots := 0, locals := 0 })
abbrev mX5_thoseWith : MI := (yX5_thoseWith, cX5_thoseWith, 5, (some .int), { frames := 0, cells := 0, slots := 0, locals := 0 })
abbrev mX5_thoseMarked : MI := (yX5_thoseMarked, cX5_thoseMarked, 4, (some .int), { frames := 0, cells := 0, slots := 0, locals := 0 })
abbrev mX5_named : MI := (yX5_named, cX5_named, 3, (some .int), { frames := 1, cells := 0, slots := 0, locals := 24 })
abbrev mX9_isAhead : MI := (yX9_isAhead, cX9_isAhead, 5, (some .boolean), { frames := 0, cells := 0, slots := 0, locals := 0 })
abbrev mX9_offer : MI := (yX9_offer, cX9_offer, 5, none, { frames := 1, cells := 0, slots := 0, locals := 24 })
abbrev mX9_offerNamed : MI := (yX9_offerNamed, cX9_offerNamed, 7, none, { frames := 2, cells := 0, slots := 0, locals := 60 })
abbrev mX9_start : MI := (yX9_start, cX9_start, 4, none, { frames := 3, cells := 0, slots := 0, locals := 86 })
abbrev mJ6_bitCount_0f7a4 : MI := (yJ6_bitCount_0f7a4, cJ6_bitCount_0f7a4, 1, (some .int), { frames := 0, cells := 0, slots := 0, locals := 0 })
abbrev mX9_nearest : MI := (yX9_nearest, cX9_nearest, 5, (some .int), { frames := 1, cells := 0, slots := 0, locals := 20 })
abbrev mX9_reach : MI := (yX9_reach, cX9_reach, 5, none, { frames := 2, cells := 0, slots := 0, locals := 41 })
abbrev mX5_thoseLinked : MI := (yX5_thoseLinked, cX5_thoseLinked, 5, (some .int), { frames := 0, cells := 0, slots := 0, locals := 0 })
abbrev mX5_greatestSize : MI := (yX5_greatestSize, cX5_greatestSize, 4, (some .int), { frames := 1, cells := 0, slots := 0, locals := 60 })
abbrev mX5_ofSize : MI := (yX5_ofSize, cX5_ofSize, 3, (some .int), { frames := 1, cells := 0, slots := 0, locals := 24 })
abbrev mX5_leastSize : MI := (yX5_leastSize, cX5_leastSize, 4, (some .int), { frames := 1, cells := 0, slots := 0, locals := 60 })
abbrev mX5_leftmost : MI := (yX5_leftmost, cX5_leftmost, 5, (some .int), { frames := 0, cells := 0, slots := 0, locals := 0 })
abbrev mX5_turned : MI := (yX5_turned, cX5_turned, 3, (some .int), { frames := 2, cells := 0, slots := 0, locals := 83 })
abbrev mX9_turn : MI := (yX9_turn, cX9_turn, 6, none, { frames := 3, cells := 0, slots := 0, locals := 105 })
abbrev mX10_join : MI := (yX10_join, cX10_join, 3, (some .int), { frames := 0, cells := 0, slots := 0, locals := 0 })
abbrev mX9_offerJoin : MI := (yX9_offerJoin, cX9_offerJoin, 6, none, { frames := 2, cells := 0, slots := 0, locals := 48 })
abbrev mX9_joinTwo : MI := (yX9_joinTwo, cX9_joinTwo, 4, none, { frames := 3, cells := 0, slots := 0, locals := 73 })
abbrev mX9_joinAll : MI := (yX9_joinAll, cX9_joinAll, 5, none, { frames := 4, cells := 0, slots := 0, locals := 96 })
abbrev mX9_fill : MI := (yX9_fill, cX9_fill, 8, none, { frames := 5, cells := 0, slots := 0, locals := 130 })
abbrev mX9_isReached : MI := (yX9_isReached, cX9_isReached, 2, (some .boolean), { frames := 1, cells := 0, slots := 0, locals := 21 })
abbrev mX9_worthOf : MI := (yX9_worthOf, cX9_worthOf, 4, (some .int), { frames := 2, cells := 0, slots := 0, locals := 42 })
abbrev mX0_tryMark : MI := (yX0_tryMark, cX0_tryMark, 7, none, { frames := 6, cells := 0, slots := 0, locals := 157 })
abbrev mX0_find : MI := (yX0_find, cX0_find, 6, none, { frames := 7, cells := 0, slots := 0, locals := 183 })
abbrev mX1_start : MI := (yX1_start, cX1_start, 1, none, { frames := 0, cells := 0, slots := 0, locals := 0 })
abbrev mX1_add : MI := (yX1_add, cX1_add, 3, none, { frames := 0, cells := 0, slots := 0, locals := 0 })
abbrev mX1_isBetter : MI := (yX1_isBetter, cX1_isBetter, 4, (some .boolean), { frames := 1, cells := 0, slots := 0, locals := 20 })
abbrev mX1_saidOf : MI := (yX1_saidOf, cX1_saidOf, 4, (some .int), { frames := 2, cells := 0, slots := 0, locals := 43 })
abbrev mX1_deepen : MI := (yX1_deepen, cX1_deepen, 4, (some .boolean), { frames := 3, cells := 0, slots := 0, locals := 66 })
abbrev mX10_firstLike : MI := (yX10_firstLike, cX10_firstLike, 1, (some .int), { frames := 1, cells := 0, slots := 0, locals := 21 })
abbrev mX10_lastLike : MI := (yX10_lastLike, cX10_lastLike, 1, (some .int), { frames := 1, cells := 0, slots := 0, locals := 21 })
abbrev mX4_meaning : MI := (yX4_meaning, cX4_meaning, 6, (some .int), { frames := 3, cells := 0, slots := 0, locals := 105 })
abbrev mX2_hearAs : MI := (yX2_hearAs, cX2_hearAs, 8, none, { frames := 4, cells := 0, slots := 0, locals := 130 })
abbrev mX2_hear : MI := (yX2_hear, cX2_hear, 7, none, { frames := 5, cells := 0, slots := 0, locals := 157 })
abbrev mX3_property : MI := (yX3_property, cX3_property, 3, (some .int), { frames := 0, cells := 0, slots := 0, locals := 0 })
abbrev mX3_cost : MI := (yX3_cost, cX3_cost, 10, (some .int), { frames := 2, cells := 0, slots := 0, locals := 46 })
abbrev mX4_add : MI := (yX4_add, cX4_add, 2, (some .boolean), { frames := 0, cells := 0, slots := 0, locals := 0 })
abbrev mX4_addNumber : MI := (yX4_addNumber, cX4_addNumber, 2, none, { frames := 0, cells := 0, slots := 0, locals := 0 })
abbrev mX4_copy : MI := (yX4_copy, cX4_copy, 3, none, { frames := 1, cells := 0, slots := 0, locals := 21 })
abbrev mX4_cost : MI := (yX4_cost, cX4_cost, 5, (some .int), { frames := 1, cells := 0, slots := 0, locals := 21 })
abbrev mX5_isLook : MI := (yX5_isLook, cX5_isLook, 2, (some .boolean), { frames := 1, cells := 0, slots := 0, locals := 21 })
abbrev mX5_isTaken : MI := (yX5_isTaken, cX5_isTaken, 2, (some .boolean), { frames := 1, cells := 0, slots := 0, locals := 24 })
abbrev mX5_add : MI := (yX5_add, cX5_add, 7, (some .int), { frames := 1, cells := 0, slots := 0, locals := 24 })
abbrev mX5_isTied : MI := (yX5_isTied, cX5_isTied, 3, (some .boolean), { frames := 2, cells := 0, slots := 0, locals := 42 })
abbrev mX5_addTie : MI := (yX5_addTie, cX5_addTie, 3, (some .int), { frames := 2, cells := 0, slots := 0, locals := 42 })
abbrev mX6_add : MI := (yX6_add, cX6_add, 2, (some .int), { frames := 0, cells := 0, slots := 0, locals := 0 })
abbrev mX6_pointingAt : MI := (yX6_pointingAt, cX6_pointingAt, 4, (some .int), { frames := 0, cells := 0, slots := 0, locals := 0 })
abbrev mX6_cost : MI := (yX6_cost, cX6_cost, 7, (some .int), { frames := 2, cells := 0, slots := 0, locals := 60 })
abbrev mX7_hasRoomFor : MI := (yX7_hasRoomFor, cX7_hasRoomFor, 2, (some .boolean), { frames := 0, cells := 0, slots := 0, locals := 0 })
abbrev mX7_append : MI := (yX7_append, cX7_append, 5, (some .int), { frames := 0, cells := 0, slots := 0, locals := 0 })
abbrev mX7_clear : MI := (yX7_clear, cX7_clear, 2, (some .int), { frames := 0, cells := 0, slots := 0, locals := 0 })
abbrev mX7_sortAt : MI := (yX7_sortAt, cX7_sortAt, 3, (some .int), { frames := 1, cells := 0, slots := 0, locals := 21 })
abbrev mX7_endOfToken : MI := (yX7_endOfToken, cX7_endOfToken, 4, (some .int), { frames := 2, cells := 0, slots := 0, locals := 43 })
abbrev mX7_readNumber : MI := (yX7_readNumber, cX7_readNumber, 3, (some .boolean), { frames := 1, cells := 0, slots := 0, locals := 21 })
abbrev mX10_isSpelt : MI := (yX10_isSpelt, cX10_isSpelt, 6, (some .boolean), { frames := 6, cells := 0, slots := 0, locals := 160 })
abbrev mX10_spelt : MI := (yX10_spelt, cX10_spelt, 4, (some .int), { frames := 7, cells := 0, slots := 0, locals := 185 })
abbrev mX7_readWord : MI := (yX7_readWord, cX7_readWord, 4, (some .boolean), { frames := 8, cells := 0, slots := 0, locals := 208 })
abbrev mX7_read : MI := (yX7_read, cX7_read, 3, (some .int), { frames := 9, cells := 0, slots := 0, locals := 231 })
abbrev mX8_looksLike : MI := (yX8_looksLike, cX8_looksLike, 4, (some .int), { frames := 0, cells := 0, slots := 0, locals := 0 })
abbrev mX8_hasAsMany : MI := (yX8_hasAsMany, cX8_hasAsMany, 7, (some .boolean), { frames := 1, cells := 0, slots := 0, locals := 20 })
abbrev mX8_part : MI := (yX8_part, cX8_part, 6, (some .boolean), { frames := 2, cells := 0, slots := 0, locals := 60 })
abbrev mX8_find : MI := (yX8_find, cX8_find, 3, none, { frames := 3, cells := 0, slots := 0, locals := 85 })
abbrev mJ6_numberOfTrailingZeros_0f7a4 : MI := (yJ6_numberOfTrailingZeros_0f7a4, cJ6_numberOfTrailingZeros_0f7a4, 2, (some .int), { frames := 0, cells := 0, slots := 0, locals := 0 })
abbrev mX8_sorts : MI := (yX8_sorts, cX8_sorts, 4, (some .int), { frames := 1, cells := 0, slots := 0, locals := 21 })
abbrev mX9_codeAt : MI := (yX9_codeAt, cX9_codeAt, 7, (some .int), { frames := 0, cells := 0, slots := 0, locals := 0 })
abbrev mX10_areWords : MI := (yX10_areWords, cX10_areWords, 1, (some .boolean), { frames := 1, cells := 0, slots := 0, locals := 21 })
abbrev mX11_thing : MI := (yX11_thing, cX11_thing, 5, (some .int), { frames := 2, cells := 0, slots := 0, locals := 50 })
abbrev mX11_paint : MI := (yX11_paint, cX11_paint, 5, (some .int), { frames := 2, cells := 0, slots := 0, locals := 42 })
abbrev mX11_tie : MI := (yX11_tie, cX11_tie, 3, (some .int), { frames := 3, cells := 0, slots := 0, locals := 64 })
abbrev mX11_of : MI := (yX11_of, cX11_of, 3, (some .int), { frames := 2, cells := 0, slots := 0, locals := 42 })
abbrev mX11_price : MI := (yX11_price, cX11_price, 4, (some .int), { frames := 1, cells := 0, slots := 0, locals := 21 })
abbrev mX11_write : MI := (yX11_write, cX11_write, 4, (some .int), { frames := 1, cells := 0, slots := 0, locals := 24 })
abbrev mX11_erase : MI := (yX11_erase, cX11_erase, 1, (some .int), { frames := 1, cells := 0, slots := 0, locals := 21 })
abbrev mX11_fault : MI := (yX11_fault, cX11_fault, 1, (some .int), { frames := 10, cells := 0, slots := 0, locals := 253 })
abbrev mX11_told : MI := (yX11_told, cX11_told, 3, (some .int), { frames := 4, cells := 0, slots := 0, locals := 130 })
abbrev mX11_says : MI := (yX11_says, cX11_says, 2, (some .int), { frames := 10, cells := 0, slots := 0, locals := 253 })
abbrev mX11_keep : MI := (yX11_keep, cX11_keep, 1, (some .int), { frames := 10, cells := 0, slots := 0, locals := 253 })
abbrev mX11_kept : MI := (yX11_kept, cX11_kept, 3, (some .int), { frames := 5, cells := 0, slots := 0, locals := 152 })
abbrev mX11_waysWith : MI := (yX11_waysWith, cX11_waysWith, 2, (some (.object "GreenDoor$Ways")), { frames := 6, cells := 0, slots := 0, locals := 157 })
abbrev mX11_cheapest : MI := (yX11_cheapest, cX11_cheapest, 5, (some .int), { frames := 7, cells := 0, slots := 0, locals := 178 })
abbrev mX11_sets : MI := (yX11_sets, cX11_sets, 2, (some .int), { frames := 7, cells := 0, slots := 0, locals := 178 })
abbrev mX11_quick : MI := (yX11_quick, cX11_quick, 2, (some .int), { frames := 3, cells := 0, slots := 0, locals := 75 })
abbrev mX11_twin : MI := (yX11_twin, cX11_twin, 3, (some .int), { frames := 4, cells := 0, slots := 0, locals := 107 })
abbrev mX11_firstBreak : MI := (yX11_firstBreak, cX11_firstBreak, 8, (some .int), { frames := 4, cells := 0, slots := 0, locals := 130 })
abbrev mX11_breaks : MI := (yX11_breaks, cX11_breaks, 1, (some .int), { frames := 10, cells := 0, slots := 0, locals := 253 })
abbrev mX11_think : MI := (yX11_think, cX11_think, 3, none, { frames := 4, cells := 0, slots := 0, locals := 130 })
abbrev mX11_hears : MI := (yX11_hears, cX11_hears, 3, (some .int), { frames := 5, cells := 0, slots := 0, locals := 152 })
abbrev mX11_tells : MI := (yX11_tells, cX11_tells, 3, (some .int), { frames := 5, cells := 0, slots := 0, locals := 152 })
abbrev mX11_ends : MI := (yX11_ends, cX11_ends, 2, (some .int), { frames := 5, cells := 0, slots := 0, locals := 152 })
abbrev mX11_wrong : MI := (yX11_wrong, cX11_wrong, 2, (some .int), { frames := 10, cells := 0, slots := 0, locals := 253 })
abbrev mX11_name : MI := (yX11_name, cX11_name, 2, (some .int), { frames := 2, cells := 0, slots := 0, locals := 42 })
abbrev mX11_hush : MI := (yX11_hush, cX11_hush, 2, (some .int), { frames := 0, cells := 0, slots := 0, locals := 0 })
abbrev mX11_talk : MI := (yX11_talk, cX11_talk, 2, (some .int), { frames := 7, cells := 0, slots := 0, locals := 178 })
abbrev mX11_worth : MI := (yX11_worth, cX11_worth, 3, (some .int), { frames := 8, cells := 0, slots := 0, locals := 208 })
abbrev mX11_count : MI := (yX11_count, cX11_count, 2, (some .int), { frames := 0, cells := 0, slots := 0, locals := 0 })
abbrev mX12_in : MI := (yX12_in, cX12_in, 3, (some .boolean), { frames := 0, cells := 0, slots := 0, locals := 0 })
abbrev mX12_isThing : MI := (yX12_isThing, cX12_isThing, 2, (some .boolean), { frames := 1, cells := 0, slots := 0, locals := 22 })
abbrev mX12_bits : MI := (yX12_bits, cX12_bits, 3, (some .int), { frames := 0, cells := 0, slots := 0, locals := 0 })
abbrev mX12_every : MI := (yX12_every, cX12_every, 1, (some .int), { frames := 0, cells := 0, slots := 0, locals := 0 })
abbrev mX12_thing : MI := (yX12_thing, cX12_thing, 6, (some .int), { frames := 1, cells := 0, slots := 0, locals := 22 })
abbrev mX12_paint : MI := (yX12_paint, cX12_paint, 5, (some .int), { frames := 2, cells := 0, slots := 0, locals := 43 })
abbrev mX12_tieMany : MI := (yX12_tieMany, cX12_tieMany, 3, (some .int), { frames := 1, cells := 0, slots := 0, locals := 22 })
abbrev mX12_tie : MI := (yX12_tie, cX12_tie, 3, (some .int), { frames := 2, cells := 0, slots := 0, locals := 44 })
abbrev mX12_besides : MI := (yX12_besides, cX12_besides, 4, (some .int), { frames := 0, cells := 0, slots := 0, locals := 0 })
abbrev mX12_of : MI := (yX12_of, cX12_of, 3, (some .int), { frames := 2, cells := 0, slots := 0, locals := 43 })
abbrev mX12_price : MI := (yX12_price, cX12_price, 4, (some .int), { frames := 1, cells := 0, slots := 0, locals := 22 })
abbrev mX12_write : MI := (yX12_write, cX12_write, 5, (some .int), { frames := 1, cells := 0, slots := 0, locals := 22 })
abbrev mX12_erase : MI := (yX12_erase, cX12_erase, 2, (some .int), { frames := 0, cells := 0, slots := 0, locals := 0 })
abbrev mX12_nextToken : MI := (yX12_nextToken, cX12_nextToken, 1, none, { frames := 1, cells := 0, slots := 0, locals := 22 })
abbrev mX12_fails : MI := (yX12_fails, cX12_fails, 1, (some .boolean), { frames := 0, cells := 0, slots := 0, locals := 0 })
abbrev mX12_wordTold : MI := (yX12_wordTold, cX12_wordTold, 5, (some .int), { frames := 0, cells := 0, slots := 0, locals := 0 })
abbrev mX12_needs : MI := (yX12_needs, cX12_needs, 1, (some .int), { frames := 0, cells := 0, slots := 0, locals := 0 })
abbrev mX12_isRead : MI := (yX12_isRead, cX12_isRead, 3, (some .boolean), { frames := 2, cells := 0, slots := 0, locals := 42 })
abbrev mX12_fault : MI := (yX12_fault, cX12_fault, 1, (some .int), { frames := 3, cells := 0, slots := 0, locals := 64 })
abbrev mX12_allOf : MI := (yX12_allOf, cX12_allOf, 6, (some .int), { frames := 0, cells := 0, slots := 0, locals := 0 })
abbrev mX12_bySize : MI := (yX12_bySize, cX12_bySize, 7, (some .int), { frames := 0, cells := 0, slots := 0, locals := 0 })
abbrev mX12_leftmost : MI := (yX12_leftmost, cX12_leftmost, 4, (some .int), { frames := 0, cells := 0, slots := 0, locals := 0 })
abbrev mX12_made : MI := (yX12_made, cX12_made, 6, (some .int), { frames := 1, cells := 0, slots := 0, locals := 26 })
abbrev mX12_meaning : MI := (yX12_meaning, cX12_meaning, 6, (some .int), { frames := 2, cells := 0, slots := 0, locals := 51 })
abbrev mX12_costTold : MI := (yX12_costTold, cX12_costTold, 3, (some .int), { frames := 0, cells := 0, slots := 0, locals := 0 })
abbrev mX12_says : MI := (yX12_says, cX12_says, 2, (some .int), { frames := 3, cells := 0, slots := 0, locals := 76 })
abbrev mX12_keep : MI := (yX12_keep, cX12_keep, 2, (some .int), { frames := 3, cells := 0, slots := 0, locals := 64 })
abbrev mX12_recall : MI := (yX12_recall, cX12_recall, 3, none, { frames := 0, cells := 0, slots := 0, locals := 0 })
abbrev mX12_kept : MI := (yX12_kept, cX12_kept, 3, (some .int), { frames := 3, cells := 0, slots := 0, locals := 76 })
abbrev mX12_offer : MI := (yX12_offer, cX12_offer, 7, none, { frames := 0, cells := 0, slots := 0, locals := 0 })
abbrev mX12_isAhead : MI := (yX12_isAhead, cX12_isAhead, 3, (some .boolean), { frames := 0, cells := 0, slots := 0, locals := 0 })
abbrev mX12_settle : MI := (yX12_settle, cX12_settle, 4, none, { frames := 1, cells := 0, slots := 0, locals := 22 })
abbrev mX12_cheapestLeft : MI := (yX12_cheapestLeft, cX12_cheapestLeft, 3, (some .int), { frames := 1, cells := 0, slots := 0, locals := 20 })
abbrev mX12_search : MI := (yX12_search, cX12_search, 5, none, { frames := 2, cells := 0, slots := 0, locals := 51 })
abbrev mX12_areWords : MI := (yX12_areWords, cX12_areWords, 1, (some .boolean), { frames := 1, cells := 0, slots := 0, locals := 22 })
abbrev mX12_cheapest : MI := (yX12_cheapest, cX12_cheapest, 7, (some .int), { frames := 3, cells := 0, slots := 0, locals := 75 })
abbrev mX12_sets : MI := (yX12_sets, cX12_sets, 4, (some .int), { frames := 3, cells := 0, slots := 0, locals := 75 })
abbrev mX12_quick : MI := (yX12_quick, cX12_quick, 7, (some .int), { frames := 2, cells := 0, slots := 0, locals := 43 })
abbrev mX12_howMany : MI := (yX12_howMany, cX12_howMany, 5, (some .int), { frames := 0, cells := 0, slots := 0, locals := 0 })
abbrev mX12_tiesTo : MI := (yX12_tiesTo, cX12_tiesTo, 4, (some .int), { frames := 0, cells := 0, slots := 0, locals := 0 })
abbrev mX12_areAlike : MI := (yX12_areAlike, cX12_areAlike, 5, (some .boolean), { frames := 1, cells := 0, slots := 0, locals := 24 })
abbrev mX12_findTwins : MI := (yX12_findTwins, cX12_findTwins, 6, none, { frames := 2, cells := 0, slots := 0, locals := 48 })
abbrev mX12_twin : MI := (yX12_twin, cX12_twin, 5, (some .int), { frames := 3, cells := 0, slots := 0, locals := 73 })
abbrev mX12_breaks : MI := (yX12_breaks, cX12_breaks, 6, (some .int), { frames := 3, cells := 0, slots := 0, locals := 76 })
abbrev mX12_findSaid : MI := (yX12_findSaid, cX12_findSaid, 5, none, { frames := 1, cells := 0, slots := 0, locals := 22 })
abbrev mX12_think : MI := (yX12_think, cX12_think, 5, none, { frames := 3, cells := 0, slots := 0, locals := 76 })
abbrev mX12_hears : MI := (yX12_hears, cX12_hears, 3, (some .int), { frames := 4, cells := 0, slots := 0, locals := 100 })
abbrev mX12_tells : MI := (yX12_tells, cX12_tells, 3, (some .int), { frames := 4, cells := 0, slots := 0, locals := 100 })
abbrev mX12_ends : MI := (yX12_ends, cX12_ends, 4, (some .int), { frames := 4, cells := 0, slots := 0, locals := 100 })
abbrev mX12_tryWord : MI := (yX12_tryWord, cX12_tryWord, 6, none, { frames := 3, cells := 0, slots := 0, locals := 76 })
abbrev mX12_wrong : MI := (yX12_wrong, cX12_wrong, 5, (some .int), { frames := 4, cells := 0, slots := 0, locals := 101 })
abbrev mX12_name : MI := (yX12_name, cX12_name, 2, (some .int), { frames := 2, cells := 0, slots := 0, locals := 43 })
abbrev mX12_hush : MI := (yX12_hush, cX12_hush, 2, (some .int), { frames := 0, cells := 0, slots := 0, locals := 0 })
abbrev mX12_talk : MI := (yX12_talk, cX12_talk, 8, (some .int), { frames := 3, cells := 0, slots := 0, locals := 75 })
abbrev mX12_worthOf : MI := (yX12_worthOf, cX12_worthOf, 4, (some .int), { frames := 3, cells := 0, slots := 0, locals := 75 })
abbrev mX12_worth : MI := (yX12_worth, cX12_worth, 9, (some .int), { frames := 4, cells := 0, slots := 0, locals := 98 })
abbrev mX12_count : MI := (yX12_count, cX12_count, 2, (some .int), { frames := 2, cells := 0, slots := 0, locals := 44 })
abbrev mL_law : MI := (yL_law, code, 4, ret, room_1)
def KX10_isKnown (X : Cx) (v0 : Int) (v1 : Int) (σ : Sg) (Q : Int → Sg → Prop) : Prop := CC X mX10_isKnown [.int (gI v0), .int (gI v1)] σ Q
def KX11_isWithin (X : Cx) (v0 : Int) (v1 : Int) (σ : Sg) (Q : Int → Sg → Prop) : Prop := CC X mX11_isWithin [.int (gI v0), .int (gI v1)] σ Q
def KX5_has (X : Cx) (v1 : Int) (σ : Sg) (Q : Int → Sg → Prop) : Prop := CC X mX5_has [.ref (cxA X 1), .int (gI v1)] σ Q
def KJ7_fill_53178 (X : Cx) (c0 : Nat) (v1 : Int) (σ : Sg) (Q : Int → Sg → Prop) : Prop := CC X mJ7_fill_53178 [.ref (cxA X c0), .int (gI v1)] σ Q
def KX10_parts (X : Cx) (v0 : Int) (σ : Sg) (Q : Int → Sg → Prop) : Prop := CC X mX10_parts [.int (gI v0)] σ Q
def KX10_numbers (X : Cx) (v0 : Int) (σ : Sg) (Q : Int → Sg → Prop) : Prop := CC X mX10_numbers [.int (gI v0)] σ Q
def KX5_all (X : Cx) (σ : Sg) (Q : Int → Sg → Prop) : Prop := CC X mX5_all [.ref (cxA X 1)] σ Q
def KX5_thoseWith (X : Cx) (v1 : Int) (v2 : Int) (σ : Sg) (Q : Int → Sg → Prop) : Prop := CC X mX5_thoseWith [.ref (cxA X 1), .int (gI v1), .int (gI v2)] σ Q
def KX5_thoseMarked (X : Cx) (v1 : Int) (σ : Sg) (Q : Int → Sg → Prop) : Prop := CC X mX5_thoseMarked [.ref (cxA X 1), .int (gI v1)] σ Q
def KX5_named (X : Cx) (v1 : Int) (σ : Sg) (Q : Int → Sg → Prop) : Prop := CC X mX5_named [.ref (cxA X 1), .int (gI v1)] σ Q
def KX9_isAhead (X : Cx) (c0 : Nat) (v1 : Int) (v2 : Int) (σ : Sg) (Q : Int → Sg → Prop) : Prop := CC X mX9_isAhead [.ref (cxA X c0), .int (gI v1), .int (gI v2)] σ Q
def KX9_offer (X : Cx) (c0 : Nat) (v1 : Int) (v2 : Int) (v3 : Int) (σ : Sg) (Q : Int → Sg → Prop) : Prop := CC X mX9_offer [.ref (cxA X c0), .int (gI v1), .int (gI v2), .int (gI v3)] σ Q
def KX9_offerNamed (X : Cx) (c0 : Nat) (v2 : Int) (v3 : Int) (σ : Sg) (Q : Int → Sg → Prop) : Prop := CC X mX9_offerNamed [.ref (cxA X c0), .ref (cxA X 1), .int (gI v2), .int (gI v3)] σ Q
def KX9_start (X : Cx) (c0 : Nat) (σ : Sg) (Q : Int → Sg → Prop) : Prop := CC X mX9_start [.ref (cxA X c0), .ref (cxA X 1), .ref (cxA X 11)] σ Q
def KJ6_bitCount_0f7a4 (X : Cx) (v0 : Int) (σ : Sg) (Q : Int → Sg → Prop) : Prop := CC X mJ6_bitCount_0f7a4 [.int (gI v0)] σ Q
def KX9_nearest (X : Cx) (c0 : Nat) (v1 : Int) (σ : Sg) (Q : Int → Sg → Prop) : Prop := CC X mX9_nearest [.ref (cxA X c0), .int (gI v1)] σ Q
def KX9_reach (X : Cx) (c0 : Nat) (v1 : Int) (σ : Sg) (Q : Int → Sg → Prop) : Prop := CC X mX9_reach [.ref (cxA X c0), .int (gI v1)] σ Q
def KX5_thoseLinked (X : Cx) (v1 : Int) (v2 : Int) (σ : Sg) (Q : Int → Sg → Prop) : Prop := CC X mX5_thoseLinked [.ref (cxA X 1), .int (gI v1), .int (gI v2)] σ Q
def KX5_greatestSize (X : Cx) (v1 : Int) (σ : Sg) (Q : Int → Sg → Prop) : Prop := CC X mX5_greatestSize [.ref (cxA X 1), .int (gI v1)] σ Q
def KX5_ofSize (X : Cx) (v1 : Int) (v2 : Int) (σ : Sg) (Q : Int → Sg → Prop) : Prop := CC X mX5_ofSize [.ref (cxA X 1), .int (gI v1), .int (gI v2)] σ Q
def KX5_leastSize (X : Cx) (v1 : Int) (σ : Sg) (Q : Int → Sg → Prop) : Prop := CC X mX5_leastSize [.ref (cxA X 1), .int (gI v1)] σ Q
def KX5_leftmost (X : Cx) (v1 : Int) (σ : Sg) (Q : Int → Sg → Prop) : Prop := CC X mX5_leftmost [.ref (cxA X 1), .int (gI v1)] σ Q
def KX5_turned (X : Cx) (v1 : Int) (v2 : Int) (σ : Sg) (Q : Int → Sg → Prop) : Prop := CC X mX5_turned [.ref (cxA X 1), .int (gI v1), .int (gI v2)] σ Q
def KX9_turn (X : Cx) (c0 : Nat) (v3 : Int) (σ : Sg) (Q : Int → Sg → Prop) : Prop := CC X mX9_turn [.ref (cxA X c0), .ref (cxA X 1), .ref (cxA X 11), .int (gI v3)] σ Q
def KX10_join (X : Cx) (v0 : Int) (v1 : Int) (v2 : Int) (σ : Sg) (Q : Int → Sg → Prop) : Prop := CC X mX10_join [.int (gI v0), .int (gI v1), .int (gI v2)] σ Q
def KX9_offerJoin (X : Cx) (c0 : Nat) (v1 : Int) (v2 : Int) (v3 : Int) (v4 : Int) (σ : Sg) (Q : Int → Sg → Prop) : Prop := CC X mX9_offerJoin [.ref (cxA X c0), .int (gI v1), .int (gI v2), .int (gI v3), .int (gI v4)] σ Q
def KX9_joinTwo (X : Cx) (c0 : Nat) (v2 : Int) (v3 : Int) (σ : Sg) (Q : Int → Sg → Prop) : Prop := CC X mX9_joinTwo [.ref (cxA X c0), .ref (cxA X 11), .int (gI v2), .int (gI v3)] σ Q
def KX9_joinAll (X : Cx) (c0 : Nat) (v2 : Int) (σ : Sg) (Q : Int → Sg → Prop) : Prop := CC X mX9_joinAll [.ref (cxA X c0), .ref (cxA X 11), .int (gI v2)] σ Q
def KX9_fill (X : Cx) (c0 : Nat) (v3 : Int) (v4 : Int) (σ : Sg) (Q : Int → Sg → Prop) : Prop := CC X mX9_fill [.ref (cxA X c0), .ref (cxA X 1), .ref (cxA X 11), .int (gI v3), .int (gI v4)] σ Q
def KX9_isReached (X : Cx) (c0 : Nat) (v1 : Int) (σ : Sg) (Q : Int → Sg → Prop) : Prop := CC X mX9_isReached [.ref (cxA X c0), .int (gI v1)] σ Q
def KX9_worthOf (X : Cx) (c0 : Nat) (v1 : Int) (σ : Sg) (Q : Int → Sg → Prop) : Prop := CC X mX9_worthOf [.ref (cxA X c0), .int (gI v1)] σ Q
def KX0_tryMark (X : Cx) (v3 : Int) (v4 : Int) (σ : Sg) (Q : Int → Sg → Prop) : Prop := CC X mX0_tryMark [.ref (cxA X 49), .ref (cxA X 1), .ref (cxA X 11), .int (gI v3), .int (gI v4)] σ Q
def KX0_find (X : Cx) (v3 : Int) (σ : Sg) (Q : Int → Sg → Prop) : Prop := CC X mX0_find [.ref (cxA X 49), .ref (cxA X 1), .ref (cxA X 11), .int (gI v3)] σ Q
def KX1_start (X : Cx) (σ : Sg) (Q : Int → Sg → Prop) : Prop := CC X mX1_start [.ref (cxA X 61)] σ Q
def KX1_add (X : Cx) (v1 : Int) (v2 : Int) (σ : Sg) (Q : Int → Sg → Prop) : Prop := CC X mX1_add [.ref (cxA X 61), .int (gI v1), .int (gI v2)] σ Q
def KX1_isBetter (X : Cx) (v1 : Int) (v2 : Int) (σ : Sg) (Q : Int → Sg → Prop) : Prop := CC X mX1_isBetter [.ref (cxA X 61), .int (gI v1), .int (gI v2)] σ Q
def KX1_saidOf (X : Cx) (v1 : Int) (σ : Sg) (Q : Int → Sg → Prop) : Prop := CC X mX1_saidOf [.ref (cxA X 61), .int (gI v1)] σ Q
def KX1_deepen (X : Cx) (v1 : Int) (σ : Sg) (Q : Int → Sg → Prop) : Prop := CC X mX1_deepen [.ref (cxA X 61), .int (gI v1)] σ Q
def KX10_firstLike (X : Cx) (v0 : Int) (σ : Sg) (Q : Int → Sg → Prop) : Prop := CC X mX10_firstLike [.int (gI v0)] σ Q
def KX10_lastLike (X : Cx) (v0 : Int) (σ : Sg) (Q : Int → Sg → Prop) : Prop := CC X mX10_lastLike [.int (gI v0)] σ Q
def KX4_meaning (X : Cx) (c0 : Nat) (σ : Sg) (Q : Int → Sg → Prop) : Prop := CC X mX4_meaning [.ref (cxA X c0), .ref (cxA X 1)] σ Q
def KX2_hearAs (X : Cx) (v3 : Int) (v4 : Int) (σ : Sg) (Q : Int → Sg → Prop) : Prop := CC X mX2_hearAs [.ref (cxA X 65), .ref (cxA X 1), .ref (cxA X 14), .int (gI v3), .int (gI v4)] σ Q
def KX2_hear (X : Cx) (σ : Sg) (Q : Int → Sg → Prop) : Prop := CC X mX2_hear [.ref (cxA X 65), .ref (cxA X 1), .ref (cxA X 14)] σ Q
def KX3_property (X : Cx) (v1 : Int) (v2 : Int) (σ : Sg) (Q : Int → Sg → Prop) : Prop := CC X mX3_property [.ref (cxA X 1), .int (gI v1), .int (gI v2)] σ Q
def KX3_cost (X : Cx) (v2 : Int) (σ : Sg) (Q : Int → Sg → Prop) : Prop := CC X mX3_cost [.ref (cxA X 1), .ref (cxA X 11), .int (gI v2)] σ Q
def KX4_add (X : Cx) (c0 : Nat) (v1 : Int) (σ : Sg) (Q : Int → Sg → Prop) : Prop := CC X mX4_add [.ref (cxA X c0), .int (gI v1)] σ Q
def KX4_addNumber (X : Cx) (c0 : Nat) (v1 : Int) (σ : Sg) (Q : Int → Sg → Prop) : Prop := CC X mX4_addNumber [.ref (cxA X c0), .int (gI v1)] σ Q
def KX4_copy (X : Cx) (c0 : Nat) (σ : Sg) (Q : Int → Sg → Prop) : Prop := CC X mX4_copy [.ref (cxA X c0), .ref (cxA X 14)] σ Q
def KX4_cost (X : Cx) (c0 : Nat) (σ : Sg) (Q : Int → Sg → Prop) : Prop := CC X mX4_cost [.ref (cxA X c0), .ref (cxA X 11)] σ Q
def KX5_isLook (X : Cx) (v0 : Int) (v1 : Int) (σ : Sg) (Q : Int → Sg → Prop) : Prop := CC X mX5_isLook [.int (gI v0), .int (gI v1)] σ Q
def KX5_isTaken (X : Cx) (v1 : Int) (σ : Sg) (Q : Int → Sg → Prop) : Prop := CC X mX5_isTaken [.ref (cxA X 1), .int (gI v1)] σ Q
def KX5_add (X : Cx) (v1 : Int) (v2 : Int) (v3 : Int) (v4 : Int) (σ : Sg) (Q : Int → Sg → Prop) : Prop := CC X mX5_add [.ref (cxA X 1), .int (gI v1), .int (gI v2), .int (gI v3), .int (gI v4)] σ Q
def KX5_isTied (X : Cx) (v1 : Int) (v2 : Int) (σ : Sg) (Q : Int → Sg → Prop) : Prop := CC X mX5_isTied [.ref (cxA X 1), .int (gI v1), .int (gI v2)] σ Q
def KX5_addTie (X : Cx) (v1 : Int) (v2 : Int) (σ : Sg) (Q : Int → Sg → Prop) : Prop := CC X mX5_addTie [.ref (cxA X 1), .int (gI v1), .int (gI v2)] σ Q
def KX6_add (X : Cx) (v1 : Int) (σ : Sg) (Q : Int → Sg → Prop) : Prop := CC X mX6_add [.ref (cxA X 67), .int (gI v1)] σ Q
def KX6_pointingAt (X : Cx) (v1 : Int) (σ : Sg) (Q : Int → Sg → Prop) : Prop := CC X mX6_pointingAt [.ref (cxA X 67), .int (gI v1)] σ Q
def KX6_cost (X : Cx) (σ : Sg) (Q : Int → Sg → Prop) : Prop := CC X mX6_cost [.ref (cxA X 67), .ref (cxA X 42)] σ Q
def KX7_hasRoomFor (X : Cx) (v1 : Int) (σ : Sg) (Q : Int → Sg → Prop) : Prop := CC X mX7_hasRoomFor [.ref (cxA X 12), .int (gI v1)] σ Q
def KX7_append (X : Cx) (w1 : Int) (v3 : Int) (σ : Sg) (Q : Int → Sg → Prop) : Prop := CC X mX7_append [.ref (cxA X 12), .long (gJ w1), .int (gI v3)] σ Q
def KX7_clear (X : Cx) (σ : Sg) (Q : Int → Sg → Prop) : Prop := CC X mX7_clear [.ref (cxA X 12)] σ Q
def KX7_sortAt (X : Cx) (v1 : Int) (σ : Sg) (Q : Int → Sg → Prop) : Prop := CC X mX7_sortAt [.ref (cxA X 12), .int (gI v1)] σ Q
def KX7_endOfToken (X : Cx) (v1 : Int) (σ : Sg) (Q : Int → Sg → Prop) : Prop := CC X mX7_endOfToken [.ref (cxA X 12), .int (gI v1)] σ Q
def KX7_readNumber (X : Cx) (v1 : Int) (v2 : Int) (σ : Sg) (Q : Int → Sg → Prop) : Prop := CC X mX7_readNumber [.ref (cxA X 12), .int (gI v1), .int (gI v2)] σ Q
def KX10_isSpelt (X : Cx) (v0 : Int) (v2 : Int) (v3 : Int) (σ : Sg) (Q : Int → Sg → Prop) : Prop := CC X mX10_isSpelt [.int (gI v0), .ref (cxA X 13), .int (gI v2), .int (gI v3)] σ Q
def KX10_spelt (X : Cx) (v1 : Int) (v2 : Int) (σ : Sg) (Q : Int → Sg → Prop) : Prop := CC X mX10_spelt [.ref (cxA X 13), .int (gI v1), .int (gI v2)] σ Q
def KX7_readWord (X : Cx) (v1 : Int) (v2 : Int) (σ : Sg) (Q : Int → Sg → Prop) : Prop := CC X mX7_readWord [.ref (cxA X 12), .int (gI v1), .int (gI v2)] σ Q
def KX7_read (X : Cx) (σ : Sg) (Q : Int → Sg → Prop) : Prop := CC X mX7_read [.ref (cxA X 12)] σ Q
def KX8_looksLike (X : Cx) (v1 : Int) (σ : Sg) (Q : Int → Sg → Prop) : Prop := CC X mX8_looksLike [.ref (cxA X 1), .int (gI v1)] σ Q
def KX8_hasAsMany (X : Cx) (v2 : Int) (v3 : Int) (σ : Sg) (Q : Int → Sg → Prop) : Prop := CC X mX8_hasAsMany [.ref (cxA X 57), .ref (cxA X 1), .int (gI v2), .int (gI v3)] σ Q
def KX8_part (X : Cx) (v2 : Int) (σ : Sg) (Q : Int → Sg → Prop) : Prop := CC X mX8_part [.ref (cxA X 57), .ref (cxA X 1), .int (gI v2)] σ Q
def KX8_find (X : Cx) (σ : Sg) (Q : Int → Sg → Prop) : Prop := CC X mX8_find [.ref (cxA X 57), .ref (cxA X 1)] σ Q
def KJ6_numberOfTrailingZeros_0f7a4 (X : Cx) (v0 : Int) (σ : Sg) (Q : Int → Sg → Prop) : Prop := CC X mJ6_numberOfTrailingZeros_0f7a4 [.int (gI v0)] σ Q
def KX8_sorts (X : Cx) (v1 : Int) (σ : Sg) (Q : Int → Sg → Prop) : Prop := CC X mX8_sorts [.ref (cxA X 57), .int (gI v1)] σ Q
def KX9_codeAt (X : Cx) (c0 : Nat) (v1 : Int) (v2 : Int) (σ : Sg) (Q : Int → Sg → Prop) : Prop := CC X mX9_codeAt [.ref (cxA X c0), .int (gI v1), .int (gI v2)] σ Q
def KX10_areWords (X : Cx) (v0 : Int) (σ : Sg) (Q : Int → Sg → Prop) : Prop := CC X mX10_areWords [.int (gI v0)] σ Q
def KX11_thing (X : Cx) (v1 : Int) (v2 : Int) (v3 : Int) (v4 : Int) (σ : Sg) (Q : Int → Sg → Prop) : Prop := CC X mX11_thing [.ref (cxA X 0), .int (gI v1), .int (gI v2), .int (gI v3), .int (gI v4)] σ Q
def KX11_paint (X : Cx) (v1 : Int) (v2 : Int) (v3 : Int) (σ : Sg) (Q : Int → Sg → Prop) : Prop := CC X mX11_paint [.ref (cxA X 0), .int (gI v1), .int (gI v2), .int (gI v3)] σ Q
def KX11_tie (X : Cx) (v1 : Int) (v2 : Int) (σ : Sg) (Q : Int → Sg → Prop) : Prop := CC X mX11_tie [.ref (cxA X 0), .int (gI v1), .int (gI v2)] σ Q
def KX11_of (X : Cx) (v1 : Int) (v2 : Int) (σ : Sg) (Q : Int → Sg → Prop) : Prop := CC X mX11_of [.ref (cxA X 0), .int (gI v1), .int (gI v2)] σ Q
def KX11_price (X : Cx) (v1 : Int) (v2 : Int) (σ : Sg) (Q : Int → Sg → Prop) : Prop := CC X mX11_price [.ref (cxA X 0), .int (gI v1), .int (gI v2)] σ Q
def KX11_write (X : Cx) (w1 : Int) (v3 : Int) (σ : Sg) (Q : Int → Sg → Prop) : Prop := CC X mX11_write [.ref (cxA X 0), .long (gJ w1), .int (gI v3)] σ Q
def KX11_erase (X : Cx) (σ : Sg) (Q : Int → Sg → Prop) : Prop := CC X mX11_erase [.ref (cxA X 0)] σ Q
def KX11_fault (X : Cx) (σ : Sg) (Q : Int → Sg → Prop) : Prop := CC X mX11_fault [.ref (cxA X 0)] σ Q
def KX11_told (X : Cx) (c1 : Nat) (v2 : Int) (σ : Sg) (Q : Int → Sg → Prop) : Prop := CC X mX11_told [.ref (cxA X 0), .ref (cxA X c1), .int (gI v2)] σ Q
def KX11_says (X : Cx) (v1 : Int) (σ : Sg) (Q : Int → Sg → Prop) : Prop := CC X mX11_says [.ref (cxA X 0), .int (gI v1)] σ Q
def KX11_keep (X : Cx) (σ : Sg) (Q : Int → Sg → Prop) : Prop := CC X mX11_keep [.ref (cxA X 0)] σ Q
def KX11_kept (X : Cx) (v1 : Int) (v2 : Int) (σ : Sg) (Q : Int → Sg → Prop) : Prop := CC X mX11_kept [.ref (cxA X 0), .int (gI v1), .int (gI v2)] σ Q
def KX11_waysWith (X : Cx) (v1 : Int) (σ : Sg) (Q : Int → Sg → Prop) : Prop := CC X mX11_waysWith [.ref (cxA X 0), .int (gI v1)] σ Q
def KX11_cheapest (X : Cx) (v1 : Int) (v2 : Int) (v3 : Int) (σ : Sg) (Q : Int → Sg → Prop) : Prop := CC X mX11_cheapest [.ref (cxA X 0), .int (gI v1), .int (gI v2), .int (gI v3)] σ Q
def KX11_sets (X : Cx) (v1 : Int) (σ : Sg) (Q : Int → Sg → Prop) : Prop := CC X mX11_sets [.ref (cxA X 0), .int (gI v1)] σ Q
def KX11_quick (X : Cx) (v1 : Int) (σ : Sg) (Q : Int → Sg → Prop) : Prop := CC X mX11_quick [.ref (cxA X 0), .int (gI v1)] σ Q
def KX11_twin (X : Cx) (v1 : Int) (v2 : Int) (σ : Sg) (Q : Int → Sg → Prop) : Prop := CC X mX11_twin [.ref (cxA X 0), .int (gI v1), .int (gI v2)] σ Q
def KX11_firstBreak (X : Cx) (σ : Sg) (Q : Int → Sg → Prop) : Prop := CC X mX11_firstBreak [.ref (cxA X 0), .ref (cxA X 14)] σ Q
def KX11_breaks (X : Cx) (σ : Sg) (Q : Int → Sg → Prop) : Prop := CC X mX11_breaks [.ref (cxA X 0)] σ Q
def KX11_think (X : Cx) (v1 : Int) (σ : Sg) (Q : Int → Sg → Prop) : Prop := CC X mX11_think [.ref (cxA X 0), .int (gI v1)] σ Q
def KX11_hears (X : Cx) (v1 : Int) (v2 : Int) (σ : Sg) (Q : Int → Sg → Prop) : Prop := CC X mX11_hears [.ref (cxA X 0), .int (gI v1), .int (gI v2)] σ Q
def KX11_tells (X : Cx) (v1 : Int) (v2 : Int) (σ : Sg) (Q : Int → Sg → Prop) : Prop := CC X mX11_tells [.ref (cxA X 0), .int (gI v1), .int (gI v2)] σ Q
def KX11_ends (X : Cx) (σ : Sg) (Q : Int → Sg → Prop) : Prop := CC X mX11_ends [.ref (cxA X 0)] σ Q
def KX11_wrong (X : Cx) (v1 : Int) (σ : Sg) (Q : Int → Sg → Prop) : Prop := CC X mX11_wrong [.ref (cxA X 0), .int (gI v1)] σ Q
def KX11_name (X : Cx) (v1 : Int) (σ : Sg) (Q : Int → Sg → Prop) : Prop := CC X mX11_name [.ref (cxA X 0), .int (gI v1)] σ Q
def KX11_hush (X : Cx) (σ : Sg) (Q : Int → Sg → Prop) : Prop := CC X mX11_hush [.ref (cxA X 0)] σ Q
def KX11_talk (X : Cx) (v1 : Int) (σ : Sg) (Q : Int → Sg → Prop) : Prop := CC X mX11_talk [.ref (cxA X 0), .int (gI v1)] σ Q
def KX11_worth (X : Cx) (v1 : Int) (v2 : Int) (σ : Sg) (Q : Int → Sg → Prop) : Prop := CC X mX11_worth [.ref (cxA X 0), .int (gI v1), .int (gI v2)] σ Q
def KX11_count (X : Cx) (v1 : Int) (σ : Sg) (Q : Int → Sg → Prop) : Prop := CC X mX11_count [.ref (cxA X 0), .int (gI v1)] σ Q
def KX12_in (X : Cx) (v0 : Int) (v1 : Int) (v2 : Int) (σ : Sg) (Q : Int → Sg → Prop) : Prop := CC X mX12_in [.int (gI v0), .int (gI v1), .int (gI v2)] σ Q
def KX12_isThing (X : Cx) (v1 : Int) (σ : Sg) (Q : Int → Sg → Prop) : Prop := CC X mX12_isThing [.ref (cxA X 69), .int (gI v1)] σ Q
def KX12_bits (X : Cx) (v0 : Int) (σ : Sg) (Q : Int → Sg → Prop) : Prop := CC X mX12_bits [.int (gI v0)] σ Q
def KX12_every (X : Cx) (σ : Sg) (Q : Int → Sg → Prop) : Prop := CC X mX12_every [.ref (cxA X 69)] σ Q
def KX12_thing (X : Cx) (v1 : Int) (v2 : Int) (v3 : Int) (v4 : Int) (σ : Sg) (Q : Int → Sg → Prop) : Prop := CC X mX12_thing [.ref (cxA X 69), .int (gI v1), .int (gI v2), .int (gI v3), .int (gI v4)] σ Q
def KX12_paint (X : Cx) (v1 : Int) (v2 : Int) (v3 : Int) (σ : Sg) (Q : Int → Sg → Prop) : Prop := CC X mX12_paint [.ref (cxA X 69), .int (gI v1), .int (gI v2), .int (gI v3)] σ Q
def KX12_tieMany (X : Cx) (σ : Sg) (Q : Int → Sg → Prop) : Prop := CC X mX12_tieMany [.ref (cxA X 69)] σ Q
def KX12_tie (X : Cx) (v1 : Int) (v2 : Int) (σ : Sg) (Q : Int → Sg → Prop) : Prop := CC X mX12_tie [.ref (cxA X 69), .int (gI v1), .int (gI v2)] σ Q
def KX12_besides (X : Cx) (v1 : Int) (σ : Sg) (Q : Int → Sg → Prop) : Prop := CC X mX12_besides [.ref (cxA X 69), .int (gI v1)] σ Q
def KX12_of (X : Cx) (v1 : Int) (v2 : Int) (σ : Sg) (Q : Int → Sg → Prop) : Prop := CC X mX12_of [.ref (cxA X 69), .int (gI v1), .int (gI v2)] σ Q
def KX12_price (X : Cx) (v1 : Int) (v2 : Int) (σ : Sg) (Q : Int → Sg → Prop) : Prop := CC X mX12_price [.ref (cxA X 69), .int (gI v1), .int (gI v2)] σ Q
def KX12_write (X : Cx) (w1 : Int) (v3 : Int) (σ : Sg) (Q : Int → Sg → Prop) : Prop := CC X mX12_write [.ref (cxA X 69), .long (gJ w1), .int (gI v3)] σ Q
def KX12_erase (X : Cx) (σ : Sg) (Q : Int → Sg → Prop) : Prop := CC X mX12_erase [.ref (cxA X 69)] σ Q
def KX12_nextToken (X : Cx) (σ : Sg) (Q : Int → Sg → Prop) : Prop := CC X mX12_nextToken [.ref (cxA X 69)] σ Q
def KX12_fails (X : Cx) (σ : Sg) (Q : Int → Sg → Prop) : Prop := CC X mX12_fails [.ref (cxA X 69)] σ Q
def KX12_wordTold (X : Cx) (σ : Sg) (Q : Int → Sg → Prop) : Prop := CC X mX12_wordTold [.ref (cxA X 69)] σ Q
def KX12_needs (X : Cx) (v0 : Int) (σ : Sg) (Q : Int → Sg → Prop) : Prop := CC X mX12_needs [.int (gI v0)] σ Q
def KX12_isRead (X : Cx) (σ : Sg) (Q : Int → Sg → Prop) : Prop := CC X mX12_isRead [.ref (cxA X 69)] σ Q
def KX12_fault (X : Cx) (σ : Sg) (Q : Int → Sg → Prop) : Prop := CC X mX12_fault [.ref (cxA X 69)] σ Q
def KX12_allOf (X : Cx) (v1 : Int) (v2 : Int) (σ : Sg) (Q : Int → Sg → Prop) : Prop := CC X mX12_allOf [.ref (cxA X 69), .int (gI v1), .int (gI v2)] σ Q
def KX12_bySize (X : Cx) (v1 : Int) (v2 : Int) (σ : Sg) (Q : Int → Sg → Prop) : Prop := CC X mX12_bySize [.ref (cxA X 69), .int (gI v1), .int (gI v2)] σ Q
def KX12_leftmost (X : Cx) (v1 : Int) (σ : Sg) (Q : Int → Sg → Prop) : Prop := CC X mX12_leftmost [.ref (cxA X 69), .int (gI v1)] σ Q
def KX12_made (X : Cx) (v1 : Int) (v2 : Int) (v3 : Int) (σ : Sg) (Q : Int → Sg → Prop) : Prop := CC X mX12_made [.ref (cxA X 69), .int (gI v1), .int (gI v2), .int (gI v3)] σ Q
def KX12_meaning (X : Cx) (σ : Sg) (Q : Int → Sg → Prop) : Prop := CC X mX12_meaning [.ref (cxA X 69)] σ Q
def KX12_costTold (X : Cx) (σ : Sg) (Q : Int → Sg → Prop) : Prop := CC X mX12_costTold [.ref (cxA X 69)] σ Q
def KX12_says (X : Cx) (v1 : Int) (σ : Sg) (Q : Int → Sg → Prop) : Prop := CC X mX12_says [.ref (cxA X 69), .int (gI v1)] σ Q
def KX12_keep (X : Cx) (σ : Sg) (Q : Int → Sg → Prop) : Prop := CC X mX12_keep [.ref (cxA X 69)] σ Q
def KX12_recall (X : Cx) (v1 : Int) (σ : Sg) (Q : Int → Sg → Prop) : Prop := CC X mX12_recall [.ref (cxA X 69), .int (gI v1)] σ Q
def KX12_kept (X : Cx) (v1 : Int) (v2 : Int) (σ : Sg) (Q : Int → Sg → Prop) : Prop := CC X mX12_kept [.ref (cxA X 69), .int (gI v1), .int (gI v2)] σ Q
def KX12_offer (X : Cx) (v1 : Int) (v2 : Int) (v3 : Int) (v4 : Int) (v5 : Int) (σ : Sg) (Q : Int → Sg → Prop) : Prop := CC X mX12_offer [.ref (cxA X 69), .int (gI v1), .int (gI v2), .int (gI v3), .int (gI v4), .int (gI v5)] σ Q
def KX12_isAhead (X : Cx) (v1 : Int) (v2 : Int) (σ : Sg) (Q : Int → Sg → Prop) : Prop := CC X mX12_isAhead [.ref (cxA X 69), .int (gI v1), .int (gI v2)] σ Q
def KX12_settle (X : Cx) (v1 : Int) (σ : Sg) (Q : Int → Sg → Prop) : Prop := CC X mX12_settle [.ref (cxA X 69), .int (gI v1)] σ Q
def KX12_cheapestLeft (X : Cx) (σ : Sg) (Q : Int → Sg → Prop) : Prop := CC X mX12_cheapestLeft [.ref (cxA X 69)] σ Q
def KX12_search (X : Cx) (v1 : Int) (σ : Sg) (Q : Int → Sg → Prop) : Prop := CC X mX12_search [.ref (cxA X 69), .int (gI v1)] σ Q
def KX12_areWords (X : Cx) (v0 : Int) (σ : Sg) (Q : Int → Sg → Prop) : Prop := CC X mX12_areWords [.int (gI v0)] σ Q
def KX12_cheapest (X : Cx) (v1 : Int) (v2 : Int) (v3 : Int) (σ : Sg) (Q : Int → Sg → Prop) : Prop := CC X mX12_cheapest [.ref (cxA X 69), .int (gI v1), .int (gI v2), .int (gI v3)] σ Q
def KX12_sets (X : Cx) (v1 : Int) (σ : Sg) (Q : Int → Sg → Prop) : Prop := CC X mX12_sets [.ref (cxA X 69), .int (gI v1)] σ Q
def KX12_quick (X : Cx) (v1 : Int) (σ : Sg) (Q : Int → Sg → Prop) : Prop := CC X mX12_quick [.ref (cxA X 69), .int (gI v1)] σ Q
def KX12_howMany (X : Cx) (v1 : Int) (v2 : Int) (σ : Sg) (Q : Int → Sg → Prop) : Prop := CC X mX12_howMany [.ref (cxA X 69), .int (gI v1), .int (gI v2)] σ Q
def KX12_tiesTo (X : Cx) (v1 : Int) (σ : Sg) (Q : Int → Sg → Prop) : Prop := CC X mX12_tiesTo [.ref (cxA X 69), .int (gI v1)] σ Q
def KX12_areAlike (X : Cx) (v1 : Int) (v2 : Int) (σ : Sg) (Q : Int → Sg → Prop) : Prop := CC X mX12_areAlike [.ref (cxA X 69), .int (gI v1), .int (gI v2)] σ Q
def KX12_findTwins (X : Cx) (σ : Sg) (Q : Int → Sg → Prop) : Prop := CC X mX12_findTwins [.ref (cxA X 69)] σ Q
def KX12_twin (X : Cx) (v1 : Int) (v2 : Int) (σ : Sg) (Q : Int → Sg → Prop) : Prop := CC X mX12_twin [.ref (cxA X 69), .int (gI v1), .int (gI v2)] σ Q
def KX12_breaks (X : Cx) (σ : Sg) (Q : Int → Sg → Prop) : Prop := CC X mX12_breaks [.ref (cxA X 69)] σ Q
def KX12_findSaid (X : Cx) (σ : Sg) (Q : Int → Sg → Prop) : Prop := CC X mX12_findSaid [.ref (cxA X 69)] σ Q
def KX12_think (X : Cx) (v1 : Int) (σ : Sg) (Q : Int → Sg → Prop) : Prop := CC X mX12_think [.ref (cxA X 69), .int (gI v1)] σ Q
def KX12_hears (X : Cx) (v1 : Int) (v2 : Int) (σ : Sg) (Q : Int → Sg → Prop) : Prop := CC X mX12_hears [.ref (cxA X 69), .int (gI v1), .int (gI v2)] σ Q
def KX12_tells (X : Cx) (v1 : Int) (v2 : Int) (σ : Sg) (Q : Int → Sg → Prop) : Prop := CC X mX12_tells [.ref (cxA X 69), .int (gI v1), .int (gI v2)] σ Q
def KX12_ends (X : Cx) (σ : Sg) (Q : Int → Sg → Prop) : Prop := CC X mX12_ends [.ref (cxA X 69)] σ Q
def KX12_tryWord (X : Cx) (v1 : Int) (v2 : Int) (v3 : Int) (σ : Sg) (Q : Int → Sg → Prop) : Prop := CC X mX12_tryWord [.ref (cxA X 69), .int (gI v1), .int (gI v2), .int (gI v3)] σ Q
def KX12_wrong (X : Cx) (v1 : Int) (σ : Sg) (Q : Int → Sg → Prop) : Prop := CC X mX12_wrong [.ref (cxA X 69), .int (gI v1)] σ Q
def KX12_name (X : Cx) (v1 : Int) (σ : Sg) (Q : Int → Sg → Prop) : Prop := CC X mX12_name [.ref (cxA X 69), .int (gI v1)] σ Q
def KX12_hush (X : Cx) (σ : Sg) (Q : Int → Sg → Prop) : Prop := CC X mX12_hush [.ref (cxA X 69)] σ Q
def KX12_talk (X : Cx) (v1 : Int) (σ : Sg) (Q : Int → Sg → Prop) : Prop := CC X mX12_talk [.ref (cxA X 69), .int (gI v1)] σ Q
def KX12_worthOf (X : Cx) (v1 : Int) (σ : Sg) (Q : Int → Sg → Prop) : Prop := CC X mX12_worthOf [.ref (cxA X 69), .int (gI v1)] σ Q
def KX12_worth (X : Cx) (v1 : Int) (v2 : Int) (σ : Sg) (Q : Int → Sg → Prop) : Prop := CC X mX12_worth [.ref (cxA X 69), .int (gI v1), .int (gI v2)] σ Q
def KX12_count (X : Cx) (v1 : Int) (σ : Sg) (Q : Int → Sg → Prop) : Prop := CC X mX12_count [.ref (cxA X 69), .int (gI v1)] σ Q
theorem ok_J6_bitCount_0f7a4 : okB mJ6_bitCount_0f7a4 1 := ⟨gm_3 40 rfl rfl, gm_1 19 rfl rfl, ⟨by decide +kernel, by decide +kernel, by decide +kernel⟩, rfl, rfl⟩
theorem ok2_J6_bitCount_0f7a4 : Cond.static yJ6_bitCount_0f7a4 ∈ gdT := gm_3 39 rfl rfl
theorem ok_J6_numberOfTrailingZeros_0f7a4 : okB mJ6_numberOfTrailingZeros_0f7a4 1 := ⟨gm_3 185 rfl rfl, gm_1 19 rfl rfl, ⟨by decide +kernel, by decide +kernel, by decide +kernel⟩, rfl, rfl⟩
theorem ok2_J6_numberOfTrailingZeros_0f7a4 : Cond.static yJ6_numberOfTrailingZeros_0f7a4 ∈ gdT := gm_3 184 rfl rfl
theorem ok_J7_fill_53178 : okB mJ7_fill_53178 2 := ⟨gm_2 14 rfl rfl, gm_1 11 rfl rfl, ⟨by decide +kernel, by decide +kernel, by decide +kernel⟩, rfl, rfl⟩
theorem ok2_J7_fill_53178 : Cond.static yJ7_fill_53178 ∈ gdT := gm_2 13 rfl rfl
theorem ok_X0_find : okB mX0_find 3 := ⟨gm_4 65 rfl rfl, gm_1 6 rfl rfl, ⟨by decide +kernel, by decide +kernel, by decide +kernel⟩, rfl, rfl⟩
theorem ok2_X0_find : Cond.instanceMethod yX0_find ∈ gdT ∧ Cond.selects yX0_find.cls yX0_find yX0_find ∈ gdT := ⟨gm_4 63 rfl rfl, gm_4 64 rfl rfl⟩
theorem ok_X0_tryMark : okB mX0_tryMark 4 := ⟨gm_4 70 rfl rfl, gm_1 6 rfl rfl, ⟨by decide +kernel, by decide +kernel, by decide +kernel⟩, rfl, rfl⟩
theorem ok2_X0_tryMark : Cond.instanceMethod yX0_tryMark ∈ gdT ∧ Cond.selects yX0_tryMark.cls yX0_tryMark yX0_tryMark ∈ gdT := ⟨gm_4 69 rfl rfl, gm_s 30 rfl rfl⟩
theorem ok_X10_areWords : okB mX10_areWords 1 := ⟨gm_3 72 rfl rfl, gm_1 13 rfl rfl, ⟨by decide +kernel, by decide +kernel, by decide +kernel⟩, rfl, rfl⟩
theorem ok2_X10_areWords : Cond.static yX10_areWords ∈ gdT := gm_3 71 rfl rfl
theorem ok_X10_firstLike : okB mX10_firstLike 1 := ⟨gm_4 11 rfl rfl, gm_1 13 rfl rfl, ⟨by decide +kernel, by decide +kernel, by decide +kernel⟩, rfl, rfl⟩
theorem ok2_X10_firstLike : Cond.static yX10_firstLike ∈ gdT := gm_4 10 rfl rfl
theorem ok_X10_isKnown : okB mX10_isKnown 2 := ⟨gm_3 89 rfl rfl, gm_1 13 rfl rfl, ⟨by decide +kernel, by decide +kernel, by decide +kernel⟩, rfl, rfl⟩
theorem ok2_X10_isKnown : Cond.static yX10_isKnown ∈ gdT := gm_3 88 rfl rfl
theorem ok_X10_isSpelt : okB mX10_isSpelt 4 := ⟨gm_2 164 rfl rfl, gm_1 13 rfl rfl, ⟨by decide +kernel, by decide +kernel, by decide +kernel⟩, rfl, rfl⟩
theorem ok2_X10_isSpelt : Cond.static yX10_isSpelt ∈ gdT := gm_2 163 rfl rfl
theorem ok_X10_join : okB mX10_join 3 := ⟨gm_3 46 rfl rfl, gm_1 13 rfl rfl, ⟨by decide +kernel, by decide +kernel, by decide +kernel⟩, rfl, rfl⟩
theorem ok2_X10_join : Cond.static yX10_join ∈ gdT := gm_3 45 rfl rfl
theorem ok_X10_lastLike : okB mX10_lastLike 1 := ⟨gm_4 16 rfl rfl, gm_1 13 rfl rfl, ⟨by decide +kernel, by decide +kernel, by decide +kernel⟩, rfl, rfl⟩
theorem ok2_X10_lastLike : Cond.static yX10_lastLike ∈ gdT := gm_4 15 rfl rfl
theorem ok_X10_numbers : okB mX10_numbers 1 := ⟨gm_2 218 rfl rfl, gm_1 13 rfl rfl, ⟨by decide +kernel, by decide +kernel, by decide +kernel⟩, rfl, rfl⟩
theorem ok2_X10_numbers : Cond.static yX10_numbers ∈ gdT := gm_2 217 rfl rfl
theorem ok_X10_parts : okB mX10_parts 1 := ⟨gm_2 212 rfl rfl, gm_1 13 rfl rfl, ⟨by decide +kernel, by decide +kernel, by decide +kernel⟩, rfl, rfl⟩
theorem ok2_X10_parts : Cond.static yX10_parts ∈ gdT := gm_2 211 rfl rfl
theorem ok_X10_spelt : okB mX10_spelt 3 := ⟨gm_2 161 rfl rfl, gm_1 13 rfl rfl, ⟨by decide +kernel, by decide +kernel, by decide +kernel⟩, rfl, rfl⟩
theorem ok2_X10_spelt : Cond.static yX10_spelt ∈ gdT := gm_2 160 rfl rfl
theorem ok_X11_breaks : okB mX11_breaks 0 := ⟨gm_3 195 rfl rfl, gm_1 1 rfl rfl, ⟨by decide +kernel, by decide +kernel, by decide +kernel⟩, rfl, rfl⟩
theorem ok2_X11_breaks : Cond.instanceMethod yX11_breaks ∈ gdT ∧ Cond.selects yX11_breaks.cls yX11_breaks yX11_breaks ∈ gdT := ⟨gm_3 193 rfl rfl, gm_3 194 rfl rfl⟩
theorem ok_X11_cheapest : okB mX11_cheapest 3 := ⟨gm_3 68 rfl rfl, gm_1 1 rfl rfl, ⟨by decide +kernel, by decide +kernel, by decide +kernel⟩, rfl, rfl⟩
theorem ok2_X11_cheapest : Cond.instanceMethod yX11_cheapest ∈ gdT ∧ Cond.selects yX11_cheapest.cls yX11_cheapest yX11_cheapest ∈ gdT := ⟨gm_3 66 rfl rfl, gm_3 67 rfl rfl⟩
theorem ok_X11_count : okB mX11_count 1 := ⟨gm_4 77 rfl rfl, gm_1 1 rfl rfl, ⟨by decide +kernel, by decide +kernel, by decide +kernel⟩, rfl, rfl⟩
theorem ok2_X11_count : Cond.instanceMethod yX11_count ∈ gdT ∧ Cond.selects yX11_count.cls yX11_count yX11_count ∈ gdT := ⟨gm_4 75 rfl rfl, gm_4 76 rfl rfl⟩
theorem ok_X11_ends : okB mX11_ends 0 := ⟨gm_3 239 rfl rfl, gm_1 1 rfl rfl, ⟨by decide +kernel, by decide +kernel, by decide +kernel⟩, rfl, rfl⟩
theorem ok2_X11_ends : Cond.instanceMethod yX11_ends ∈ gdT ∧ Cond.selects yX11_ends.cls yX11_ends yX11_ends ∈ gdT := ⟨gm_3 237 rfl rfl, gm_3 238 rfl rfl⟩
theorem ok_X11_erase : okB mX11_erase 0 := ⟨gm_2 125 rfl rfl, gm_1 1 rfl rfl, ⟨by decide +kernel, by decide +kernel, by decide +kernel⟩, rfl, rfl⟩
theorem ok2_X11_erase : Cond.instanceMethod yX11_erase ∈ gdT ∧ Cond.selects yX11_erase.cls yX11_erase yX11_erase ∈ gdT := ⟨gm_2 123 rfl rfl, gm_2 124 rfl rfl⟩
theorem ok_X11_fault : okB mX11_fault 0 := ⟨gm_2 133 rfl rfl, gm_1 1 rfl rfl, ⟨by decide +kernel, by decide +kernel, by decide +kernel⟩, rfl, rfl⟩
theorem ok2_X11_fault : Cond.instanceMethod yX11_fault ∈ gdT ∧ Cond.selects yX11_fault.cls yX11_fault yX11_fault ∈ gdT := ⟨gm_2 131 rfl rfl, gm_2 132 rfl rfl⟩
theorem ok_X11_firstBreak : okB mX11_firstBreak 1 := ⟨gm_3 199 rfl rfl, gm_1 1 rfl rfl, ⟨by decide +kernel, by decide +kernel, by decide +kernel⟩, rfl, rfl⟩
theorem ok2_X11_firstBreak : Cond.instanceMethod yX11_firstBreak ∈ gdT ∧ Cond.selects yX11_firstBreak.cls yX11_firstBreak yX11_firstBreak ∈ gdT := ⟨gm_3 198 rfl rfl, gm_s 25 rfl rfl⟩
theorem ok_X11_hears : okB mX11_hears 2 := ⟨gm_3 203 rfl rfl, gm_1 1 rfl rfl, ⟨by decide +kernel, by decide +kernel, by decide +kernel⟩, rfl, rfl⟩
theorem ok2_X11_hears : Cond.instanceMethod yX11_hears ∈ gdT ∧ Cond.selects yX11_hears.cls yX11_hears yX11_hears ∈ gdT := ⟨gm_3 201 rfl rfl, gm_3 202 rfl rfl⟩
theorem ok_X11_hush : okB mX11_hush 0 := ⟨gm_4 38 rfl rfl, gm_1 1 rfl rfl, ⟨by decide +kernel, by decide +kernel, by decide +kernel⟩, rfl, rfl⟩
theorem ok2_X11_hush : Cond.instanceMethod yX11_hush ∈ gdT ∧ Cond.selects yX11_hush.cls yX11_hush yX11_hush ∈ gdT := ⟨gm_4 36 rfl rfl, gm_4 37 rfl rfl⟩
theorem ok_X11_isWithin : okB mX11_isWithin 2 := ⟨gm_2 64 rfl rfl, gm_1 1 rfl rfl, ⟨by decide +kernel, by decide +kernel, by decide +kernel⟩, rfl, rfl⟩
theorem ok2_X11_isWithin : Cond.static yX11_isWithin ∈ gdT := gm_2 63 rfl rfl
theorem ok_X11_keep : okB mX11_keep 0 := ⟨gm_3 55 rfl rfl, gm_1 1 rfl rfl, ⟨by decide +kernel, by decide +kernel, by decide +kernel⟩, rfl, rfl⟩
theorem ok2_X11_keep : Cond.instanceMethod yX11_keep ∈ gdT ∧ Cond.selects yX11_keep.cls yX11_keep yX11_keep ∈ gdT := ⟨gm_3 53 rfl rfl, gm_3 54 rfl rfl⟩
theorem ok_X11_kept : okB mX11_kept 2 := ⟨gm_3 64 rfl rfl, gm_1 1 rfl rfl, ⟨by decide +kernel, by decide +kernel, by decide +kernel⟩, rfl, rfl⟩
theorem ok2_X11_kept : Cond.instanceMethod yX11_kept ∈ gdT ∧ Cond.selects yX11_kept.cls yX11_kept yX11_kept ∈ gdT := ⟨gm_3 62 rfl rfl, gm_3 63 rfl rfl⟩
theorem ok_X11_name : okB mX11_name 1 := ⟨gm_4 30 rfl rfl, gm_1 1 rfl rfl, ⟨by decide +kernel, by decide +kernel, by decide +kernel⟩, rfl, rfl⟩
theorem ok2_X11_name : Cond.instanceMethod yX11_name ∈ gdT ∧ Cond.selects yX11_name.cls yX11_name yX11_name ∈ gdT := ⟨gm_4 28 rfl rfl, gm_4 29 rfl rfl⟩
theorem ok_X11_of : okB mX11_of 2 := ⟨gm_2 104 rfl rfl, gm_1 1 rfl rfl, ⟨by decide +kernel, by decide +kernel, by decide +kernel⟩, rfl, rfl⟩
theorem ok2_X11_of : Cond.instanceMethod yX11_of ∈ gdT ∧ Cond.selects yX11_of.cls yX11_of yX11_of ∈ gdT := ⟨gm_2 102 rfl rfl, gm_2 103 rfl rfl⟩
theorem ok_X11_paint : okB mX11_paint 3 := ⟨gm_2 83 rfl rfl, gm_1 1 rfl rfl, ⟨by decide +kernel, by decide +kernel, by decide +kernel⟩, rfl, rfl⟩
theorem ok2_X11_paint : Cond.instanceMethod yX11_paint ∈ gdT ∧ Cond.selects yX11_paint.cls yX11_paint yX11_paint ∈ gdT := ⟨gm_2 81 rfl rfl, gm_2 82 rfl rfl⟩
theorem ok_X11_price : okB mX11_price 2 := ⟨gm_2 108 rfl rfl, gm_1 1 rfl rfl, ⟨by decide +kernel, by decide +kernel, by decide +kernel⟩, rfl, rfl⟩
theorem ok2_X11_price : Cond.instanceMethod yX11_price ∈ gdT ∧ Cond.selects yX11_price.cls yX11_price yX11_price ∈ gdT := ⟨gm_2 106 rfl rfl, gm_2 107 rfl rfl⟩
theorem ok_X11_quick : okB mX11_quick 1 := ⟨gm_3 151 rfl rfl, gm_1 1 rfl rfl, ⟨by decide +kernel, by decide +kernel, by decide +kernel⟩, rfl, rfl⟩
theorem ok2_X11_quick : Cond.instanceMethod yX11_quick ∈ gdT ∧ Cond.selects yX11_quick.cls yX11_quick yX11_quick ∈ gdT := ⟨gm_3 149 rfl rfl, gm_3 150 rfl rfl⟩
theorem ok_X11_says : okB mX11_says 1 := ⟨gm_2 225 rfl rfl, gm_1 1 rfl rfl, ⟨by decide +kernel, by decide +kernel, by decide +kernel⟩, rfl, rfl⟩
theorem ok2_X11_says : Cond.instanceMethod yX11_says ∈ gdT ∧ Cond.selects yX11_says.cls yX11_says yX11_says ∈ gdT := ⟨gm_2 223 rfl rfl, gm_2 224 rfl rfl⟩
theorem ok_X11_sets : okB mX11_sets 1 := ⟨gm_3 147 rfl rfl, gm_1 1 rfl rfl, ⟨by decide +kernel, by decide +kernel, by decide +kernel⟩, rfl, rfl⟩
theorem ok2_X11_sets : Cond.instanceMethod yX11_sets ∈ gdT ∧ Cond.selects yX11_sets.cls yX11_sets yX11_sets ∈ gdT := ⟨gm_3 145 rfl rfl, gm_3 146 rfl rfl⟩
theorem ok_X11_talk : okB mX11_talk 1 := ⟨gm_4 42 rfl rfl, gm_1 1 rfl rfl, ⟨by decide +kernel, by decide +kernel, by decide +kernel⟩, rfl, rfl⟩
theorem ok2_X11_talk : Cond.instanceMethod yX11_talk ∈ gdT ∧ Cond.selects yX11_talk.cls yX11_talk yX11_talk ∈ gdT := ⟨gm_4 40 rfl rfl, gm_4 41 rfl rfl⟩
theorem ok_X11_tells : okB mX11_tells 2 := ⟨gm_3 234 rfl rfl, gm_1 1 rfl rfl, ⟨by decide +kernel, by decide +kernel, by decide +kernel⟩, rfl, rfl⟩
theorem ok2_X11_tells : Cond.instanceMethod yX11_tells ∈ gdT ∧ Cond.selects yX11_tells.cls yX11_tells yX11_tells ∈ gdT := ⟨gm_3 232 rfl rfl, gm_3 233 rfl rfl⟩
theorem ok_X11_thing : okB mX11_thing 4 := ⟨gm_2 56 rfl rfl, gm_1 1 rfl rfl, ⟨by decide +kernel, by decide +kernel, by decide +kernel⟩, rfl, rfl⟩
theorem ok2_X11_thing : Cond.instanceMethod yX11_thing ∈ gdT ∧ Cond.selects yX11_thing.cls yX11_thing yX11_thing ∈ gdT := ⟨gm_2 54 rfl rfl, gm_2 55 rfl rfl⟩
theorem ok_X11_think : okB mX11_think 1 := ⟨gm_3 207 rfl rfl, gm_1 1 rfl rfl, ⟨by decide +kernel, by decide +kernel, by decide +kernel⟩, rfl, rfl⟩
theorem ok2_X11_think : Cond.instanceMethod yX11_think ∈ gdT ∧ Cond.selects yX11_think.cls yX11_think yX11_think ∈ gdT := ⟨gm_3 206 rfl rfl, gm_s 26 rfl rfl⟩
theorem ok_X11_tie : okB mX11_tie 2 := ⟨gm_2 91 rfl rfl, gm_1 1 rfl rfl, ⟨by decide +kernel, by decide +kernel, by decide +kernel⟩, rfl, rfl⟩
theorem ok2_X11_tie : Cond.instanceMethod yX11_tie ∈ gdT ∧ Cond.selects yX11_tie.cls yX11_tie yX11_tie ∈ gdT := ⟨gm_2 89 rfl rfl, gm_2 90 rfl rfl⟩
theorem ok_X11_told : okB mX11_told 2 := ⟨gm_2 229 rfl rfl, gm_1 1 rfl rfl, ⟨by decide +kernel, by decide +kernel, by decide +kernel⟩, rfl, rfl⟩
theorem ok2_X11_told : Cond.instanceMethod yX11_told ∈ gdT ∧ Cond.selects yX11_told.cls yX11_told yX11_told ∈ gdT := ⟨gm_2 228 rfl rfl, gm_s 5 rfl rfl⟩
theorem ok_X11_twin : okB mX11_twin 2 := ⟨gm_3 163 rfl rfl, gm_1 1 rfl rfl, ⟨by decide +kernel, by decide +kernel, by decide +kernel⟩, rfl, rfl⟩
theorem ok2_X11_twin : Cond.instanceMethod yX11_twin ∈ gdT ∧ Cond.selects yX11_twin.cls yX11_twin yX11_twin ∈ gdT := ⟨gm_3 161 rfl rfl, gm_3 162 rfl rfl⟩
theorem ok_X11_waysWith : okB mX11_waysWith 1 := ⟨gm_3 77 rfl rfl, gm_1 1 rfl rfl, ⟨by decide +kernel, by decide +kernel, by decide +kernel⟩, rfl, rfl⟩
theorem ok2_X11_waysWith : Cond.instanceMethod yX11_waysWith ∈ gdT ∧ Cond.selects yX11_waysWith.cls yX11_waysWith yX11_waysWith ∈ gdT := ⟨gm_3 76 rfl rfl, gm_s 12 rfl rfl⟩
theorem ok_X11_worth : okB mX11_worth 2 := ⟨gm_4 56 rfl rfl, gm_1 1 rfl rfl, ⟨by decide +kernel, by decide +kernel, by decide +kernel⟩, rfl, rfl⟩
theorem ok2_X11_worth : Cond.instanceMethod yX11_worth ∈ gdT ∧ Cond.selects yX11_worth.cls yX11_worth yX11_worth ∈ gdT := ⟨gm_4 54 rfl rfl, gm_4 55 rfl rfl⟩
theorem ok_X11_write : okB mX11_write 2 := ⟨gm_2 112 rfl rfl, gm_1 1 rfl rfl, ⟨by decide +kernel, by decide +kernel, by decide +kernel⟩, rfl, rfl⟩
theorem ok2_X11_write : Cond.instanceMethod yX11_write ∈ gdT ∧ Cond.selects yX11_write.cls yX11_write yX11_write ∈ gdT := ⟨gm_2 110 rfl rfl, gm_2 111 rfl rfl⟩
theorem ok_X11_wrong : okB mX11_wrong 1 := ⟨gm_4 3 rfl rfl, gm_1 1 rfl rfl, ⟨by decide +kernel, by decide +kernel, by decide +kernel⟩, rfl, rfl⟩
theorem ok2_X11_wrong : Cond.instanceMethod yX11_wrong ∈ gdT ∧ Cond.selects yX11_wrong.cls yX11_wrong yX11_wrong ∈ gdT := ⟨gm_4 1 rfl rfl, gm_4 2 rfl rfl⟩
theorem ok_X12_allOf : okB mX12_allOf 2 := ⟨gm_5 70 rfl rfl, gm_1 12 rfl rfl, ⟨by decide +kernel, by decide +kernel, by decide +kernel⟩, rfl, rfl⟩
theorem ok2_X12_allOf : Cond.instanceMethod yX12_allOf ∈ gdT ∧ Cond.selects yX12_allOf.cls yX12_allOf yX12_allOf ∈ gdT := ⟨gm_5 69 rfl rfl, gm_s 39 rfl rfl⟩
theorem ok_X12_areAlike : okB mX12_areAlike 2 := ⟨gm_5 149 rfl rfl, gm_1 12 rfl rfl, ⟨by decide +kernel, by decide +kernel, by decide +kernel⟩, rfl, rfl⟩
theorem ok2_X12_areAlike : Cond.instanceMethod yX12_areAlike ∈ gdT ∧ Cond.selects yX12_areAlike.cls yX12_areAlike yX12_areAlike ∈ gdT := ⟨gm_5 148 rfl rfl, gm_s 52 rfl rfl⟩
theorem ok_X12_areWords : okB mX12_areWords 1 := ⟨gm_5 109 rfl rfl, gm_1 12 rfl rfl, ⟨by decide +kernel, by decide +kernel, by decide +kernel⟩, rfl, rfl⟩
theorem ok2_X12_areWords : Cond.static yX12_areWords ∈ gdT := gm_5 108 rfl rfl
theorem ok_X12_besides : okB mX12_besides 1 := ⟨gm_5 2 rfl rfl, gm_1 12 rfl rfl, ⟨by decide +kernel, by decide +kernel, by decide +kernel⟩, rfl, rfl⟩
theorem ok2_X12_besides : Cond.instanceMethod yX12_besides ∈ gdT ∧ Cond.selects yX12_besides.cls yX12_besides yX12_besides ∈ gdT := ⟨gm_5 1 rfl rfl, gm_s 33 rfl rfl⟩
theorem ok_X12_bits : okB mX12_bits 1 := ⟨gm_4 234 rfl rfl, gm_1 12 rfl rfl, ⟨by decide +kernel, by decide +kernel, by decide +kernel⟩, rfl, rfl⟩
theorem ok2_X12_bits : Cond.static yX12_bits ∈ gdT := gm_4 233 rfl rfl
theorem ok_X12_breaks : okB mX12_breaks 0 := ⟨gm_5 161 rfl rfl, gm_1 12 rfl rfl, ⟨by decide +kernel, by decide +kernel, by decide +kernel⟩, rfl, rfl⟩
theorem ok2_X12_breaks : Cond.instanceMethod yX12_breaks ∈ gdT ∧ Cond.selects yX12_breaks.cls yX12_breaks yX12_breaks ∈ gdT := ⟨gm_5 159 rfl rfl, gm_5 160 rfl rfl⟩
theorem ok_X12_bySize : okB mX12_bySize 2 := ⟨gm_5 82 rfl rfl, gm_1 12 rfl rfl, ⟨by decide +kernel, by decide +kernel, by decide +kernel⟩, rfl, rfl⟩
theorem ok2_X12_bySize : Cond.instanceMethod yX12_bySize ∈ gdT ∧ Cond.selects yX12_bySize.cls yX12_bySize yX12_bySize ∈ gdT := ⟨gm_5 81 rfl rfl, gm_s 42 rfl rfl⟩
theorem ok_X12_cheapest : okB mX12_cheapest 3 := ⟨gm_5 106 rfl rfl, gm_1 12 rfl rfl, ⟨by decide +kernel, by decide +kernel, by decide +kernel⟩, rfl, rfl⟩
theorem ok2_X12_cheapest : Cond.instanceMethod yX12_cheapest ∈ gdT ∧ Cond.selects yX12_cheapest.cls yX12_cheapest yX12_cheapest ∈ gdT := ⟨gm_5 104 rfl rfl, gm_5 105 rfl rfl⟩
theorem ok_X12_cheapestLeft : okB mX12_cheapestLeft 0 := ⟨gm_5 121 rfl rfl, gm_1 12 rfl rfl, ⟨by decide +kernel, by decide +kernel, by decide +kernel⟩, rfl, rfl⟩
theorem ok2_X12_cheapestLeft : Cond.instanceMethod yX12_cheapestLeft ∈ gdT ∧ Cond.selects yX12_cheapestLeft.cls yX12_cheapestLeft yX12_cheapestLeft ∈ gdT := ⟨gm_5 120 rfl rfl, gm_s 48 rfl rfl⟩
theorem ok_X12_costTold : okB mX12_costTold 0 := ⟨gm_5 90 rfl rfl, gm_1 12 rfl rfl, ⟨by decide +kernel, by decide +kernel, by decide +kernel⟩, rfl, rfl⟩
theorem ok2_X12_costTold : Cond.instanceMethod yX12_costTold ∈ gdT ∧ Cond.selects yX12_costTold.cls yX12_costTold yX12_costTold ∈ gdT := ⟨gm_5 89 rfl rfl, gm_s 44 rfl rfl⟩
theorem ok_X12_count : okB mX12_count 1 := ⟨gm_5 213 rfl rfl, gm_1 12 rfl rfl, ⟨by decide +kernel, by decide +kernel, by decide +kernel⟩, rfl, rfl⟩
theorem ok2_X12_count : Cond.instanceMethod yX12_count ∈ gdT ∧ Cond.selects yX12_count.cls yX12_count yX12_count ∈ gdT := ⟨gm_5 211 rfl rfl, gm_5 212 rfl rfl⟩
theorem ok_X12_ends : okB mX12_ends 0 := ⟨gm_5 181 rfl rfl, gm_1 12 rfl rfl, ⟨by decide +kernel, by decide +kernel, by decide +kernel⟩, rfl, rfl⟩
theorem ok2_X12_ends : Cond.instanceMethod yX12_ends ∈ gdT ∧ Cond.selects yX12_ends.cls yX12_ends yX12_ends ∈ gdT := ⟨gm_5 179 rfl rfl, gm_5 180 rfl rfl⟩
theorem ok_X12_erase : okB mX12_erase 0 := ⟨gm_5 15 rfl rfl, gm_1 12 rfl rfl, ⟨by decide +kernel, by decide +kernel, by decide +kernel⟩, rfl, rfl⟩
theorem ok2_X12_erase : Cond.instanceMethod yX12_erase ∈ gdT ∧ Cond.selects yX12_erase.cls yX12_erase yX12_erase ∈ gdT := ⟨gm_5 13 rfl rfl, gm_5 14 rfl rfl⟩
theorem ok_X12_every : okB mX12_every 0 := ⟨gm_5 78 rfl rfl, gm_1 12 rfl rfl, ⟨by decide +kernel, by decide +kernel, by decide +kernel⟩, rfl, rfl⟩
theorem ok2_X12_every : Cond.instanceMethod yX12_every ∈ gdT ∧ Cond.selects yX12_every.cls yX12_every yX12_every ∈ gdT := ⟨gm_5 77 rfl rfl, gm_s 41 rfl rfl⟩
theorem ok_X12_fails : okB mX12_fails 0 := ⟨gm_5 55 rfl rfl, gm_1 12 rfl rfl, ⟨by decide +kernel, by decide +kernel, by decide +kernel⟩, rfl, rfl⟩
theorem ok2_X12_fails : Cond.instanceMethod yX12_fails ∈ gdT ∧ Cond.selects yX12_fails.cls yX12_fails yX12_fails ∈ gdT := ⟨gm_5 54 rfl rfl, gm_s 37 rfl rfl⟩
theorem ok_X12_fault : okB mX12_fault 0 := ⟨gm_5 19 rfl rfl, gm_1 12 rfl rfl, ⟨by decide +kernel, by decide +kernel, by decide +kernel⟩, rfl, rfl⟩
theorem ok2_X12_fault : Cond.instanceMethod yX12_fault ∈ gdT ∧ Cond.selects yX12_fault.cls yX12_fault yX12_fault ∈ gdT := ⟨gm_5 17 rfl rfl, gm_5 18 rfl rfl⟩
theorem ok_X12_findSaid : okB mX12_findSaid 0 := ⟨gm_5 173 rfl rfl, gm_1 12 rfl rfl, ⟨by decide +kernel, by decide +kernel, by decide +kernel⟩, rfl, rfl⟩
theorem ok2_X12_findSaid : Cond.instanceMethod yX12_findSaid ∈ gdT ∧ Cond.selects yX12_findSaid.cls yX12_findSaid yX12_findSaid ∈ gdT := ⟨gm_5 172 rfl rfl, gm_s 56 rfl rfl⟩
theorem ok_X12_findTwins : okB mX12_findTwins 0 := ⟨gm_5 145 rfl rfl, gm_1 12 rfl rfl, ⟨by decide +kernel, by decide +kernel, by decide +kernel⟩, rfl, rfl⟩
theorem ok2_X12_findTwins : Cond.instanceMethod yX12_findTwins ∈ gdT ∧ Cond.selects yX12_findTwins.cls yX12_findTwins yX12_findTwins ∈ gdT := ⟨gm_5 144 rfl rfl, gm_s 51 rfl rfl⟩
theorem ok_X12_hears : okB mX12_hears 2 := ⟨gm_5 165 rfl rfl, gm_1 12 rfl rfl, ⟨by decide +kernel, by decide +kernel, by decide +kernel⟩, rfl, rfl⟩
theorem ok2_X12_hears : Cond.instanceMethod yX12_hears ∈ gdT ∧ Cond.selects yX12_hears.cls yX12_hears yX12_hears ∈ gdT := ⟨gm_5 163 rfl rfl, gm_5 164 rfl rfl⟩
theorem ok_X12_howMany : okB mX12_howMany 2 := ⟨gm_5 153 rfl rfl, gm_1 12 rfl rfl, ⟨by decide +kernel, by decide +kernel, by decide +kernel⟩, rfl, rfl⟩
theorem ok2_X12_howMany : Cond.instanceMethod yX12_howMany ∈ gdT ∧ Cond.selects yX12_howMany.cls yX12_howMany yX12_howMany ∈ gdT := ⟨gm_5 152 rfl rfl, gm_s 53 rfl rfl⟩
theorem ok_X12_hush : okB mX12_hush 0 := ⟨gm_5 197 rfl rfl, gm_1 12 rfl rfl, ⟨by decide +kernel, by decide +kernel, by decide +kernel⟩, rfl, rfl⟩
theorem ok2_X12_hush : Cond.instanceMethod yX12_hush ∈ gdT ∧ Cond.selects yX12_hush.cls yX12_hush yX12_hush ∈ gdT := ⟨gm_5 195 rfl rfl, gm_5 196 rfl rfl⟩
theorem ok_X12_in : okB mX12_in 3 := ⟨gm_4 215 rfl rfl, gm_1 12 rfl rfl, ⟨by decide +kernel, by decide +kernel, by decide +kernel⟩, rfl, rfl⟩
theorem ok2_X12_in : Cond.static yX12_in ∈ gdT := gm_4 214 rfl rfl
theorem ok_X12_isAhead : okB mX12_isAhead 2 := ⟨gm_5 129 rfl rfl, gm_1 12 rfl rfl, ⟨by decide +kernel, by decide +kernel, by decide +kernel⟩, rfl, rfl⟩
theorem ok2_X12_isAhead : Cond.instanceMethod yX12_isAhead ∈ gdT ∧ Cond.selects yX12_isAhead.cls yX12_isAhead yX12_isAhead ∈ gdT := ⟨gm_5 128 rfl rfl, gm_s 50 rfl rfl⟩
theorem ok_X12_isRead : okB mX12_isRead 0 := ⟨gm_5 23 rfl rfl, gm_1 12 rfl rfl, ⟨by decide +kernel, by decide +kernel, by decide +kernel⟩, rfl, rfl⟩
theorem ok2_X12_isRead : Cond.instanceMethod yX12_isRead ∈ gdT ∧ Cond.selects yX12_isRead.cls yX12_isRead yX12_isRead ∈ gdT := ⟨gm_5 22 rfl rfl, gm_s 34 rfl rfl⟩
theorem ok_X12_isThing : okB mX12_isThing 1 := ⟨gm_4 223 rfl rfl, gm_1 12 rfl rfl, ⟨by decide +kernel, by decide +kernel, by decide +kernel⟩, rfl, rfl⟩
theorem ok2_X12_isThing : Cond.instanceMethod yX12_isThing ∈ gdT ∧ Cond.selects yX12_isThing.cls yX12_isThing yX12_isThing ∈ gdT := ⟨gm_4 222 rfl rfl, gm_s 31 rfl rfl⟩
theorem ok_X12_keep : okB mX12_keep 0 := ⟨gm_5 94 rfl rfl, gm_1 12 rfl rfl, ⟨by decide +kernel, by decide +kernel, by decide +kernel⟩, rfl, rfl⟩
theorem ok2_X12_keep : Cond.instanceMethod yX12_keep ∈ gdT ∧ Cond.selects yX12_keep.cls yX12_keep yX12_keep ∈ gdT := ⟨gm_5 92 rfl rfl, gm_5 93 rfl rfl⟩
theorem ok_X12_kept : okB mX12_kept 2 := ⟨gm_5 98 rfl rfl, gm_1 12 rfl rfl, ⟨by decide +kernel, by decide +kernel, by decide +kernel⟩, rfl, rfl⟩
theorem ok2_X12_kept : Cond.instanceMethod yX12_kept ∈ gdT ∧ Cond.selects yX12_kept.cls yX12_kept yX12_kept ∈ gdT := ⟨gm_5 96 rfl rfl, gm_5 97 rfl rfl⟩
theorem ok_X12_leftmost : okB mX12_leftmost 1 := ⟨gm_5 86 rfl rfl, gm_1 12 rfl rfl, ⟨by decide +kernel, by decide +kernel, by decide +kernel⟩, rfl, rfl⟩
theorem ok2_X12_leftmost : Cond.instanceMethod yX12_leftmost ∈ gdT ∧ Cond.selects yX12_leftmost.cls yX12_leftmost yX12_leftmost ∈ gdT := ⟨gm_5 85 rfl rfl, gm_s 43 rfl rfl⟩
theorem ok_X12_made : okB mX12_made 3 := ⟨gm_5 74 rfl rfl, gm_1 12 rfl rfl, ⟨by decide +kernel, by decide +kernel, by decide +kernel⟩, rfl, rfl⟩
theorem ok2_X12_made : Cond.instanceMethod yX12_made ∈ gdT ∧ Cond.selects yX12_made.cls yX12_made yX12_made ∈ gdT := ⟨gm_5 73 rfl rfl, gm_s 40 rfl rfl⟩
theorem ok_X12_meaning : okB mX12_meaning 0 := ⟨gm_5 66 rfl rfl, gm_1 12 rfl rfl, ⟨by decide +kernel, by decide +kernel, by decide +kernel⟩, rfl, rfl⟩
theorem ok2_X12_meaning : Cond.instanceMethod yX12_meaning ∈ gdT ∧ Cond.selects yX12_meaning.cls yX12_meaning yX12_meaning ∈ gdT := ⟨gm_5 65 rfl rfl, gm_s 38 rfl rfl⟩
theorem ok_X12_name : okB mX12_name 1 := ⟨gm_5 193 rfl rfl, gm_1 12 rfl rfl, ⟨by decide +kernel, by decide +kernel, by decide +kernel⟩, rfl, rfl⟩
theorem ok2_X12_name : Cond.instanceMethod yX12_name ∈ gdT ∧ Cond.selects yX12_name.cls yX12_name yX12_name ∈ gdT := ⟨gm_5 191 rfl rfl, gm_5 192 rfl rfl⟩
theorem ok_X12_needs : okB mX12_needs 1 := ⟨gm_5 58 rfl rfl, gm_1 12 rfl rfl, ⟨by decide +kernel, by decide +kernel, by decide +kernel⟩, rfl, rfl⟩
theorem ok2_X12_needs : Cond.static yX12_needs ∈ gdT := gm_5 57 rfl rfl
theorem ok_X12_nextToken : okB mX12_nextToken 0 := ⟨gm_5 27 rfl rfl, gm_1 12 rfl rfl, ⟨by decide +kernel, by decide +kernel, by decide +kernel⟩, rfl, rfl⟩
theorem ok2_X12_nextToken : Cond.instanceMethod yX12_nextToken ∈ gdT ∧ Cond.selects yX12_nextToken.cls yX12_nextToken yX12_nextToken ∈ gdT := ⟨gm_5 26 rfl rfl, gm_s 35 rfl rfl⟩
theorem ok_X12_of : okB mX12_of 2 := ⟨gm_4 238 rfl rfl, gm_1 12 rfl rfl, ⟨by decide +kernel, by decide +kernel, by decide +kernel⟩, rfl, rfl⟩
theorem ok2_X12_of : Cond.instanceMethod yX12_of ∈ gdT ∧ Cond.selects yX12_of.cls yX12_of yX12_of ∈ gdT := ⟨gm_4 236 rfl rfl, gm_4 237 rfl rfl⟩
theorem ok_X12_offer : okB mX12_offer 5 := ⟨gm_5 117 rfl rfl, gm_1 12 rfl rfl, ⟨by decide +kernel, by decide +kernel, by decide +kernel⟩, rfl, rfl⟩
theorem ok2_X12_offer : Cond.instanceMethod yX12_offer ∈ gdT ∧ Cond.selects yX12_offer.cls yX12_offer yX12_offer ∈ gdT := ⟨gm_5 116 rfl rfl, gm_s 47 rfl rfl⟩
theorem ok_X12_paint : okB mX12_paint 3 := ⟨gm_4 219 rfl rfl, gm_1 12 rfl rfl, ⟨by decide +kernel, by decide +kernel, by decide +kernel⟩, rfl, rfl⟩
theorem ok2_X12_paint : Cond.instanceMethod yX12_paint ∈ gdT ∧ Cond.selects yX12_paint.cls yX12_paint yX12_paint ∈ gdT := ⟨gm_4 217 rfl rfl, gm_4 218 rfl rfl⟩
theorem ok_X12_price : okB mX12_price 2 := ⟨gm_5 6 rfl rfl, gm_1 12 rfl rfl, ⟨by decide +kernel, by decide +kernel, by decide +kernel⟩, rfl, rfl⟩
theorem ok2_X12_price : Cond.instanceMethod yX12_price ∈ gdT ∧ Cond.selects yX12_price.cls yX12_price yX12_price ∈ gdT := ⟨gm_5 4 rfl rfl, gm_5 5 rfl rfl⟩
theorem ok_X12_quick : okB mX12_quick 1 := ⟨gm_5 137 rfl rfl, gm_1 12 rfl rfl, ⟨by decide +kernel, by decide +kernel, by decide +kernel⟩, rfl, rfl⟩
theorem ok2_X12_quick : Cond.instanceMethod yX12_quick ∈ gdT ∧ Cond.selects yX12_quick.cls yX12_quick yX12_quick ∈ gdT := ⟨gm_5 135 rfl rfl, gm_5 136 rfl rfl⟩
theorem ok_X12_recall : okB mX12_recall 1 := ⟨gm_5 102 rfl rfl, gm_1 12 rfl rfl, ⟨by decide +kernel, by decide +kernel, by decide +kernel⟩, rfl, rfl⟩
theorem ok2_X12_recall : Cond.instanceMethod yX12_recall ∈ gdT ∧ Cond.selects yX12_recall.cls yX12_recall yX12_recall ∈ gdT := ⟨gm_5 101 rfl rfl, gm_s 45 rfl rfl⟩
theorem ok_X12_says : okB mX12_says 1 := ⟨gm_5 62 rfl rfl, gm_1 12 rfl rfl, ⟨by decide +kernel, by decide +kernel, by decide +kernel⟩, rfl, rfl⟩
theorem ok2_X12_says : Cond.instanceMethod yX12_says ∈ gdT ∧ Cond.selects yX12_says.cls yX12_says yX12_says ∈ gdT := ⟨gm_5 60 rfl rfl, gm_5 61 rfl rfl⟩
theorem ok_X12_search : okB mX12_search 1 := ⟨gm_5 113 rfl rfl, gm_1 12 rfl rfl, ⟨by decide +kernel, by decide +kernel, by decide +kernel⟩, rfl, rfl⟩
theorem ok2_X12_search : Cond.instanceMethod yX12_search ∈ gdT ∧ Cond.selects yX12_search.cls yX12_search yX12_search ∈ gdT := ⟨gm_5 112 rfl rfl, gm_s 46 rfl rfl⟩
theorem ok_X12_sets : okB mX12_sets 1 := ⟨gm_5 133 rfl rfl, gm_1 12 rfl rfl, ⟨by decide +kernel, by decide +kernel, by decide +kernel⟩, rfl, rfl⟩
theorem ok2_X12_sets : Cond.instanceMethod yX12_sets ∈ gdT ∧ Cond.selects yX12_sets.cls yX12_sets yX12_sets ∈ gdT := ⟨gm_5 131 rfl rfl, gm_5 132 rfl rfl⟩
theorem ok_X12_settle : okB mX12_settle 1 := ⟨gm_5 125 rfl rfl, gm_1 12 rfl rfl, ⟨by decide +kernel, by decide +kernel, by decide +kernel⟩, rfl, rfl⟩
theorem ok2_X12_settle : Cond.instanceMethod yX12_settle ∈ gdT ∧ Cond.selects yX12_settle.cls yX12_settle yX12_settle ∈ gdT := ⟨gm_5 124 rfl rfl, gm_s 49 rfl rfl⟩
theorem ok_X12_talk : okB mX12_talk 1 := ⟨gm_5 201 rfl rfl, gm_1 12 rfl rfl, ⟨by decide +kernel, by decide +kernel, by decide +kernel⟩, rfl, rfl⟩
theorem ok2_X12_talk : Cond.instanceMethod yX12_talk ∈ gdT ∧ Cond.selects yX12_talk.cls yX12_talk yX12_talk ∈ gdT := ⟨gm_5 199 rfl rfl, gm_5 200 rfl rfl⟩
theorem ok_X12_tells : okB mX12_tells 2 := ⟨gm_5 177 rfl rfl, gm_1 12 rfl rfl, ⟨by decide +kernel, by decide +kernel, by decide +kernel⟩, rfl, rfl⟩
theorem ok2_X12_tells : Cond.instanceMethod yX12_tells ∈ gdT ∧ Cond.selects yX12_tells.cls yX12_tells yX12_tells ∈ gdT := ⟨gm_5 175 rfl rfl, gm_5 176 rfl rfl⟩
theorem ok_X12_thing : okB mX12_thing 4 := ⟨gm_4 212 rfl rfl, gm_1 12 rfl rfl, ⟨by decide +kernel, by decide +kernel, by decide +kernel⟩, rfl, rfl⟩
theorem ok2_X12_thing : Cond.instanceMethod yX12_thing ∈ gdT ∧ Cond.selects yX12_thing.cls yX12_thing yX12_thing ∈ gdT := ⟨gm_4 210 rfl rfl, gm_4 211 rfl rfl⟩
theorem ok_X12_think : okB mX12_think 1 := ⟨gm_5 169 rfl rfl, gm_1 12 rfl rfl, ⟨by decide +kernel, by decide +kernel, by decide +kernel⟩, rfl, rfl⟩
theorem ok2_X12_think : Cond.instanceMethod yX12_think ∈ gdT ∧ Cond.selects yX12_think.cls yX12_think yX12_think ∈ gdT := ⟨gm_5 168 rfl rfl, gm_s 55 rfl rfl⟩
theorem ok_X12_tie : okB mX12_tie 2 := ⟨gm_4 227 rfl rfl, gm_1 12 rfl rfl, ⟨by decide +kernel, by decide +kernel, by decide +kernel⟩, rfl, rfl⟩
theorem ok2_X12_tie : Cond.instanceMethod yX12_tie ∈ gdT ∧ Cond.selects yX12_tie.cls yX12_tie yX12_tie ∈ gdT := ⟨gm_4 225 rfl rfl, gm_4 226 rfl rfl⟩
theorem ok_X12_tieMany : okB mX12_tieMany 0 := ⟨gm_4 231 rfl rfl, gm_1 12 rfl rfl, ⟨by decide +kernel, by decide +kernel, by decide +kernel⟩, rfl, rfl⟩
theorem ok2_X12_tieMany : Cond.instanceMethod yX12_tieMany ∈ gdT ∧ Cond.selects yX12_tieMany.cls yX12_tieMany yX12_tieMany ∈ gdT := ⟨gm_4 230 rfl rfl, gm_s 32 rfl rfl⟩
theorem ok_X12_tiesTo : okB mX12_tiesTo 1 := ⟨gm_5 157 rfl rfl, gm_1 12 rfl rfl, ⟨by decide +kernel, by decide +kernel, by decide +kernel⟩, rfl, rfl⟩
theorem ok2_X12_tiesTo : Cond.instanceMethod yX12_tiesTo ∈ gdT ∧ Cond.selects yX12_tiesTo.cls yX12_tiesTo yX12_tiesTo ∈ gdT := ⟨gm_5 156 rfl rfl, gm_s 54 rfl rfl⟩
theorem ok_X12_tryWord : okB mX12_tryWord 3 := ⟨gm_5 189 rfl rfl, gm_1 12 rfl rfl, ⟨by decide +kernel, by decide +kernel, by decide +kernel⟩, rfl, rfl⟩
theorem ok2_X12_tryWord : Cond.instanceMethod yX12_tryWord ∈ gdT ∧ Cond.selects yX12_tryWord.cls yX12_tryWord yX12_tryWord ∈ gdT := ⟨gm_5 188 rfl rfl, gm_s 57 rfl rfl⟩
theorem ok_X12_twin : okB mX12_twin 2 := ⟨gm_5 141 rfl rfl, gm_1 12 rfl rfl, ⟨by decide +kernel, by decide +kernel, by decide +kernel⟩, rfl, rfl⟩
theorem ok2_X12_twin : Cond.instanceMethod yX12_twin ∈ gdT ∧ Cond.selects yX12_twin.cls yX12_twin yX12_twin ∈ gdT := ⟨gm_5 139 rfl rfl, gm_5 140 rfl rfl⟩
theorem ok_X12_wordTold : okB mX12_wordTold 0 := ⟨gm_5 36 rfl rfl, gm_1 12 rfl rfl, ⟨by decide +kernel, by decide +kernel, by decide +kernel⟩, rfl, rfl⟩
theorem ok2_X12_wordTold : Cond.instanceMethod yX12_wordTold ∈ gdT ∧ Cond.selects yX12_wordTold.cls yX12_wordTold yX12_wordTold ∈ gdT := ⟨gm_5 35 rfl rfl, gm_s 36 rfl rfl⟩
theorem ok_X12_worth : okB mX12_worth 2 := ⟨gm_5 205 rfl rfl, gm_1 12 rfl rfl, ⟨by decide +kernel, by decide +kernel, by decide +kernel⟩, rfl, rfl⟩
theorem ok2_X12_worth : Cond.instanceMethod yX12_worth ∈ gdT ∧ Cond.selects yX12_worth.cls yX12_worth yX12_worth ∈ gdT := ⟨gm_5 203 rfl rfl, gm_5 204 rfl rfl⟩
theorem ok_X12_worthOf : okB mX12_worthOf 1 := ⟨gm_5 209 rfl rfl, gm_1 12 rfl rfl, ⟨by decide +kernel, by decide +kernel, by decide +kernel⟩, rfl, rfl⟩
theorem ok2_X12_worthOf : Cond.instanceMethod yX12_worthOf ∈ gdT ∧ Cond.selects yX12_worthOf.cls yX12_worthOf yX12_worthOf ∈ gdT := ⟨gm_5 208 rfl rfl, gm_s 58 rfl rfl⟩
theorem ok_X12_write : okB mX12_write 2 := ⟨gm_5 10 rfl rfl, gm_1 12 rfl rfl, ⟨by decide +kernel, by decide +kernel, by decide +kernel⟩, rfl, rfl⟩
theorem ok2_X12_write : Cond.instanceMethod yX12_write ∈ gdT ∧ Cond.selects yX12_write.cls yX12_write yX12_write ∈ gdT := ⟨gm_5 8 rfl rfl, gm_5 9 rfl rfl⟩
theorem ok_X12_wrong : okB mX12_wrong 1 := ⟨gm_5 185 rfl rfl, gm_1 12 rfl rfl, ⟨by decide +kernel, by decide +kernel, by decide +kernel⟩, rfl, rfl⟩
theorem ok2_X12_wrong : Cond.instanceMethod yX12_wrong ∈ gdT ∧ Cond.selects yX12_wrong.cls yX12_wrong yX12_wrong ∈ gdT := ⟨gm_5 183 rfl rfl, gm_5 184 rfl rfl⟩
theorem ok_X1_add : okB mX1_add 2 := ⟨gm_3 215 rfl rfl, gm_1 8 rfl rfl, ⟨by decide +kernel, by decide +kernel, by decide +kernel⟩, rfl, rfl⟩
theorem ok2_X1_add : Cond.instanceMethod yX1_add ∈ gdT ∧ Cond.selects yX1_add.cls yX1_add yX1_add ∈ gdT := ⟨gm_3 213 rfl rfl, gm_3 214 rfl rfl⟩
theorem ok_X1_deepen : okB mX1_deepen 1 := ⟨gm_3 219 rfl rfl, gm_1 8 rfl rfl, ⟨by decide +kernel, by decide +kernel, by decide +kernel⟩, rfl, rfl⟩
theorem ok2_X1_deepen : Cond.instanceMethod yX1_deepen ∈ gdT ∧ Cond.selects yX1_deepen.cls yX1_deepen yX1_deepen ∈ gdT := ⟨gm_3 217 rfl rfl, gm_3 218 rfl rfl⟩
theorem ok_X1_isBetter : okB mX1_isBetter 2 := ⟨gm_3 228 rfl rfl, gm_1 8 rfl rfl, ⟨by decide +kernel, by decide +kernel, by decide +kernel⟩, rfl, rfl⟩
theorem ok2_X1_isBetter : Cond.instanceMethod yX1_isBetter ∈ gdT ∧ Cond.selects yX1_isBetter.cls yX1_isBetter yX1_isBetter ∈ gdT := ⟨gm_3 227 rfl rfl, gm_s 27 rfl rfl⟩
theorem ok_X1_saidOf : okB mX1_saidOf 1 := ⟨gm_3 224 rfl rfl, gm_1 8 rfl rfl, ⟨by decide +kernel, by decide +kernel, by decide +kernel⟩, rfl, rfl⟩
theorem ok2_X1_saidOf : Cond.instanceMethod yX1_saidOf ∈ gdT ∧ Cond.selects yX1_saidOf.cls yX1_saidOf yX1_saidOf ∈ gdT := ⟨gm_3 222 rfl rfl, gm_3 223 rfl rfl⟩
theorem ok_X1_start : okB mX1_start 0 := ⟨gm_3 211 rfl rfl, gm_1 8 rfl rfl, ⟨by decide +kernel, by decide +kernel, by decide +kernel⟩, rfl, rfl⟩
theorem ok2_X1_start : Cond.instanceMethod yX1_start ∈ gdT ∧ Cond.selects yX1_start.cls yX1_start yX1_start ∈ gdT := ⟨gm_3 209 rfl rfl, gm_3 210 rfl rfl⟩
theorem ok_X2_hear : okB mX2_hear 2 := ⟨gm_4 7 rfl rfl, gm_1 9 rfl rfl, ⟨by decide +kernel, by decide +kernel, by decide +kernel⟩, rfl, rfl⟩
theorem ok2_X2_hear : Cond.instanceMethod yX2_hear ∈ gdT ∧ Cond.selects yX2_hear.cls yX2_hear yX2_hear ∈ gdT := ⟨gm_4 5 rfl rfl, gm_4 6 rfl rfl⟩
theorem ok_X2_hearAs : okB mX2_hearAs 4 := ⟨gm_4 22 rfl rfl, gm_1 9 rfl rfl, ⟨by decide +kernel, by decide +kernel, by decide +kernel⟩, rfl, rfl⟩
theorem ok2_X2_hearAs : Cond.instanceMethod yX2_hearAs ∈ gdT ∧ Cond.selects yX2_hearAs.cls yX2_hearAs yX2_hearAs ∈ gdT := ⟨gm_4 21 rfl rfl, gm_s 28 rfl rfl⟩
theorem ok_X3_cost : okB mX3_cost 3 := ⟨gm_3 154 rfl rfl, gm_1 20 rfl rfl, ⟨by decide +kernel, by decide +kernel, by decide +kernel⟩, rfl, rfl⟩
theorem ok2_X3_cost : Cond.static yX3_cost ∈ gdT := gm_3 153 rfl rfl
theorem ok_X3_property : okB mX3_property 3 := ⟨gm_3 158 rfl rfl, gm_1 20 rfl rfl, ⟨by decide +kernel, by decide +kernel, by decide +kernel⟩, rfl, rfl⟩
theorem ok2_X3_property : Cond.static yX3_property ∈ gdT := gm_3 157 rfl rfl
theorem ok_X4_add : okB mX4_add 1 := ⟨gm_2 209 rfl rfl, gm_1 4 rfl rfl, ⟨by decide +kernel, by decide +kernel, by decide +kernel⟩, rfl, rfl⟩
theorem ok2_X4_add : Cond.instanceMethod yX4_add ∈ gdT ∧ Cond.selects yX4_add.cls yX4_add yX4_add ∈ gdT := ⟨gm_2 207 rfl rfl, gm_2 208 rfl rfl⟩
theorem ok_X4_addNumber : okB mX4_addNumber 1 := ⟨gm_2 154 rfl rfl, gm_1 4 rfl rfl, ⟨by decide +kernel, by decide +kernel, by decide +kernel⟩, rfl, rfl⟩
theorem ok2_X4_addNumber : Cond.instanceMethod yX4_addNumber ∈ gdT ∧ Cond.selects yX4_addNumber.cls yX4_addNumber yX4_addNumber ∈ gdT := ⟨gm_2 152 rfl rfl, gm_2 153 rfl rfl⟩
theorem ok_X4_copy : okB mX4_copy 1 := ⟨gm_3 59 rfl rfl, gm_1 4 rfl rfl, ⟨by decide +kernel, by decide +kernel, by decide +kernel⟩, rfl, rfl⟩
theorem ok2_X4_copy : Cond.instanceMethod yX4_copy ∈ gdT ∧ Cond.selects yX4_copy.cls yX4_copy yX4_copy ∈ gdT := ⟨gm_3 57 rfl rfl, gm_3 58 rfl rfl⟩
theorem ok_X4_cost : okB mX4_cost 1 := ⟨gm_3 50 rfl rfl, gm_1 4 rfl rfl, ⟨by decide +kernel, by decide +kernel, by decide +kernel⟩, rfl, rfl⟩
theorem ok2_X4_cost : Cond.instanceMethod yX4_cost ∈ gdT ∧ Cond.selects yX4_cost.cls yX4_cost yX4_cost ∈ gdT := ⟨gm_3 48 rfl rfl, gm_3 49 rfl rfl⟩
theorem ok_X4_meaning : okB mX4_meaning 1 := ⟨gm_2 233 rfl rfl, gm_1 4 rfl rfl, ⟨by decide +kernel, by decide +kernel, by decide +kernel⟩, rfl, rfl⟩
theorem ok2_X4_meaning : Cond.instanceMethod yX4_meaning ∈ gdT ∧ Cond.selects yX4_meaning.cls yX4_meaning yX4_meaning ∈ gdT := ⟨gm_2 231 rfl rfl, gm_2 232 rfl rfl⟩
theorem ok_X5_add : okB mX5_add 4 := ⟨gm_2 79 rfl rfl, gm_1 2 rfl rfl, ⟨by decide +kernel, by decide +kernel, by decide +kernel⟩, rfl, rfl⟩
theorem ok2_X5_add : Cond.instanceMethod yX5_add ∈ gdT ∧ Cond.selects yX5_add.cls yX5_add yX5_add ∈ gdT := ⟨gm_2 77 rfl rfl, gm_2 78 rfl rfl⟩
theorem ok_X5_addTie : okB mX5_addTie 2 := ⟨gm_2 100 rfl rfl, gm_1 2 rfl rfl, ⟨by decide +kernel, by decide +kernel, by decide +kernel⟩, rfl, rfl⟩
theorem ok2_X5_addTie : Cond.instanceMethod yX5_addTie ∈ gdT ∧ Cond.selects yX5_addTie.cls yX5_addTie yX5_addTie ∈ gdT := ⟨gm_2 98 rfl rfl, gm_2 99 rfl rfl⟩
theorem ok_X5_all : okB mX5_all 0 := ⟨gm_3 5 rfl rfl, gm_1 2 rfl rfl, ⟨by decide +kernel, by decide +kernel, by decide +kernel⟩, rfl, rfl⟩
theorem ok2_X5_all : Cond.instanceMethod yX5_all ∈ gdT ∧ Cond.selects yX5_all.cls yX5_all yX5_all ∈ gdT := ⟨gm_3 3 rfl rfl, gm_3 4 rfl rfl⟩
theorem ok_X5_greatestSize : okB mX5_greatestSize 1 := ⟨gm_3 21 rfl rfl, gm_1 2 rfl rfl, ⟨by decide +kernel, by decide +kernel, by decide +kernel⟩, rfl, rfl⟩
theorem ok2_X5_greatestSize : Cond.instanceMethod yX5_greatestSize ∈ gdT ∧ Cond.selects yX5_greatestSize.cls yX5_greatestSize yX5_greatestSize ∈ gdT := ⟨gm_3 20 rfl rfl, gm_s 8 rfl rfl⟩
theorem ok_X5_has : okB mX5_has 1 := ⟨gm_2 87 rfl rfl, gm_1 2 rfl rfl, ⟨by decide +kernel, by decide +kernel, by decide +kernel⟩, rfl, rfl⟩
theorem ok2_X5_has : Cond.instanceMethod yX5_has ∈ gdT ∧ Cond.selects yX5_has.cls yX5_has yX5_has ∈ gdT := ⟨gm_2 85 rfl rfl, gm_2 86 rfl rfl⟩
theorem ok_X5_isLook : okB mX5_isLook 2 := ⟨gm_2 59 rfl rfl, gm_1 2 rfl rfl, ⟨by decide +kernel, by decide +kernel, by decide +kernel⟩, rfl, rfl⟩
theorem ok2_X5_isLook : Cond.static yX5_isLook ∈ gdT := gm_2 58 rfl rfl
theorem ok_X5_isTaken : okB mX5_isTaken 1 := ⟨gm_2 71 rfl rfl, gm_1 2 rfl rfl, ⟨by decide +kernel, by decide +kernel, by decide +kernel⟩, rfl, rfl⟩
theorem ok2_X5_isTaken : Cond.instanceMethod yX5_isTaken ∈ gdT ∧ Cond.selects yX5_isTaken.cls yX5_isTaken yX5_isTaken ∈ gdT := ⟨gm_2 69 rfl rfl, gm_2 70 rfl rfl⟩
theorem ok_X5_isTied : okB mX5_isTied 2 := ⟨gm_2 95 rfl rfl, gm_1 2 rfl rfl, ⟨by decide +kernel, by decide +kernel, by decide +kernel⟩, rfl, rfl⟩
theorem ok2_X5_isTied : Cond.instanceMethod yX5_isTied ∈ gdT ∧ Cond.selects yX5_isTied.cls yX5_isTied yX5_isTied ∈ gdT := ⟨gm_2 93 rfl rfl, gm_2 94 rfl rfl⟩
theorem ok_X5_leastSize : okB mX5_leastSize 1 := ⟨gm_3 32 rfl rfl, gm_1 2 rfl rfl, ⟨by decide +kernel, by decide +kernel, by decide +kernel⟩, rfl, rfl⟩
theorem ok2_X5_leastSize : Cond.instanceMethod yX5_leastSize ∈ gdT ∧ Cond.selects yX5_leastSize.cls yX5_leastSize yX5_leastSize ∈ gdT := ⟨gm_3 31 rfl rfl, gm_s 10 rfl rfl⟩
theorem ok_X5_leftmost : okB mX5_leftmost 1 := ⟨gm_3 37 rfl rfl, gm_1 2 rfl rfl, ⟨by decide +kernel, by decide +kernel, by decide +kernel⟩, rfl, rfl⟩
theorem ok2_X5_leftmost : Cond.instanceMethod yX5_leftmost ∈ gdT ∧ Cond.selects yX5_leftmost.cls yX5_leftmost yX5_leftmost ∈ gdT := ⟨gm_3 36 rfl rfl, gm_s 11 rfl rfl⟩
theorem ok_X5_named : okB mX5_named 1 := ⟨gm_3 1 rfl rfl, gm_1 2 rfl rfl, ⟨by decide +kernel, by decide +kernel, by decide +kernel⟩, rfl, rfl⟩
theorem ok2_X5_named : Cond.instanceMethod yX5_named ∈ gdT ∧ Cond.selects yX5_named.cls yX5_named yX5_named ∈ gdT := ⟨gm_2 239 rfl rfl, gm_3 0 rfl rfl⟩
theorem ok_X5_ofSize : okB mX5_ofSize 2 := ⟨gm_3 28 rfl rfl, gm_1 2 rfl rfl, ⟨by decide +kernel, by decide +kernel, by decide +kernel⟩, rfl, rfl⟩
theorem ok2_X5_ofSize : Cond.instanceMethod yX5_ofSize ∈ gdT ∧ Cond.selects yX5_ofSize.cls yX5_ofSize yX5_ofSize ∈ gdT := ⟨gm_3 27 rfl rfl, gm_s 9 rfl rfl⟩
theorem ok_X5_thoseLinked : okB mX5_thoseLinked 2 := ⟨gm_3 17 rfl rfl, gm_1 2 rfl rfl, ⟨by decide +kernel, by decide +kernel, by decide +kernel⟩, rfl, rfl⟩
theorem ok2_X5_thoseLinked : Cond.instanceMethod yX5_thoseLinked ∈ gdT ∧ Cond.selects yX5_thoseLinked.cls yX5_thoseLinked yX5_thoseLinked ∈ gdT := ⟨gm_3 16 rfl rfl, gm_s 7 rfl rfl⟩
theorem ok_X5_thoseMarked : okB mX5_thoseMarked 1 := ⟨gm_3 9 rfl rfl, gm_1 2 rfl rfl, ⟨by decide +kernel, by decide +kernel, by decide +kernel⟩, rfl, rfl⟩
theorem ok2_X5_thoseMarked : Cond.instanceMethod yX5_thoseMarked ∈ gdT ∧ Cond.selects yX5_thoseMarked.cls yX5_thoseMarked yX5_thoseMarked ∈ gdT := ⟨gm_3 8 rfl rfl, gm_s 6 rfl rfl⟩
theorem ok_X5_thoseWith : okB mX5_thoseWith 2 := ⟨gm_2 75 rfl rfl, gm_1 2 rfl rfl, ⟨by decide +kernel, by decide +kernel, by decide +kernel⟩, rfl, rfl⟩
theorem ok2_X5_thoseWith : Cond.instanceMethod yX5_thoseWith ∈ gdT ∧ Cond.selects yX5_thoseWith.cls yX5_thoseWith yX5_thoseWith ∈ gdT := ⟨gm_2 74 rfl rfl, gm_s 0 rfl rfl⟩
theorem ok_X5_turned : okB mX5_turned 2 := ⟨gm_3 13 rfl rfl, gm_1 2 rfl rfl, ⟨by decide +kernel, by decide +kernel, by decide +kernel⟩, rfl, rfl⟩
theorem ok2_X5_turned : Cond.instanceMethod yX5_turned ∈ gdT ∧ Cond.selects yX5_turned.cls yX5_turned yX5_turned ∈ gdT := ⟨gm_3 11 rfl rfl, gm_3 12 rfl rfl⟩
theorem ok_X6_add : okB mX6_add 1 := ⟨gm_4 34 rfl rfl, gm_1 10 rfl rfl, ⟨by decide +kernel, by decide +kernel, by decide +kernel⟩, rfl, rfl⟩
theorem ok2_X6_add : Cond.instanceMethod yX6_add ∈ gdT ∧ Cond.selects yX6_add.cls yX6_add yX6_add ∈ gdT := ⟨gm_4 32 rfl rfl, gm_4 33 rfl rfl⟩
theorem ok_X6_cost : okB mX6_cost 1 := ⟨gm_4 46 rfl rfl, gm_1 10 rfl rfl, ⟨by decide +kernel, by decide +kernel, by decide +kernel⟩, rfl, rfl⟩
theorem ok2_X6_cost : Cond.instanceMethod yX6_cost ∈ gdT ∧ Cond.selects yX6_cost.cls yX6_cost yX6_cost ∈ gdT := ⟨gm_4 44 rfl rfl, gm_4 45 rfl rfl⟩
theorem ok_X6_pointingAt : okB mX6_pointingAt 1 := ⟨gm_4 50 rfl rfl, gm_1 10 rfl rfl, ⟨by decide +kernel, by decide +kernel, by decide +kernel⟩, rfl, rfl⟩
theorem ok2_X6_pointingAt : Cond.instanceMethod yX6_pointingAt ∈ gdT ∧ Cond.selects yX6_pointingAt.cls yX6_pointingAt yX6_pointingAt ∈ gdT := ⟨gm_4 49 rfl rfl, gm_s 29 rfl rfl⟩
theorem ok_X7_append : okB mX7_append 2 := ⟨gm_2 120 rfl rfl, gm_1 3 rfl rfl, ⟨by decide +kernel, by decide +kernel, by decide +kernel⟩, rfl, rfl⟩
theorem ok2_X7_append : Cond.instanceMethod yX7_append ∈ gdT ∧ Cond.selects yX7_append.cls yX7_append yX7_append ∈ gdT := ⟨gm_2 118 rfl rfl, gm_2 119 rfl rfl⟩
theorem ok_X7_clear : okB mX7_clear 0 := ⟨gm_2 129 rfl rfl, gm_1 3 rfl rfl, ⟨by decide +kernel, by decide +kernel, by decide +kernel⟩, rfl, rfl⟩
theorem ok2_X7_clear : Cond.instanceMethod yX7_clear ∈ gdT ∧ Cond.selects yX7_clear.cls yX7_clear yX7_clear ∈ gdT := ⟨gm_2 127 rfl rfl, gm_2 128 rfl rfl⟩
theorem ok_X7_endOfToken : okB mX7_endOfToken 1 := ⟨gm_2 141 rfl rfl, gm_1 3 rfl rfl, ⟨by decide +kernel, by decide +kernel, by decide +kernel⟩, rfl, rfl⟩
theorem ok2_X7_endOfToken : Cond.instanceMethod yX7_endOfToken ∈ gdT ∧ Cond.selects yX7_endOfToken.cls yX7_endOfToken yX7_endOfToken ∈ gdT := ⟨gm_2 140 rfl rfl, gm_s 1 rfl rfl⟩
theorem ok_X7_hasRoomFor : okB mX7_hasRoomFor 1 := ⟨gm_2 116 rfl rfl, gm_1 3 rfl rfl, ⟨by decide +kernel, by decide +kernel, by decide +kernel⟩, rfl, rfl⟩
theorem ok2_X7_hasRoomFor : Cond.instanceMethod yX7_hasRoomFor ∈ gdT ∧ Cond.selects yX7_hasRoomFor.cls yX7_hasRoomFor yX7_hasRoomFor ∈ gdT := ⟨gm_2 114 rfl rfl, gm_2 115 rfl rfl⟩
theorem ok_X7_read : okB mX7_read 0 := ⟨gm_2 137 rfl rfl, gm_1 3 rfl rfl, ⟨by decide +kernel, by decide +kernel, by decide +kernel⟩, rfl, rfl⟩
theorem ok2_X7_read : Cond.instanceMethod yX7_read ∈ gdT ∧ Cond.selects yX7_read.cls yX7_read yX7_read ∈ gdT := ⟨gm_2 135 rfl rfl, gm_2 136 rfl rfl⟩
theorem ok_X7_readNumber : okB mX7_readNumber 2 := ⟨gm_2 150 rfl rfl, gm_1 3 rfl rfl, ⟨by decide +kernel, by decide +kernel, by decide +kernel⟩, rfl, rfl⟩
theorem ok2_X7_readNumber : Cond.instanceMethod yX7_readNumber ∈ gdT ∧ Cond.selects yX7_readNumber.cls yX7_readNumber yX7_readNumber ∈ gdT := ⟨gm_2 149 rfl rfl, gm_s 3 rfl rfl⟩
theorem ok_X7_readWord : okB mX7_readWord 2 := ⟨gm_2 158 rfl rfl, gm_1 3 rfl rfl, ⟨by decide +kernel, by decide +kernel, by decide +kernel⟩, rfl, rfl⟩
theorem ok2_X7_readWord : Cond.instanceMethod yX7_readWord ∈ gdT ∧ Cond.selects yX7_readWord.cls yX7_readWord yX7_readWord ∈ gdT := ⟨gm_2 157 rfl rfl, gm_s 4 rfl rfl⟩
theorem ok_X7_sortAt : okB mX7_sortAt 1 := ⟨gm_2 145 rfl rfl, gm_1 3 rfl rfl, ⟨by decide +kernel, by decide +kernel, by decide +kernel⟩, rfl, rfl⟩
theorem ok2_X7_sortAt : Cond.instanceMethod yX7_sortAt ∈ gdT ∧ Cond.selects yX7_sortAt.cls yX7_sortAt yX7_sortAt ∈ gdT := ⟨gm_2 144 rfl rfl, gm_s 2 rfl rfl⟩
theorem ok_X8_find : okB mX8_find 1 := ⟨gm_3 167 rfl rfl, gm_1 7 rfl rfl, ⟨by decide +kernel, by decide +kernel, by decide +kernel⟩, rfl, rfl⟩
theorem ok2_X8_find : Cond.instanceMethod yX8_find ∈ gdT ∧ Cond.selects yX8_find.cls yX8_find yX8_find ∈ gdT := ⟨gm_3 165 rfl rfl, gm_3 166 rfl rfl⟩
theorem ok_X8_hasAsMany : okB mX8_hasAsMany 3 := ⟨gm_3 181 rfl rfl, gm_1 7 rfl rfl, ⟨by decide +kernel, by decide +kernel, by decide +kernel⟩, rfl, rfl⟩
theorem ok2_X8_hasAsMany : Cond.instanceMethod yX8_hasAsMany ∈ gdT ∧ Cond.selects yX8_hasAsMany.cls yX8_hasAsMany yX8_hasAsMany ∈ gdT := ⟨gm_3 180 rfl rfl, gm_s 24 rfl rfl⟩
theorem ok_X8_looksLike : okB mX8_looksLike 2 := ⟨gm_3 170 rfl rfl, gm_1 7 rfl rfl, ⟨by decide +kernel, by decide +kernel, by decide +kernel⟩, rfl, rfl⟩
theorem ok2_X8_looksLike : Cond.static yX8_looksLike ∈ gdT := gm_3 169 rfl rfl
theorem ok_X8_part : okB mX8_part 2 := ⟨gm_3 174 rfl rfl, gm_1 7 rfl rfl, ⟨by decide +kernel, by decide +kernel, by decide +kernel⟩, rfl, rfl⟩
theorem ok2_X8_part : Cond.instanceMethod yX8_part ∈ gdT ∧ Cond.selects yX8_part.cls yX8_part yX8_part ∈ gdT := ⟨gm_3 173 rfl rfl, gm_s 23 rfl rfl⟩
theorem ok_X8_sorts : okB mX8_sorts 1 := ⟨gm_3 190 rfl rfl, gm_1 7 rfl rfl, ⟨by decide +kernel, by decide +kernel, by decide +kernel⟩, rfl, rfl⟩
theorem ok2_X8_sorts : Cond.instanceMethod yX8_sorts ∈ gdT ∧ Cond.selects yX8_sorts.cls yX8_sorts yX8_sorts ∈ gdT := ⟨gm_3 188 rfl rfl, gm_3 189 rfl rfl⟩
theorem ok_X9_codeAt : okB mX9_codeAt 2 := ⟨gm_3 143 rfl rfl, gm_1 5 rfl rfl, ⟨by decide +kernel, by decide +kernel, by decide +kernel⟩, rfl, rfl⟩
theorem ok2_X9_codeAt : Cond.instanceMethod yX9_codeAt ∈ gdT ∧ Cond.selects yX9_codeAt.cls yX9_codeAt yX9_codeAt ∈ gdT := ⟨gm_3 141 rfl rfl, gm_3 142 rfl rfl⟩
theorem ok_X9_fill : okB mX9_fill 4 := ⟨gm_3 81 rfl rfl, gm_1 5 rfl rfl, ⟨by decide +kernel, by decide +kernel, by decide +kernel⟩, rfl, rfl⟩
theorem ok2_X9_fill : Cond.instanceMethod yX9_fill ∈ gdT ∧ Cond.selects yX9_fill.cls yX9_fill yX9_fill ∈ gdT := ⟨gm_3 79 rfl rfl, gm_3 80 rfl rfl⟩
theorem ok_X9_isAhead : okB mX9_isAhead 2 := ⟨gm_3 105 rfl rfl, gm_1 5 rfl rfl, ⟨by decide +kernel, by decide +kernel, by decide +kernel⟩, rfl, rfl⟩
theorem ok2_X9_isAhead : Cond.instanceMethod yX9_isAhead ∈ gdT ∧ Cond.selects yX9_isAhead.cls yX9_isAhead yX9_isAhead ∈ gdT := ⟨gm_3 104 rfl rfl, gm_s 16 rfl rfl⟩
theorem ok_X9_isReached : okB mX9_isReached 1 := ⟨gm_3 139 rfl rfl, gm_1 5 rfl rfl, ⟨by decide +kernel, by decide +kernel, by decide +kernel⟩, rfl, rfl⟩
theorem ok2_X9_isReached : Cond.instanceMethod yX9_isReached ∈ gdT ∧ Cond.selects yX9_isReached.cls yX9_isReached yX9_isReached ∈ gdT := ⟨gm_3 137 rfl rfl, gm_3 138 rfl rfl⟩
theorem ok_X9_joinAll : okB mX9_joinAll 2 := ⟨gm_3 126 rfl rfl, gm_1 5 rfl rfl, ⟨by decide +kernel, by decide +kernel, by decide +kernel⟩, rfl, rfl⟩
theorem ok2_X9_joinAll : Cond.instanceMethod yX9_joinAll ∈ gdT ∧ Cond.selects yX9_joinAll.cls yX9_joinAll yX9_joinAll ∈ gdT := ⟨gm_3 125 rfl rfl, gm_s 20 rfl rfl⟩
theorem ok_X9_joinTwo : okB mX9_joinTwo 3 := ⟨gm_3 130 rfl rfl, gm_1 5 rfl rfl, ⟨by decide +kernel, by decide +kernel, by decide +kernel⟩, rfl, rfl⟩
theorem ok2_X9_joinTwo : Cond.instanceMethod yX9_joinTwo ∈ gdT ∧ Cond.selects yX9_joinTwo.cls yX9_joinTwo yX9_joinTwo ∈ gdT := ⟨gm_3 129 rfl rfl, gm_s 21 rfl rfl⟩
theorem ok_X9_nearest : okB mX9_nearest 1 := ⟨gm_3 111 rfl rfl, gm_1 5 rfl rfl, ⟨by decide +kernel, by decide +kernel, by decide +kernel⟩, rfl, rfl⟩
theorem ok2_X9_nearest : Cond.instanceMethod yX9_nearest ∈ gdT ∧ Cond.selects yX9_nearest.cls yX9_nearest yX9_nearest ∈ gdT := ⟨gm_3 110 rfl rfl, gm_s 17 rfl rfl⟩
theorem ok_X9_offer : okB mX9_offer 3 := ⟨gm_3 101 rfl rfl, gm_1 5 rfl rfl, ⟨by decide +kernel, by decide +kernel, by decide +kernel⟩, rfl, rfl⟩
theorem ok2_X9_offer : Cond.instanceMethod yX9_offer ∈ gdT ∧ Cond.selects yX9_offer.cls yX9_offer yX9_offer ∈ gdT := ⟨gm_3 100 rfl rfl, gm_s 15 rfl rfl⟩
theorem ok_X9_offerJoin : okB mX9_offerJoin 4 := ⟨gm_3 134 rfl rfl, gm_1 5 rfl rfl, ⟨by decide +kernel, by decide +kernel, by decide +kernel⟩, rfl, rfl⟩
theorem ok2_X9_offerJoin : Cond.instanceMethod yX9_offerJoin ∈ gdT ∧ Cond.selects yX9_offerJoin.cls yX9_offerJoin yX9_offerJoin ∈ gdT := ⟨gm_3 133 rfl rfl, gm_s 22 rfl rfl⟩
theorem ok_X9_offerNamed : okB mX9_offerNamed 3 := ⟨gm_3 94 rfl rfl, gm_1 5 rfl rfl, ⟨by decide +kernel, by decide +kernel, by decide +kernel⟩, rfl, rfl⟩
theorem ok2_X9_offerNamed : Cond.instanceMethod yX9_offerNamed ∈ gdT ∧ Cond.selects yX9_offerNamed.cls yX9_offerNamed yX9_offerNamed ∈ gdT := ⟨gm_3 93 rfl rfl, gm_s 14 rfl rfl⟩
theorem ok_X9_reach : okB mX9_reach 1 := ⟨gm_3 116 rfl rfl, gm_1 5 rfl rfl, ⟨by decide +kernel, by decide +kernel, by decide +kernel⟩, rfl, rfl⟩
theorem ok2_X9_reach : Cond.instanceMethod yX9_reach ∈ gdT ∧ Cond.selects yX9_reach.cls yX9_reach yX9_reach ∈ gdT := ⟨gm_3 115 rfl rfl, gm_s 18 rfl rfl⟩
theorem ok_X9_start : okB mX9_start 2 := ⟨gm_3 85 rfl rfl, gm_1 5 rfl rfl, ⟨by decide +kernel, by decide +kernel, by decide +kernel⟩, rfl, rfl⟩
theorem ok2_X9_start : Cond.instanceMethod yX9_start ∈ gdT ∧ Cond.selects yX9_start.cls yX9_start yX9_start ∈ gdT := ⟨gm_3 84 rfl rfl, gm_s 13 rfl rfl⟩
theorem ok_X9_turn : okB mX9_turn 3 := ⟨gm_3 121 rfl rfl, gm_1 5 rfl rfl, ⟨by decide +kernel, by decide +kernel, by decide +kernel⟩, rfl, rfl⟩
theorem ok2_X9_turn : Cond.instanceMethod yX9_turn ∈ gdT ∧ Cond.selects yX9_turn.cls yX9_turn yX9_turn ∈ gdT := ⟨gm_3 120 rfl rfl, gm_s 19 rfl rfl⟩
theorem ok_X9_worthOf : okB mX9_worthOf 1 := ⟨gm_4 60 rfl rfl, gm_1 5 rfl rfl, ⟨by decide +kernel, by decide +kernel, by decide +kernel⟩, rfl, rfl⟩
theorem ok2_X9_worthOf : Cond.instanceMethod yX9_worthOf ∈ gdT ∧ Cond.selects yX9_worthOf.cls yX9_worthOf yX9_worthOf ∈ gdT := ⟨gm_4 58 rfl rfl, gm_4 59 rfl rfl⟩
theorem ok_mmax : Cond.static Lib.Math.max.name ∈ gdT ∧ Cond.initialized "java/lang/Math" ∈ gdT ∧ Cond.code Lib.Math.max.name Lib.Math.max.code 2 (some .int) ∈ gdT := ⟨gm_3 23 rfl rfl, gm_1 18 rfl rfl, gm_3 24 rfl rfl⟩
theorem ok_mmin : Cond.static Lib.Math.min.name ∈ gdT ∧ Cond.initialized "java/lang/Math" ∈ gdT ∧ Cond.code Lib.Math.min.name Lib.Math.min.code 2 (some .int) ∈ gdT := ⟨gm_2 235 rfl rfl, gm_1 18 rfl rfl, gm_2 236 rfl rfl⟩
theorem lk_RX8_m45 : Cond.methodLink RX8 45 arraycopyName ∈ gdT := gm_3 175 rfl rfl
theorem lk_RX0_m38 : Cond.methodLink RX0 38 yX10_isKnown ∈ gdT := gm_4 66 rfl rfl
theorem lk_RX0_m42 : Cond.methodLink RX0 42 yX0_tryMark ∈ gdT := gm_4 67 rfl rfl
theorem lk_RX0_m50 : Cond.methodLink RX0 50 yX5_has ∈ gdT := gm_4 71 rfl rfl
theorem lk_RX0_m54 : Cond.methodLink RX0 54 yX9_fill ∈ gdT := gm_4 72 rfl rfl
theorem lk_RX0_m58 : Cond.methodLink RX0 58 yX9_worthOf ∈ gdT := gm_4 73 rfl rfl
theorem lk_RX1_m25 : Cond.methodLink RX1 25 yX1_isBetter ∈ gdT := gm_3 225 rfl rfl
theorem lk_RX1_m29 : Cond.methodLink RX1 29 yJ6_bitCount_0f7a4 ∈ gdT := gm_3 229 rfl rfl
theorem lk_RX1_m35 : Cond.methodLink RX1 35 yJ7_fill_53178 ∈ gdT := gm_3 220 rfl rfl
theorem lk_RX1_m41 : Cond.methodLink RX1 41 yX1_saidOf ∈ gdT := gm_3 221 rfl rfl
theorem lk_RX2_m15 : Cond.methodLink RX2 15 yJ7_fill_53178 ∈ gdT := gm_4 8 rfl rfl
theorem lk_RX2_m33 : Cond.methodLink RX2 33 yX10_firstLike ∈ gdT := gm_4 9 rfl rfl
theorem lk_RX2_m39 : Cond.methodLink RX2 39 yX10_lastLike ∈ gdT := gm_4 14 rfl rfl
theorem lk_RX2_m42 : Cond.methodLink RX2 42 yX2_hearAs ∈ gdT := gm_4 19 rfl rfl
theorem lk_RX2_m53 : Cond.methodLink RX2 53 yX10_numbers ∈ gdT := gm_4 24 rfl rfl
theorem lk_RX2_m62 : Cond.methodLink RX2 62 yX4_meaning ∈ gdT := gm_4 26 rfl rfl
theorem lk_RX3_m15 : Cond.methodLink RX3 15 yX3_property ∈ gdT := gm_3 156 rfl rfl
theorem lk_RX3_m21 : Cond.methodLink RX3 21 yX5_named ∈ gdT := gm_3 159 rfl rfl
theorem lk_RX3_m9 : Cond.methodLink RX3 9 yX5_all ∈ gdT := gm_3 155 rfl rfl
theorem lk_RX4_m20 : Cond.methodLink RX4 20 yX4_add ∈ gdT := gm_3 60 rfl rfl
theorem lk_RX4_m30 : Cond.methodLink RX4 30 yX10_parts ∈ gdT := gm_2 237 rfl rfl
theorem lk_RX4_m36 : Cond.methodLink RX4 36 yX5_named ∈ gdT := gm_2 238 rfl rfl
theorem lk_RX4_m41 : Cond.methodLink RX4 41 yX5_turned ∈ gdT := gm_3 10 rfl rfl
theorem lk_RX4_m44 : Cond.methodLink RX4 44 yX10_join ∈ gdT := gm_3 44 rfl rfl
theorem lk_RX5_m31 : Cond.methodLink RX5 31 yX5_thoseWith ∈ gdT := gm_2 72 rfl rfl
theorem lk_RX5_m35 : Cond.methodLink RX5 35 yX5_has ∈ gdT := gm_2 96 rfl rfl
theorem lk_RX5_m42 : Cond.methodLink RX5 42 yX5_all ∈ gdT := gm_3 2 rfl rfl
theorem lk_RX5_m46 : Cond.methodLink RX5 46 yX5_thoseMarked ∈ gdT := gm_3 6 rfl rfl
theorem lk_RX5_m50 : Cond.methodLink RX5 50 yX5_thoseLinked ∈ gdT := gm_3 14 rfl rfl
theorem lk_RX5_m53 : Cond.methodLink RX5 53 yX5_greatestSize ∈ gdT := gm_3 18 rfl rfl
theorem lk_RX5_m56 : Cond.methodLink RX5 56 yX5_ofSize ∈ gdT := gm_3 25 rfl rfl
theorem lk_RX5_m59 : Cond.methodLink RX5 59 yX5_leastSize ∈ gdT := gm_3 29 rfl rfl
theorem lk_RX5_m62 : Cond.methodLink RX5 62 yX5_leftmost ∈ gdT := gm_3 34 rfl rfl
theorem lk_RX5_m65 : Cond.methodLink RX5 65 yJ6_bitCount_0f7a4 ∈ gdT := gm_3 38 rfl rfl
theorem lk_RX6_m19 : Cond.methodLink RX6 19 yX6_pointingAt ∈ gdT := gm_4 47 rfl rfl
theorem lk_RX6_m23 : Cond.methodLink RX6 23 yX9_isReached ∈ gdT := gm_4 51 rfl rfl
theorem lk_RX7_m35 : Cond.methodLink RX7 35 yX7_endOfToken ∈ gdT := gm_2 138 rfl rfl
theorem lk_RX7_m39 : Cond.methodLink RX7 39 yX7_readNumber ∈ gdT := gm_2 147 rfl rfl
theorem lk_RX7_m43 : Cond.methodLink RX7 43 yX7_readWord ∈ gdT := gm_2 155 rfl rfl
theorem lk_RX7_m46 : Cond.methodLink RX7 46 yX7_sortAt ∈ gdT := gm_2 142 rfl rfl
theorem lk_RX7_m52 : Cond.methodLink RX7 52 yX4_addNumber ∈ gdT := gm_2 151 rfl rfl
theorem lk_RX7_m56 : Cond.methodLink RX7 56 yX10_spelt ∈ gdT := gm_2 159 rfl rfl
theorem lk_RX7_m62 : Cond.methodLink RX7 62 yX4_add ∈ gdT := gm_2 206 rfl rfl
theorem lk_RX7_m66 : Cond.methodLink RX7 66 yX10_parts ∈ gdT := gm_2 210 rfl rfl
theorem lk_RX7_m69 : Cond.methodLink RX7 69 yX10_numbers ∈ gdT := gm_2 216 rfl rfl
theorem lk_RX8_m27 : Cond.methodLink RX8 27 yX8_looksLike ∈ gdT := gm_3 168 rfl rfl
theorem lk_RX8_m31 : Cond.methodLink RX8 31 yX8_part ∈ gdT := gm_3 171 rfl rfl
theorem lk_RX8_m35 : Cond.methodLink RX8 35 yJ6_numberOfTrailingZeros_0f7a4 ∈ gdT := gm_3 191 rfl rfl
theorem lk_RX8_m51 : Cond.methodLink RX8 51 yX8_hasAsMany ∈ gdT := gm_3 178 rfl rfl
theorem lk_RX8_m55 : Cond.methodLink RX8 55 yJ6_bitCount_0f7a4 ∈ gdT := gm_3 182 rfl rfl
theorem lk_RX9_m104 : Cond.methodLink RX9 104 yX10_numbers ∈ gdT := gm_3 95 rfl rfl
theorem lk_RX9_m110 : Cond.methodLink RX9 110 yX5_named ∈ gdT := gm_3 97 rfl rfl
theorem lk_RX9_m113 : Cond.methodLink RX9 113 yX9_offer ∈ gdT := gm_3 98 rfl rfl
theorem lk_RX9_m120 : Cond.methodLink RX9 120 yJ6_bitCount_0f7a4 ∈ gdT := gm_3 112 rfl rfl
theorem lk_RX9_m125 : Cond.methodLink RX9 125 yX9_isAhead ∈ gdT := gm_3 102 rfl rfl
theorem lk_RX9_m128 : Cond.methodLink RX9 128 yX5_turned ∈ gdT := gm_3 122 rfl rfl
theorem lk_RX9_m131 : Cond.methodLink RX9 131 yX9_joinTwo ∈ gdT := gm_3 127 rfl rfl
theorem lk_RX9_m135 : Cond.methodLink RX9 135 yX9_offerJoin ∈ gdT := gm_3 131 rfl rfl
theorem lk_RX9_m139 : Cond.methodLink RX9 139 yX10_join ∈ gdT := gm_3 135 rfl rfl
theorem lk_RX9_m38 : Cond.methodLink RX9 38 yX9_isReached ∈ gdT := gm_4 61 rfl rfl
theorem lk_RX9_m49 : Cond.methodLink RX9 49 yX9_start ∈ gdT := gm_3 82 rfl rfl
theorem lk_RX9_m53 : Cond.methodLink RX9 53 yX5_all ∈ gdT := gm_3 107 rfl rfl
theorem lk_RX9_m59 : Cond.methodLink RX9 59 yX9_nearest ∈ gdT := gm_3 108 rfl rfl
theorem lk_RX9_m63 : Cond.methodLink RX9 63 yX9_reach ∈ gdT := gm_3 113 rfl rfl
theorem lk_RX9_m67 : Cond.methodLink RX9 67 yX9_turn ∈ gdT := gm_3 118 rfl rfl
theorem lk_RX9_m71 : Cond.methodLink RX9 71 yX9_joinAll ∈ gdT := gm_3 123 rfl rfl
theorem lk_RX9_m78 : Cond.methodLink RX9 78 yJ7_fill_53178 ∈ gdT := gm_3 86 rfl rfl
theorem lk_RX9_m88 : Cond.methodLink RX9 88 yX10_isKnown ∈ gdT := gm_3 87 rfl rfl
theorem lk_RX9_m91 : Cond.methodLink RX9 91 yX10_parts ∈ gdT := gm_3 90 rfl rfl
theorem lk_RX9_m94 : Cond.methodLink RX9 94 yX9_offerNamed ∈ gdT := gm_3 91 rfl rfl
theorem lk_RX10_m29 : Cond.methodLink RX10 29 yX10_isSpelt ∈ gdT := gm_2 162 rfl rfl
theorem lk_RX10_m35 : Cond.methodLink RX10 35 yJ0_charAt_5068e ∈ gdT := gm_2 166 rfl rfl
theorem lk_RX11_m102 : Cond.methodLink RX11 102 yX5_add ∈ gdT := gm_2 76 rfl rfl
theorem lk_RX11_m106 : Cond.methodLink RX11 106 yX5_has ∈ gdT := gm_2 84 rfl rfl
theorem lk_RX11_m113 : Cond.methodLink RX11 113 yX5_isTied ∈ gdT := gm_2 92 rfl rfl
theorem lk_RX11_m116 : Cond.methodLink RX11 116 yX5_addTie ∈ gdT := gm_2 97 rfl rfl
theorem lk_RX11_m120 : Cond.methodLink RX11 120 yX7_hasRoomFor ∈ gdT := gm_2 113 rfl rfl
theorem lk_RX11_m123 : Cond.methodLink RX11 123 yX7_append ∈ gdT := gm_2 117 rfl rfl
theorem lk_RX11_m127 : Cond.methodLink RX11 127 yX7_clear ∈ gdT := gm_2 126 rfl rfl
theorem lk_RX11_m131 : Cond.methodLink RX11 131 yX7_read ∈ gdT := gm_2 134 rfl rfl
theorem lk_RX11_m138 : Cond.methodLink RX11 138 yX11_told ∈ gdT := gm_2 226 rfl rfl
theorem lk_RX11_m145 : Cond.methodLink RX11 145 yX4_copy ∈ gdT := gm_3 56 rfl rfl
theorem lk_RX11_m149 : Cond.methodLink RX11 149 yX4_meaning ∈ gdT := gm_2 230 rfl rfl
theorem lk_RX11_m153 : Cond.methodLink RX11 153 yX4_cost ∈ gdT := gm_3 47 rfl rfl
theorem lk_RX11_m160 : Cond.methodLink RX11 160 yX5_all ∈ gdT := gm_3 69 rfl rfl
theorem lk_RX11_m163 : Cond.methodLink RX11 163 yX10_areWords ∈ gdT := gm_3 70 rfl rfl
theorem lk_RX11_m166 : Cond.methodLink RX11 166 yX11_waysWith ∈ gdT := gm_3 74 rfl rfl
theorem lk_RX11_m170 : Cond.methodLink RX11 170 yX9_isReached ∈ gdT := gm_3 136 rfl rfl
theorem lk_RX11_m179 : Cond.methodLink RX11 179 yX9_codeAt ∈ gdT := gm_3 140 rfl rfl
theorem lk_RX11_m185 : Cond.methodLink RX11 185 yX3_cost ∈ gdT := gm_3 152 rfl rfl
theorem lk_RX11_m190 : Cond.methodLink RX11 190 yX8_find ∈ gdT := gm_3 164 rfl rfl
theorem lk_RX11_m197 : Cond.methodLink RX11 197 yJ6_numberOfTrailingZeros_0f7a4 ∈ gdT := gm_3 183 rfl rfl
theorem lk_RX11_m206 : Cond.methodLink RX11 206 yX8_sorts ∈ gdT := gm_3 187 rfl rfl
theorem lk_RX11_m215 : Cond.methodLink RX11 215 yX9_fill ∈ gdT := gm_3 78 rfl rfl
theorem lk_RX11_m218 : Cond.methodLink RX11 218 yX11_firstBreak ∈ gdT := gm_3 196 rfl rfl
theorem lk_RX11_m222 : Cond.methodLink RX11 222 yX11_think ∈ gdT := gm_3 204 rfl rfl
theorem lk_RX11_m229 : Cond.methodLink RX11 229 yX1_saidOf ∈ gdT := gm_3 235 rfl rfl
theorem lk_RX11_m232 : Cond.methodLink RX11 232 yX1_deepen ∈ gdT := gm_3 216 rfl rfl
theorem lk_RX11_m235 : Cond.methodLink RX11 235 yX1_start ∈ gdT := gm_3 208 rfl rfl
theorem lk_RX11_m238 : Cond.methodLink RX11 238 yX1_add ∈ gdT := gm_3 212 rfl rfl
theorem lk_RX11_m241 : Cond.methodLink RX11 241 yX2_hear ∈ gdT := gm_4 4 rfl rfl
theorem lk_RX11_m255 : Cond.methodLink RX11 255 yX6_add ∈ gdT := gm_4 31 rfl rfl
theorem lk_RX11_m257 : Cond.methodLink RX11 257 yX6_cost ∈ gdT := gm_4 43 rfl rfl
theorem lk_RX11_m260 : Cond.methodLink RX11 260 yX9_worthOf ∈ gdT := gm_4 57 rfl rfl
theorem lk_RX11_m265 : Cond.methodLink RX11 265 yX0_find ∈ gdT := gm_4 62 rfl rfl
theorem lk_RX11_m84 : Cond.methodLink RX11 84 yX5_isLook ∈ gdT := gm_2 57 rfl rfl
theorem lk_RX11_m88 : Cond.methodLink RX11 88 yX11_isWithin ∈ gdT := gm_2 67 rfl rfl
theorem lk_RX11_m91 : Cond.methodLink RX11 91 yX5_isTaken ∈ gdT := gm_2 68 rfl rfl
theorem lk_RL_m100 : Cond.methodLink RL 100 yX12_wrong ∈ gdT := gm_5 182 rfl rfl
theorem lk_RL_m101 : Cond.methodLink RL 101 yX11_name ∈ gdT := gm_4 27 rfl rfl
theorem lk_RL_m104 : Cond.methodLink RL 104 yX12_name ∈ gdT := gm_5 190 rfl rfl
theorem lk_RL_m105 : Cond.methodLink RL 105 yX11_hush ∈ gdT := gm_4 35 rfl rfl
theorem lk_RL_m108 : Cond.methodLink RL 108 yX12_hush ∈ gdT := gm_5 194 rfl rfl
theorem lk_RL_m109 : Cond.methodLink RL 109 yX11_talk ∈ gdT := gm_4 39 rfl rfl
theorem lk_RL_m112 : Cond.methodLink RL 112 yX12_talk ∈ gdT := gm_5 198 rfl rfl
theorem lk_RL_m113 : Cond.methodLink RL 113 yX11_worth ∈ gdT := gm_4 53 rfl rfl
theorem lk_RL_m116 : Cond.methodLink RL 116 yX12_worth ∈ gdT := gm_5 202 rfl rfl
theorem lk_RL_m117 : Cond.methodLink RL 117 yX11_count ∈ gdT := gm_4 74 rfl rfl
theorem lk_RL_m120 : Cond.methodLink RL 120 yX12_count ∈ gdT := gm_5 210 rfl rfl
theorem lk_RL_m13 : Cond.methodLink RL 13 yX11_thing ∈ gdT := gm_2 53 rfl rfl
theorem lk_RL_m17 : Cond.methodLink RL 17 yX12_thing ∈ gdT := gm_4 209 rfl rfl
theorem lk_RL_m18 : Cond.methodLink RL 18 yX11_paint ∈ gdT := gm_2 80 rfl rfl
theorem lk_RL_m22 : Cond.methodLink RL 22 yX12_paint ∈ gdT := gm_4 216 rfl rfl
theorem lk_RL_m23 : Cond.methodLink RL 23 yX11_tie ∈ gdT := gm_2 88 rfl rfl
theorem lk_RL_m27 : Cond.methodLink RL 27 yX12_tie ∈ gdT := gm_4 224 rfl rfl
theorem lk_RL_m28 : Cond.methodLink RL 28 yX11_of ∈ gdT := gm_2 101 rfl rfl
theorem lk_RL_m31 : Cond.methodLink RL 31 yX12_of ∈ gdT := gm_4 235 rfl rfl
theorem lk_RL_m32 : Cond.methodLink RL 32 yX11_price ∈ gdT := gm_2 105 rfl rfl
theorem lk_RL_m35 : Cond.methodLink RL 35 yX12_price ∈ gdT := gm_5 3 rfl rfl
theorem lk_RL_m38 : Cond.methodLink RL 38 yX11_write ∈ gdT := gm_2 109 rfl rfl
theorem lk_RL_m42 : Cond.methodLink RL 42 yX12_write ∈ gdT := gm_5 7 rfl rfl
theorem lk_RL_m43 : Cond.methodLink RL 43 yX11_erase ∈ gdT := gm_2 122 rfl rfl
theorem lk_RL_m47 : Cond.methodLink RL 47 yX12_erase ∈ gdT := gm_5 12 rfl rfl
theorem lk_RL_m48 : Cond.methodLink RL 48 yX11_fault ∈ gdT := gm_2 130 rfl rfl
theorem lk_RL_m51 : Cond.methodLink RL 51 yX12_fault ∈ gdT := gm_5 16 rfl rfl
theorem lk_RL_m52 : Cond.methodLink RL 52 yX11_says ∈ gdT := gm_2 222 rfl rfl
theorem lk_RL_m56 : Cond.methodLink RL 56 yX12_says ∈ gdT := gm_5 59 rfl rfl
theorem lk_RL_m57 : Cond.methodLink RL 57 yX11_keep ∈ gdT := gm_3 52 rfl rfl
theorem lk_RL_m60 : Cond.methodLink RL 60 yX12_keep ∈ gdT := gm_5 91 rfl rfl
theorem lk_RL_m61 : Cond.methodLink RL 61 yX11_kept ∈ gdT := gm_3 61 rfl rfl
theorem lk_RL_m64 : Cond.methodLink RL 64 yX12_kept ∈ gdT := gm_5 95 rfl rfl
theorem lk_RL_m65 : Cond.methodLink RL 65 yX11_cheapest ∈ gdT := gm_3 65 rfl rfl
theorem lk_RL_m68 : Cond.methodLink RL 68 yX12_cheapest ∈ gdT := gm_5 103 rfl rfl
theorem lk_RL_m69 : Cond.methodLink RL 69 yX11_sets ∈ gdT := gm_3 144 rfl rfl
theorem lk_RL_m72 : Cond.methodLink RL 72 yX12_sets ∈ gdT := gm_5 130 rfl rfl
theorem lk_RL_m73 : Cond.methodLink RL 73 yX11_quick ∈ gdT := gm_3 148 rfl rfl
theorem lk_RL_m76 : Cond.methodLink RL 76 yX12_quick ∈ gdT := gm_5 134 rfl rfl
theorem lk_RL_m77 : Cond.methodLink RL 77 yX11_twin ∈ gdT := gm_3 160 rfl rfl
theorem lk_RL_m80 : Cond.methodLink RL 80 yX12_twin ∈ gdT := gm_5 138 rfl rfl
theorem lk_RL_m81 : Cond.methodLink RL 81 yX11_breaks ∈ gdT := gm_3 192 rfl rfl
theorem lk_RL_m84 : Cond.methodLink RL 84 yX12_breaks ∈ gdT := gm_5 158 rfl rfl
theorem lk_RL_m85 : Cond.methodLink RL 85 yX11_hears ∈ gdT := gm_3 200 rfl rfl
theorem lk_RL_m88 : Cond.methodLink RL 88 yX12_hears ∈ gdT := gm_5 162 rfl rfl
theorem lk_RL_m89 : Cond.methodLink RL 89 yX11_tells ∈ gdT := gm_3 231 rfl rfl
theorem lk_RL_m92 : Cond.methodLink RL 92 yX12_tells ∈ gdT := gm_5 174 rfl rfl
theorem lk_RL_m93 : Cond.methodLink RL 93 yX11_ends ∈ gdT := gm_3 236 rfl rfl
theorem lk_RL_m96 : Cond.methodLink RL 96 yX12_ends ∈ gdT := gm_5 178 rfl rfl
theorem lk_RL_m97 : Cond.methodLink RL 97 yX11_wrong ∈ gdT := gm_4 0 rfl rfl
theorem lk_RX12_m102 : Cond.methodLink RX12 102 yX12_in ∈ gdT := gm_4 213 rfl rfl
theorem lk_RX12_m106 : Cond.methodLink RX12 106 yX12_isThing ∈ gdT := gm_4 220 rfl rfl
theorem lk_RX12_m110 : Cond.methodLink RX12 110 yX12_bits ∈ gdT := gm_4 232 rfl rfl
theorem lk_RX12_m114 : Cond.methodLink RX12 114 yX12_tieMany ∈ gdT := gm_4 228 rfl rfl
theorem lk_RX12_m118 : Cond.methodLink RX12 118 yX12_besides ∈ gdT := gm_4 239 rfl rfl
theorem lk_RX12_m188 : Cond.methodLink RX12 188 yX12_nextToken ∈ gdT := gm_5 24 rfl rfl
theorem lk_RX12_m191 : Cond.methodLink RX12 191 yX12_wordTold ∈ gdT := gm_5 33 rfl rfl
theorem lk_RX12_m194 : Cond.methodLink RX12 194 yX12_fails ∈ gdT := gm_5 52 rfl rfl
theorem lk_RX12_m198 : Cond.methodLink RX12 198 yX12_needs ∈ gdT := gm_5 56 rfl rfl
theorem lk_RX12_m201 : Cond.methodLink RX12 201 yX12_isRead ∈ gdT := gm_5 20 rfl rfl
theorem lk_RX12_m204 : Cond.methodLink RX12 204 yX12_every ∈ gdT := gm_5 75 rfl rfl
theorem lk_RX12_m207 : Cond.methodLink RX12 207 yX12_bySize ∈ gdT := gm_5 79 rfl rfl
theorem lk_RX12_m211 : Cond.methodLink RX12 211 yX12_leftmost ∈ gdT := gm_5 83 rfl rfl
theorem lk_RX12_m214 : Cond.methodLink RX12 214 yX12_allOf ∈ gdT := gm_5 67 rfl rfl
theorem lk_RX12_m218 : Cond.methodLink RX12 218 yX12_made ∈ gdT := gm_5 71 rfl rfl
theorem lk_RX12_m222 : Cond.methodLink RX12 222 yX12_meaning ∈ gdT := gm_5 63 rfl rfl
theorem lk_RX12_m225 : Cond.methodLink RX12 225 yX12_costTold ∈ gdT := gm_5 87 rfl rfl
theorem lk_RX12_m231 : Cond.methodLink RX12 231 yX12_recall ∈ gdT := gm_5 99 rfl rfl
theorem lk_RX12_m235 : Cond.methodLink RX12 235 yX12_isAhead ∈ gdT := gm_5 126 rfl rfl
theorem lk_RX12_m239 : Cond.methodLink RX12 239 yX12_offer ∈ gdT := gm_5 114 rfl rfl
theorem lk_RX12_m243 : Cond.methodLink RX12 243 yX12_cheapestLeft ∈ gdT := gm_5 118 rfl rfl
theorem lk_RX12_m246 : Cond.methodLink RX12 246 yX12_settle ∈ gdT := gm_5 122 rfl rfl
theorem lk_RX12_m249 : Cond.methodLink RX12 249 yX12_areWords ∈ gdT := gm_5 107 rfl rfl
theorem lk_RX12_m252 : Cond.methodLink RX12 252 yX12_search ∈ gdT := gm_5 110 rfl rfl
theorem lk_RX12_m255 : Cond.methodLink RX12 255 yX12_howMany ∈ gdT := gm_5 150 rfl rfl
theorem lk_RX12_m258 : Cond.methodLink RX12 258 yX12_tiesTo ∈ gdT := gm_5 154 rfl rfl
theorem lk_RX12_m261 : Cond.methodLink RX12 261 yX12_areAlike ∈ gdT := gm_5 146 rfl rfl
theorem lk_RX12_m264 : Cond.methodLink RX12 264 yX12_findTwins ∈ gdT := gm_5 142 rfl rfl
theorem lk_RX12_m267 : Cond.methodLink RX12 267 yX12_findSaid ∈ gdT := gm_5 170 rfl rfl
theorem lk_RX12_m270 : Cond.methodLink RX12 270 yX12_think ∈ gdT := gm_5 166 rfl rfl
theorem lk_RX12_m276 : Cond.methodLink RX12 276 yX12_tryWord ∈ gdT := gm_5 186 rfl rfl
theorem lk_RX12_m283 : Cond.methodLink RX12 283 yX12_worthOf ∈ gdT := gm_5 206 rfl rfl
theorem lk_RX10_c11 : Cond.constant RX10 11 (32768) ∈ gdT := gm_3 73 rfl rfl
theorem lk_RJ6_c264 : Cond.constant RJ6 264 (65536) ∈ gdT := gm_3 186 rfl rfl
theorem lk_RJ6_c265 : Cond.constant RJ6 265 (1431655765) ∈ gdT := gm_3 41 rfl rfl
theorem lk_RJ6_c266 : Cond.constant RJ6 266 (858993459) ∈ gdT := gm_3 42 rfl rfl
theorem lk_RJ6_c267 : Cond.constant RJ6 267 (252645135) ∈ gdT := gm_3 43 rfl rfl
theorem lk_RX0_f12 : Cond.fieldLink RX0 12 (TX0 0).1 (TX0 0).2.1 (TX0 0).2.2.1 ∈ gdT := gm_1 161 rfl rfl
theorem lk_RX0_f22 : Cond.fieldLink RX0 22 (TX0 1).1 (TX0 1).2.1 (TX0 1).2.2.1 ∈ gdT := gm_1 162 rfl rfl
theorem lk_RX0_f25 : Cond.fieldLink RX0 25 (TX0 3).1 (TX0 3).2.1 (TX0 3).2.2.1 ∈ gdT := gm_1 166 rfl rfl
theorem lk_RX0_f28 : Cond.fieldLink RX0 28 (TX0 4).1 (TX0 4).2.1 (TX0 4).2.2.1 ∈ gdT := gm_1 168 rfl rfl
theorem lk_RX0_f31 : Cond.fieldLink RX0 31 (TX5 1).1 (TX5 1).2.1 (TX5 1).2.2.1 ∈ gdT := gm_1 44 rfl rfl
theorem lk_RX0_f46 : Cond.fieldLink RX0 46 (TX5 0).1 (TX5 0).2.1 (TX5 0).2.2.1 ∈ gdT := gm_1 39 rfl rfl
theorem lk_RX1_f15 : Cond.fieldLink RX1 15 (TX1 1).1 (TX1 1).2.1 (TX1 1).2.2.1 ∈ gdT := gm_1 207 rfl rfl
theorem lk_RX1_f18 : Cond.fieldLink RX1 18 (TX1 2).1 (TX1 2).2.1 (TX1 2).2.2.1 ∈ gdT := gm_1 208 rfl rfl
theorem lk_RX1_f21 : Cond.fieldLink RX1 21 (TX1 3).1 (TX1 3).2.1 (TX1 3).2.2.1 ∈ gdT := gm_1 209 rfl rfl
theorem lk_RX1_f9 : Cond.fieldLink RX1 9 (TX1 0).1 (TX1 0).2.1 (TX1 0).2.2.1 ∈ gdT := gm_1 205 rfl rfl
theorem lk_RX2_f21 : Cond.fieldLink RX2 21 (TX2 1).1 (TX2 1).2.1 (TX2 1).2.2.1 ∈ gdT := gm_1 227 rfl rfl
theorem lk_RX2_f25 : Cond.fieldLink RX2 25 (TX4 2).1 (TX4 2).2.1 (TX4 2).2.2.1 ∈ gdT := gm_1 73 rfl rfl
theorem lk_RX2_f30 : Cond.fieldLink RX2 30 (TX4 0).1 (TX4 0).2.1 (TX4 0).2.2.1 ∈ gdT := gm_1 70 rfl rfl
theorem lk_RX2_f46 : Cond.fieldLink RX2 46 (TX2 2).1 (TX2 2).2.1 (TX2 2).2.2.1 ∈ gdT := gm_1 229 rfl rfl
theorem lk_RX2_f9 : Cond.fieldLink RX2 9 (TX2 0).1 (TX2 0).2.1 (TX2 0).2.2.1 ∈ gdT := gm_1 225 rfl rfl
theorem lk_RX3_f27 : Cond.fieldLink RX3 27 (TX5 0).1 (TX5 0).2.1 (TX5 0).2.2.1 ∈ gdT := gm_1 40 rfl rfl
theorem lk_RX4_f13 : Cond.fieldLink RX4 13 (TX4 1).1 (TX4 1).2.1 (TX4 1).2.2.1 ∈ gdT := gm_1 71 rfl rfl
theorem lk_RX4_f16 : Cond.fieldLink RX4 16 (TX4 2).1 (TX4 2).2.1 (TX4 2).2.2.1 ∈ gdT := gm_1 72 rfl rfl
theorem lk_RX4_f9 : Cond.fieldLink RX4 9 (TX4 0).1 (TX4 0).2.1 (TX4 0).2.2.1 ∈ gdT := gm_1 69 rfl rfl
theorem lk_RX5_f11 : Cond.fieldLink RX5 11 (TX5 0).1 (TX5 0).2.1 (TX5 0).2.2.1 ∈ gdT := gm_1 38 rfl rfl
theorem lk_RX5_f27 : Cond.fieldLink RX5 27 (TX5 1).1 (TX5 1).2.1 (TX5 1).2.2.1 ∈ gdT := gm_1 46 rfl rfl
theorem lk_RX5_f39 : Cond.fieldLink RX5 39 (TX5 2).1 (TX5 2).2.1 (TX5 2).2.2.1 ∈ gdT := gm_1 47 rfl rfl
theorem lk_RX6_f11 : Cond.fieldLink RX6 11 (TX6 0).1 (TX6 0).2.1 (TX6 0).2.2.1 ∈ gdT := gm_2 4 rfl rfl
theorem lk_RX6_f15 : Cond.fieldLink RX6 15 (TX6 1).1 (TX6 1).2.1 (TX6 1).2.2.1 ∈ gdT := gm_2 5 rfl rfl
theorem lk_RX6_f29 : Cond.fieldLink RX6 29 (TX9 0).1 (TX9 0).2.1 (TX9 0).2.2.1 ∈ gdT := gm_1 111 rfl rfl
theorem lk_RX7_f11 : Cond.fieldLink RX7 11 (TX7 0).1 (TX7 0).2.1 (TX7 0).2.2.1 ∈ gdT := gm_1 84 rfl rfl
theorem lk_RX7_f18 : Cond.fieldLink RX7 18 (TX7 1).1 (TX7 1).2.1 (TX7 1).2.2.1 ∈ gdT := gm_1 85 rfl rfl
theorem lk_RX7_f22 : Cond.fieldLink RX7 22 (TX7 2).1 (TX7 2).2.1 (TX7 2).2.2.1 ∈ gdT := gm_1 87 rfl rfl
theorem lk_RX7_f28 : Cond.fieldLink RX7 28 (TX4 2).1 (TX4 2).2.1 (TX4 2).2.2.1 ∈ gdT := gm_1 74 rfl rfl
theorem lk_RX7_f29 : Cond.fieldLink RX7 29 (TX7 3).1 (TX7 3).2.1 (TX7 3).2.2.1 ∈ gdT := gm_1 89 rfl rfl
theorem lk_RX7_f32 : Cond.fieldLink RX7 32 (TX7 4).1 (TX7 4).2.1 (TX7 4).2.2.1 ∈ gdT := gm_1 90 rfl rfl
theorem lk_RX8_f15 : Cond.fieldLink RX8 15 (TX8 1).1 (TX8 1).2.1 (TX8 1).2.2.1 ∈ gdT := gm_1 189 rfl rfl
theorem lk_RX8_f18 : Cond.fieldLink RX8 18 (TX8 2).1 (TX8 2).2.1 (TX8 2).2.2.1 ∈ gdT := gm_1 191 rfl rfl
theorem lk_RX8_f21 : Cond.fieldLink RX8 21 (TX5 1).1 (TX5 1).2.1 (TX5 1).2.2.1 ∈ gdT := gm_1 43 rfl rfl
theorem lk_RX8_f41 : Cond.fieldLink RX8 41 (TX5 0).1 (TX5 0).2.1 (TX5 0).2.2.1 ∈ gdT := gm_1 42 rfl rfl
theorem lk_RX8_f9 : Cond.fieldLink RX8 9 (TX8 0).1 (TX8 0).2.1 (TX8 0).2.2.1 ∈ gdT := gm_1 187 rfl rfl
theorem lk_RX9_f117 : Cond.fieldLink RX9 117 (TX9 10).1 (TX9 10).2.1 (TX9 10).2.2.1 ∈ gdT := gm_1 126 rfl rfl
theorem lk_RX9_f15 : Cond.fieldLink RX9 15 (TX9 1).1 (TX9 1).2.1 (TX9 1).2.2.1 ∈ gdT := gm_1 113 rfl rfl
theorem lk_RX9_f18 : Cond.fieldLink RX9 18 (TX9 2).1 (TX9 2).2.1 (TX9 2).2.2.1 ∈ gdT := gm_1 115 rfl rfl
theorem lk_RX9_f21 : Cond.fieldLink RX9 21 (TX9 3).1 (TX9 3).2.1 (TX9 3).2.2.1 ∈ gdT := gm_1 116 rfl rfl
theorem lk_RX9_f24 : Cond.fieldLink RX9 24 (TX9 4).1 (TX9 4).2.1 (TX9 4).2.2.1 ∈ gdT := gm_1 117 rfl rfl
theorem lk_RX9_f27 : Cond.fieldLink RX9 27 (TX9 5).1 (TX9 5).2.1 (TX9 5).2.2.1 ∈ gdT := gm_1 118 rfl rfl
theorem lk_RX9_f42 : Cond.fieldLink RX9 42 (TX9 7).1 (TX9 7).2.1 (TX9 7).2.2.1 ∈ gdT := gm_1 121 rfl rfl
theorem lk_RX9_f45 : Cond.fieldLink RX9 45 (TX9 9).1 (TX9 9).2.1 (TX9 9).2.2.1 ∈ gdT := gm_1 125 rfl rfl
theorem lk_RX9_f75 : Cond.fieldLink RX9 75 (TX9 6).1 (TX9 6).2.1 (TX9 6).2.2.1 ∈ gdT := gm_1 119 rfl rfl
theorem lk_RX9_f83 : Cond.fieldLink RX9 83 (TX9 11).1 (TX9 11).2.1 (TX9 11).2.2.1 ∈ gdT := gm_1 127 rfl rfl
theorem lk_RX9_f9 : Cond.fieldLink RX9 9 (TX9 0).1 (TX9 0).2.1 (TX9 0).2.2.1 ∈ gdT := gm_1 110 rfl rfl
theorem lk_RX11_f10 : Cond.fieldLink RX11 10 (TX11 0).1 (TX11 0).2.1 (TX11 0).2.2.1 ∈ gdT := gm_2 16 rfl rfl
theorem lk_RX11_f109 : Cond.fieldLink RX11 109 (TX5 0).1 (TX5 0).2.1 (TX5 0).2.2.1 ∈ gdT := gm_1 41 rfl rfl
theorem lk_RX11_f134 : Cond.fieldLink RX11 134 (TX7 1).1 (TX7 1).2.1 (TX7 1).2.2.1 ∈ gdT := gm_1 86 rfl rfl
theorem lk_RX11_f142 : Cond.fieldLink RX11 142 (TX11 10).1 (TX11 10).2.1 (TX11 10).2.2.1 ∈ gdT := gm_2 26 rfl rfl
theorem lk_RX11_f157 : Cond.fieldLink RX11 157 (TX4 2).1 (TX4 2).2.1 (TX4 2).2.2.1 ∈ gdT := gm_1 75 rfl rfl
theorem lk_RX11_f173 : Cond.fieldLink RX11 173 (TX9 0).1 (TX9 0).2.1 (TX9 0).2.2.1 ∈ gdT := gm_1 112 rfl rfl
theorem lk_RX11_f176 : Cond.fieldLink RX11 176 (TX9 1).1 (TX9 1).2.1 (TX9 1).2.2.1 ∈ gdT := gm_1 114 rfl rfl
theorem lk_RX11_f18 : Cond.fieldLink RX11 18 (TX11 1).1 (TX11 1).2.1 (TX11 1).2.2.1 ∈ gdT := gm_2 17 rfl rfl
theorem lk_RX11_f182 : Cond.fieldLink RX11 182 (TX9 6).1 (TX9 6).2.1 (TX9 6).2.2.1 ∈ gdT := gm_1 120 rfl rfl
theorem lk_RX11_f194 : Cond.fieldLink RX11 194 (TX8 0).1 (TX8 0).2.1 (TX8 0).2.2.1 ∈ gdT := gm_1 188 rfl rfl
theorem lk_RX11_f203 : Cond.fieldLink RX11 203 (TX8 1).1 (TX8 1).2.1 (TX8 1).2.2.1 ∈ gdT := gm_1 190 rfl rfl
theorem lk_RX11_f209 : Cond.fieldLink RX11 209 (TX9 8).1 (TX9 8).2.1 (TX9 8).2.2.1 ∈ gdT := gm_1 124 rfl rfl
theorem lk_RX11_f212 : Cond.fieldLink RX11 212 (TX9 7).1 (TX9 7).2.1 (TX9 7).2.2.1 ∈ gdT := gm_1 122 rfl rfl
theorem lk_RX11_f226 : Cond.fieldLink RX11 226 (TX1 0).1 (TX1 0).2.1 (TX1 0).2.2.1 ∈ gdT := gm_1 206 rfl rfl
theorem lk_RX11_f245 : Cond.fieldLink RX11 245 (TX2 1).1 (TX2 1).2.1 (TX2 1).2.2.1 ∈ gdT := gm_1 228 rfl rfl
theorem lk_RX11_f248 : Cond.fieldLink RX11 248 (TX2 2).1 (TX2 2).2.1 (TX2 2).2.2.1 ∈ gdT := gm_1 230 rfl rfl
theorem lk_RX11_f25 : Cond.fieldLink RX11 25 (TX11 2).1 (TX11 2).2.1 (TX11 2).2.2.1 ∈ gdT := gm_2 18 rfl rfl
theorem lk_RX11_f251 : Cond.fieldLink RX11 251 (TX2 0).1 (TX2 0).2.1 (TX2 0).2.2.1 ∈ gdT := gm_1 226 rfl rfl
theorem lk_RX11_f254 : Cond.fieldLink RX11 254 (TX6 1).1 (TX6 1).2.1 (TX6 1).2.2.1 ∈ gdT := gm_2 6 rfl rfl
theorem lk_RX11_f263 : Cond.fieldLink RX11 263 (TX0 2).1 (TX0 2).2.1 (TX0 2).2.2.1 ∈ gdT := gm_1 165 rfl rfl
theorem lk_RX11_f264 : Cond.fieldLink RX11 264 (TX0 1).1 (TX0 1).2.1 (TX0 1).2.2.1 ∈ gdT := gm_1 163 rfl rfl
theorem lk_RX11_f268 : Cond.fieldLink RX11 268 (TX0 3).1 (TX0 3).2.1 (TX0 3).2.2.1 ∈ gdT := gm_1 167 rfl rfl
theorem lk_RX11_f271 : Cond.fieldLink RX11 271 (TX0 4).1 (TX0 4).2.1 (TX0 4).2.2.1 ∈ gdT := gm_1 169 rfl rfl
theorem lk_RX11_f274 : Cond.fieldLink RX11 274 (TX5 2).1 (TX5 2).2.1 (TX5 2).2.2.1 ∈ gdT := gm_1 48 rfl rfl
theorem lk_RX11_f277 : Cond.fieldLink RX11 277 (TX7 2).1 (TX7 2).2.1 (TX7 2).2.2.1 ∈ gdT := gm_1 88 rfl rfl
theorem lk_RX11_f31 : Cond.fieldLink RX11 31 (TX11 3).1 (TX11 3).2.1 (TX11 3).2.2.1 ∈ gdT := gm_2 19 rfl rfl
theorem lk_RX11_f38 : Cond.fieldLink RX11 38 (TX11 4).1 (TX11 4).2.1 (TX11 4).2.2.1 ∈ gdT := gm_2 20 rfl rfl
theorem lk_RX11_f45 : Cond.fieldLink RX11 45 (TX11 5).1 (TX11 5).2.1 (TX11 5).2.2.1 ∈ gdT := gm_2 21 rfl rfl
theorem lk_RX11_f52 : Cond.fieldLink RX11 52 (TX11 6).1 (TX11 6).2.1 (TX11 6).2.2.1 ∈ gdT := gm_2 22 rfl rfl
theorem lk_RX11_f59 : Cond.fieldLink RX11 59 (TX11 7).1 (TX11 7).2.1 (TX11 7).2.2.1 ∈ gdT := gm_2 23 rfl rfl
theorem lk_RX11_f66 : Cond.fieldLink RX11 66 (TX11 8).1 (TX11 8).2.1 (TX11 8).2.2.1 ∈ gdT := gm_2 24 rfl rfl
theorem lk_RX11_f73 : Cond.fieldLink RX11 73 (TX11 9).1 (TX11 9).2.1 (TX11 9).2.2.1 ∈ gdT := gm_2 25 rfl rfl
theorem lk_RX11_f95 : Cond.fieldLink RX11 95 (TX5 1).1 (TX5 1).2.1 (TX5 1).2.2.1 ∈ gdT := gm_1 45 rfl rfl
theorem lk_RX11_f99 : Cond.fieldLink RX11 99 (TX11 11).1 (TX11 11).2.1 (TX11 11).2.2.1 ∈ gdT := gm_2 27 rfl rfl
theorem lk_RX12_f121 : Cond.fieldLink RX12 121 (TX12 8).1 (TX12 8).2.1 (TX12 8).2.2.1 ∈ gdT := gm_4 92 rfl rfl
theorem lk_RX12_f126 : Cond.fieldLink RX12 126 (TX12 10).1 (TX12 10).2.1 (TX12 10).2.2.1 ∈ gdT := gm_4 94 rfl rfl
theorem lk_RX12_f129 : Cond.fieldLink RX12 129 (TX12 11).1 (TX12 11).2.1 (TX12 11).2.2.1 ∈ gdT := gm_4 95 rfl rfl
theorem lk_RX12_f13 : Cond.fieldLink RX12 13 (TX12 2).1 (TX12 2).2.1 (TX12 2).2.2.1 ∈ gdT := gm_4 86 rfl rfl
theorem lk_RX12_f132 : Cond.fieldLink RX12 132 (TX12 13).1 (TX12 13).2.1 (TX12 13).2.2.1 ∈ gdT := gm_4 97 rfl rfl
theorem lk_RX12_f135 : Cond.fieldLink RX12 135 (TX12 14).1 (TX12 14).2.1 (TX12 14).2.2.1 ∈ gdT := gm_4 98 rfl rfl
theorem lk_RX12_f140 : Cond.fieldLink RX12 140 (TX12 12).1 (TX12 12).2.1 (TX12 12).2.2.1 ∈ gdT := gm_4 96 rfl rfl
theorem lk_RX12_f152 : Cond.fieldLink RX12 152 (TX12 15).1 (TX12 15).2.1 (TX12 15).2.2.1 ∈ gdT := gm_4 99 rfl rfl
theorem lk_RX12_f16 : Cond.fieldLink RX12 16 (TX12 3).1 (TX12 3).2.1 (TX12 3).2.2.1 ∈ gdT := gm_4 87 rfl rfl
theorem lk_RX12_f185 : Cond.fieldLink RX12 185 (TX12 16).1 (TX12 16).2.1 (TX12 16).2.2.1 ∈ gdT := gm_4 100 rfl rfl
theorem lk_RX12_f19 : Cond.fieldLink RX12 19 (TX12 4).1 (TX12 4).2.1 (TX12 4).2.2.1 ∈ gdT := gm_4 88 rfl rfl
theorem lk_RX12_f22 : Cond.fieldLink RX12 22 (TX12 5).1 (TX12 5).2.1 (TX12 5).2.2.1 ∈ gdT := gm_4 89 rfl rfl
theorem lk_RX12_f228 : Cond.fieldLink RX12 228 (TX12 20).1 (TX12 20).2.1 (TX12 20).2.2.1 ∈ gdT := gm_4 104 rfl rfl
theorem lk_RX12_f25 : Cond.fieldLink RX12 25 (TX12 6).1 (TX12 6).2.1 (TX12 6).2.2.1 ∈ gdT := gm_4 90 rfl rfl
theorem lk_RX12_f273 : Cond.fieldLink RX12 273 (TX12 38).1 (TX12 38).2.1 (TX12 38).2.2.1 ∈ gdT := gm_4 122 rfl rfl
theorem lk_RX12_f28 : Cond.fieldLink RX12 28 (TX12 7).1 (TX12 7).2.1 (TX12 7).2.2.1 ∈ gdT := gm_4 91 rfl rfl
theorem lk_RX12_f280 : Cond.fieldLink RX12 280 (TX12 39).1 (TX12 39).2.1 (TX12 39).2.2.1 ∈ gdT := gm_4 123 rfl rfl
theorem lk_RX12_f31 : Cond.fieldLink RX12 31 (TX12 9).1 (TX12 9).2.1 (TX12 9).2.2.1 ∈ gdT := gm_4 93 rfl rfl
theorem lk_RX12_f34 : Cond.fieldLink RX12 34 (TX12 17).1 (TX12 17).2.1 (TX12 17).2.2.1 ∈ gdT := gm_4 101 rfl rfl
theorem lk_RX12_f37 : Cond.fieldLink RX12 37 (TX12 18).1 (TX12 18).2.1 (TX12 18).2.2.1 ∈ gdT := gm_4 102 rfl rfl
theorem lk_RX12_f40 : Cond.fieldLink RX12 40 (TX12 19).1 (TX12 19).2.1 (TX12 19).2.2.1 ∈ gdT := gm_4 103 rfl rfl
theorem lk_RX12_f43 : Cond.fieldLink RX12 43 (TX12 21).1 (TX12 21).2.1 (TX12 21).2.2.1 ∈ gdT := gm_4 105 rfl rfl
theorem lk_RX12_f46 : Cond.fieldLink RX12 46 (TX12 22).1 (TX12 22).2.1 (TX12 22).2.2.1 ∈ gdT := gm_4 106 rfl rfl
theorem lk_RX12_f49 : Cond.fieldLink RX12 49 (TX12 23).1 (TX12 23).2.1 (TX12 23).2.2.1 ∈ gdT := gm_4 107 rfl rfl
theorem lk_RX12_f52 : Cond.fieldLink RX12 52 (TX12 24).1 (TX12 24).2.1 (TX12 24).2.2.1 ∈ gdT := gm_4 108 rfl rfl
theorem lk_RX12_f55 : Cond.fieldLink RX12 55 (TX12 25).1 (TX12 25).2.1 (TX12 25).2.2.1 ∈ gdT := gm_4 109 rfl rfl
theorem lk_RX12_f58 : Cond.fieldLink RX12 58 (TX12 26).1 (TX12 26).2.1 (TX12 26).2.2.1 ∈ gdT := gm_4 110 rfl rfl
theorem lk_RX12_f61 : Cond.fieldLink RX12 61 (TX12 27).1 (TX12 27).2.1 (TX12 27).2.2.1 ∈ gdT := gm_4 111 rfl rfl
theorem lk_RX12_f64 : Cond.fieldLink RX12 64 (TX12 28).1 (TX12 28).2.1 (TX12 28).2.2.1 ∈ gdT := gm_4 112 rfl rfl
theorem lk_RX12_f67 : Cond.fieldLink RX12 67 (TX12 29).1 (TX12 29).2.1 (TX12 29).2.2.1 ∈ gdT := gm_4 113 rfl rfl
theorem lk_RX12_f7 : Cond.fieldLink RX12 7 (TX12 1).1 (TX12 1).2.1 (TX12 1).2.2.1 ∈ gdT := gm_4 85 rfl rfl
theorem lk_RX12_f70 : Cond.fieldLink RX12 70 (TX12 30).1 (TX12 30).2.1 (TX12 30).2.2.1 ∈ gdT := gm_4 114 rfl rfl
theorem lk_RX12_f74 : Cond.fieldLink RX12 74 (TX12 31).1 (TX12 31).2.1 (TX12 31).2.2.1 ∈ gdT := gm_4 115 rfl rfl
theorem lk_RX12_f77 : Cond.fieldLink RX12 77 (TX12 32).1 (TX12 32).2.1 (TX12 32).2.2.1 ∈ gdT := gm_4 116 rfl rfl
theorem lk_RX12_f80 : Cond.fieldLink RX12 80 (TX12 33).1 (TX12 33).2.1 (TX12 33).2.2.1 ∈ gdT := gm_4 117 rfl rfl
theorem lk_RX12_f83 : Cond.fieldLink RX12 83 (TX12 34).1 (TX12 34).2.1 (TX12 34).2.2.1 ∈ gdT := gm_4 118 rfl rfl
theorem lk_RX12_f86 : Cond.fieldLink RX12 86 (TX12 35).1 (TX12 35).2.1 (TX12 35).2.2.1 ∈ gdT := gm_4 119 rfl rfl
theorem lk_RX12_f89 : Cond.fieldLink RX12 89 (TX12 36).1 (TX12 36).2.1 (TX12 36).2.2.1 ∈ gdT := gm_4 120 rfl rfl
theorem lk_RX12_f92 : Cond.fieldLink RX12 92 (TX12 37).1 (TX12 37).2.1 (TX12 37).2.2.1 ∈ gdT := gm_4 121 rfl rfl
theorem lk_RX12_f95 : Cond.fieldLink RX12 95 (TX12 40).1 (TX12 40).2.1 (TX12 40).2.2.1 ∈ gdT := gm_4 124 rfl rfl
theorem lk_RX12_f98 : Cond.fieldLink RX12 98 (TX12 0).1 (TX12 0).2.1 (TX12 0).2.2.1 ∈ gdT := gm_4 84 rfl rfl
theorem lk_RX7_l26 : Cond.constantLong RX7 26 (255) ∈ gdT := gm_2 121 rfl rfl
theorem lk_RL_l36 : Cond.constantLong RL 36 (4294967295) ∈ gdT := gm_5 214 rfl rfl
theorem lk_RX12_l124 : Cond.constantLong RX12 124 (255) ∈ gdT := gm_5 11 rfl rfl
theorem lk_RX12_l138 : Cond.constantLong RX12 138 (-2) ∈ gdT := gm_5 28 rfl rfl
theorem lk_RX12_l144 : Cond.constantLong RX12 144 (27) ∈ gdT := gm_5 29 rfl rfl
theorem lk_RX12_l146 : Cond.constantLong RX12 146 (96) ∈ gdT := gm_5 30 rfl rfl
theorem lk_RX12_l148 : Cond.constantLong RX12 148 (-4) ∈ gdT := gm_5 31 rfl rfl
theorem lk_RX12_l150 : Cond.constantLong RX12 150 (-1) ∈ gdT := gm_5 32 rfl rfl
theorem lk_RX12_l155 : Cond.constantLong RX12 155 (1065) ∈ gdT := gm_5 37 rfl rfl
theorem lk_RX12_l157 : Cond.constantLong RX12 157 (223456) ∈ gdT := gm_5 38 rfl rfl
theorem lk_RX12_l159 : Cond.constantLong RX12 159 (51266052) ∈ gdT := gm_5 39 rfl rfl
theorem lk_RX12_l161 : Cond.constantLong RX12 161 (257105) ∈ gdT := gm_5 40 rfl rfl
theorem lk_RX12_l163 : Cond.constantLong RX12 163 (10631) ∈ gdT := gm_5 41 rfl rfl
theorem lk_RX12_l165 : Cond.constantLong RX12 165 (1111) ∈ gdT := gm_5 42 rfl rfl
theorem lk_RX12_l167 : Cond.constantLong RX12 167 (423) ∈ gdT := gm_5 43 rfl rfl
theorem lk_RX12_l169 : Cond.constantLong RX12 169 (2045) ∈ gdT := gm_5 44 rfl rfl
theorem lk_RX12_l171 : Cond.constantLong RX12 171 (31735670) ∈ gdT := gm_5 45 rfl rfl
theorem lk_RX12_l173 : Cond.constantLong RX12 173 (400360) ∈ gdT := gm_5 46 rfl rfl
theorem lk_RX12_l175 : Cond.constantLong RX12 175 (267347) ∈ gdT := gm_5 47 rfl rfl
theorem lk_RX12_l177 : Cond.constantLong RX12 177 (6476969) ∈ gdT := gm_5 48 rfl rfl
theorem lk_RX12_l179 : Cond.constantLong RX12 179 (127558330490) ∈ gdT := gm_5 49 rfl rfl
theorem lk_RX12_l181 : Cond.constantLong RX12 181 (275356804) ∈ gdT := gm_5 50 rfl rfl
theorem lk_RX12_l183 : Cond.constantLong RX12 183 (305800) ∈ gdT := gm_5 51 rfl rfl
theorem lk_RX2_m56 : Cond.methodLink RX2 56 Lib.Math.max.name ∈ gdT := gm_4 25 rfl rfl
theorem lk_RX4_m24 : Cond.methodLink RX4 24 Lib.Math.min.name ∈ gdT := gm_2 234 rfl rfl
theorem lk_RX5_m70 : Cond.methodLink RX5 70 Lib.Math.max.name ∈ gdT := gm_3 22 rfl rfl
theorem lk_RX5_m75 : Cond.methodLink RX5 75 Lib.Math.min.name ∈ gdT := gm_3 33 rfl rfl
theorem lk_RX6_m32 : Cond.methodLink RX6 32 Lib.Math.min.name ∈ gdT := gm_4 52 rfl rfl
theorem lk_RX9_m107 : Cond.methodLink RX9 107 Lib.Math.max.name ∈ gdT := gm_3 96 rfl rfl
theorem lk_RX9_m98 : Cond.methodLink RX9 98 Lib.Math.min.name ∈ gdT := gm_3 106 rfl rfl
theorem lk_RX1_m44 : Cond.methodLinkNest RX1 44 yX11_isWithin "GreenDoor" ∈ lw_tbl := tb_3 (List.mem_of_getElem? (i := 230) rfl)
theorem lk_RX2_m49 : Cond.methodLinkNest RX2 49 yX11_isWithin "GreenDoor" ∈ lw_tbl := tb_4 (List.mem_of_getElem? (i := 23) rfl)
theorem lk_RX4_m48 : Cond.methodLinkNest RX4 48 yX11_isWithin "GreenDoor" ∈ lw_tbl := tb_3 (List.mem_of_getElem? (i := 51) rfl)
theorem lk_RX5_m20 : Cond.methodLinkNest RX5 20 yX11_isWithin "GreenDoor" ∈ lw_tbl := tb_2 (List.mem_of_getElem? (i := 62) rfl)
theorem lk_RX7_m49 : Cond.methodLinkNest RX7 49 yX11_isWithin "GreenDoor" ∈ lw_tbl := tb_2 (List.mem_of_getElem? (i := 146) rfl)
theorem lk_RX9_m34 : Cond.methodLinkNest RX9 34 yX11_isWithin "GreenDoor" ∈ lw_tbl := tb_3 (List.mem_of_getElem? (i := 117) rfl)
theorem lk_RX10_m12 : Cond.methodLinkNest RX10 12 yX11_isWithin "GreenDoor" ∈ lw_tbl := tb_2 (List.mem_of_getElem? (i := 213) rfl)
theorem lk_RX5_s16 : Cond.fieldLink RX5 16 (stn 0).1 (stn 0).2 "[B" ∈ gdT := gm_2 60 rfl rfl
theorem lk_RX5_s24 : Cond.fieldLink RX5 24 (stn 1).1 (stn 1).2 "[B" ∈ gdT := gm_2 65 rfl rfl
theorem lk_RX10_s16 : Cond.fieldLink RX10 16 (stn 2).1 (stn 2).2 "[B" ∈ gdT := gm_2 219 rfl rfl
theorem lk_RX10_s20 : Cond.fieldLink RX10 20 (stn 3).1 (stn 3).2 "[B" ∈ gdT := gm_2 214 rfl rfl
theorem lk_RX10_s23 : Cond.fieldLink RX10 23 (stn 4).1 (stn 4).2 "[B" ∈ gdT := gm_4 12 rfl rfl
theorem lk_RX10_s26 : Cond.fieldLink RX10 26 (stn 5).1 (stn 5).2 "[B" ∈ gdT := gm_4 17 rfl rfl
end
