noncomputable section
/-- a private method of a class that the tables say can be made, by its rows of tables_1 -/
def lw_okq (q : MethodName × Nat) : Prop := (q.1.cls ≠ "java/lang/invoke/MethodHandle" ∧ q.1.cls ≠ "java/lang/invoke/VarHandle") ∧ Cond.instantiable q.1.cls q.2 ∈ tables_1 ∧ Cond.privateMethod q.1 ∈ tables_1 ∧ Cond.instanceMethod q.1 ∈ tables_1
theorem lw_p0 : lw_okq (⟨"Callerhall", "countAway", "()I"⟩, 19) := ⟨⟨by decide +kernel, by decide +kernel⟩, List.mem_of_getElem? (i := 43) (by decide +kernel), List.mem_of_getElem? (i := 510) (by decide +kernel), List.mem_of_getElem? (i := 511) (by decide +kernel)⟩
theorem lw_p1 : lw_okq (⟨"Callerhall", "spotOf", "(I)I"⟩, 19) := ⟨⟨by decide +kernel, by decide +kernel⟩, List.mem_of_getElem? (i := 43) (by decide +kernel), List.mem_of_getElem? (i := 514) (by decide +kernel), List.mem_of_getElem? (i := 515) (by decide +kernel)⟩
theorem lw_p2 : lw_okq (⟨"Callerhall", "putAllHome", "()V"⟩, 19) := ⟨⟨by decide +kernel, by decide +kernel⟩, List.mem_of_getElem? (i := 43) (by decide +kernel), List.mem_of_getElem? (i := 518) (by decide +kernel), List.mem_of_getElem? (i := 519) (by decide +kernel)⟩
theorem lw_p3 : lw_okq (⟨"Callerhall", "forgetPast", "()V"⟩, 19) := ⟨⟨by decide +kernel, by decide +kernel⟩, List.mem_of_getElem? (i := 43) (by decide +kernel), List.mem_of_getElem? (i := 526) (by decide +kernel), List.mem_of_getElem? (i := 527) (by decide +kernel)⟩
theorem lw_p4 : lw_okq (⟨"Callerhall", "countOutside", "(I)I"⟩, 19) := ⟨⟨by decide +kernel, by decide +kernel⟩, List.mem_of_getElem? (i := 43) (by decide +kernel), List.mem_of_getElem? (i := 565) (by decide +kernel), List.mem_of_getElem? (i := 566) (by decide +kernel)⟩
theorem lw_p5 : lw_okq (⟨"Callerhall", "isInShape", "(III)Z"⟩, 19) := ⟨⟨by decide +kernel, by decide +kernel⟩, List.mem_of_getElem? (i := 43) (by decide +kernel), List.mem_of_getElem? (i := 569) (by decide +kernel), List.mem_of_getElem? (i := 570) (by decide +kernel)⟩
theorem lw_p6 : lw_okq (⟨"Callerhall", "areHome", "([I[I[I)Z"⟩, 19) := ⟨⟨by decide +kernel, by decide +kernel⟩, List.mem_of_getElem? (i := 43) (by decide +kernel), List.mem_of_getElem? (i := 634) (by decide +kernel), List.mem_of_getElem? (i := 635) (by decide +kernel)⟩
theorem lw_p7 : lw_okq (⟨"Callerhall", "isDoneInParts", "(I)Z"⟩, 19) := ⟨⟨by decide +kernel, by decide +kernel⟩, List.mem_of_getElem? (i := 43) (by decide +kernel), List.mem_of_getElem? (i := 679) (by decide +kernel), List.mem_of_getElem? (i := 680) (by decide +kernel)⟩
theorem lw_p8 : lw_okq (⟨"Callerhall$Plan", "append", "(III)V"⟩, 9) := ⟨⟨by decide +kernel, by decide +kernel⟩, List.mem_of_getElem? (i := 276) (by decide +kernel), List.mem_of_getElem? (i := 688) (by decide +kernel), List.mem_of_getElem? (i := 689) (by decide +kernel)⟩
theorem lw_p9 : lw_okq (⟨"Callerhall$Floor", "add", "(IIIIII)V"⟩, 16) := ⟨⟨by decide +kernel, by decide +kernel⟩, List.mem_of_getElem? (i := 88) (by decide +kernel), List.mem_of_getElem? (i := 708) (by decide +kernel), List.mem_of_getElem? (i := 709) (by decide +kernel)⟩
theorem lw_p10 : lw_okq (⟨"Callerhall$Stage", "enter", "(I)V"⟩, 8) := ⟨⟨by decide +kernel, by decide +kernel⟩, List.mem_of_getElem? (i := 82) (by decide +kernel), List.mem_of_getElem? (i := 716) (by decide +kernel), List.mem_of_getElem? (i := 717) (by decide +kernel)⟩
theorem lw_p11 : lw_okq (⟨"Callerhall$Stage", "floorAt", "(I)LCallerhall$Floor;"⟩, 8) := ⟨⟨by decide +kernel, by decide +kernel⟩, List.mem_of_getElem? (i := 82) (by decide +kernel), List.mem_of_getElem? (i := 720) (by decide +kernel), List.mem_of_getElem? (i := 721) (by decide +kernel)⟩
theorem lw_p12 : lw_okq (⟨"Callerhall$Stage", "makeUnits", "(LCallerhall$Floor;LCallerhall$Floor;Z)Z"⟩, 8) := ⟨⟨by decide +kernel, by decide +kernel⟩, List.mem_of_getElem? (i := 82) (by decide +kernel), List.mem_of_getElem? (i := 728) (by decide +kernel), List.mem_of_getElem? (i := 729) (by decide +kernel)⟩
theorem lw_p13 : lw_okq (⟨"Callerhall$Steps", "begin", "(LCallerhall$Floor;)V"⟩, 12) := ⟨⟨by decide +kernel, by decide +kernel⟩, List.mem_of_getElem? (i := 164) (by decide +kernel), List.mem_of_getElem? (i := 744) (by decide +kernel), List.mem_of_getElem? (i := 745) (by decide +kernel)⟩
theorem lw_p14 : lw_okq (⟨"Callerhall$Steps", "isAheadInOrder", "(LCallerhall$Floor;II)Z"⟩, 12) := ⟨⟨by decide +kernel, by decide +kernel⟩, List.mem_of_getElem? (i := 164) (by decide +kernel), List.mem_of_getElem? (i := 748) (by decide +kernel), List.mem_of_getElem? (i := 749) (by decide +kernel)⟩
theorem lw_p15 : lw_okq (⟨"Callerhall$Steps", "findColumns", "(LCallerhall$Floor;)V"⟩, 12) := ⟨⟨by decide +kernel, by decide +kernel⟩, List.mem_of_getElem? (i := 164) (by decide +kernel), List.mem_of_getElem? (i := 752) (by decide +kernel), List.mem_of_getElem? (i := 753) (by decide +kernel)⟩
def lw_privs_1 : List (MethodName × Nat) := [(⟨"Callerhall", "countAway", "()I"⟩, 19), (⟨"Callerhall", "spotOf", "(I)I"⟩, 19), (⟨"Callerhall", "putAllHome", "()V"⟩, 19), (⟨"Callerhall", "forgetPast", "()V"⟩, 19), (⟨"Callerhall", "countOutside", "(I)I"⟩, 19), (⟨"Callerhall", "isInShape", "(III)Z"⟩, 19), (⟨"Callerhall", "areHome", "([I[I[I)Z"⟩, 19), (⟨"Callerhall", "isDoneInParts", "(I)Z"⟩, 19), (⟨"Callerhall$Plan", "append", "(III)V"⟩, 9), (⟨"Callerhall$Floor", "add", "(IIIIII)V"⟩, 16), (⟨"Callerhall$Stage", "enter", "(I)V"⟩, 8), (⟨"Callerhall$Stage", "floorAt", "(I)LCallerhall$Floor;"⟩, 8), (⟨"Callerhall$Stage", "makeUnits", "(LCallerhall$Floor;LCallerhall$Floor;Z)Z"⟩, 8), (⟨"Callerhall$Steps", "begin", "(LCallerhall$Floor;)V"⟩, 12), (⟨"Callerhall$Steps", "isAheadInOrder", "(LCallerhall$Floor;II)Z"⟩, 12), (⟨"Callerhall$Steps", "findColumns", "(LCallerhall$Floor;)V"⟩, 12)]
theorem lw_r1 : ∀ q ∈ lw_privs_1, lw_okq q := List.forall_mem_cons.mpr ⟨lw_p0, List.forall_mem_cons.mpr ⟨lw_p1, List.forall_mem_cons.mpr ⟨lw_p2, List.forall_mem_cons.mpr ⟨lw_p3, List.forall_mem_cons.mpr ⟨lw_p4, List.forall_mem_cons.mpr ⟨lw_p5, List.forall_mem_cons.mpr ⟨lw_p6, List.forall_mem_cons.mpr ⟨lw_p7, List.forall_mem_cons.mpr ⟨lw_p8, List.forall_mem_cons.mpr ⟨lw_p9, List.forall_mem_cons.mpr ⟨lw_p10, List.forall_mem_cons.mpr ⟨lw_p11, List.forall_mem_cons.mpr ⟨lw_p12, List.forall_mem_cons.mpr ⟨lw_p13, List.forall_mem_cons.mpr ⟨lw_p14, List.forall_mem_cons.mpr ⟨lw_p15, fun _ h => absurd h List.not_mem_nil⟩⟩⟩⟩⟩⟩⟩⟩⟩⟩⟩⟩⟩⟩⟩⟩
theorem lw_p16 : lw_okq (⟨"Callerhall$Steps", "findRows", "(LCallerhall$Floor;Z)V"⟩, 12) := ⟨⟨by decide +kernel, by decide +kernel⟩, List.mem_of_getElem? (i := 164) (by decide +kernel), List.mem_of_getElem? (i := 756) (by decide +kernel), List.mem_of_getElem? (i := 757) (by decide +kernel)⟩
theorem lw_p17 : lw_okq (⟨"Callerhall$Steps", "findBeside", "(LCallerhall$Floor;IZ)I"⟩, 12) := ⟨⟨by decide +kernel, by decide +kernel⟩, List.mem_of_getElem? (i := 164) (by decide +kernel), List.mem_of_getElem? (i := 760) (by decide +kernel), List.mem_of_getElem? (i := 761) (by decide +kernel)⟩
theorem lw_p18 : lw_okq (⟨"Callerhall$Stage", "begin", "(LCallerhall$Floor;LCallerhall$Plan;I)V"⟩, 8) := ⟨⟨by decide +kernel, by decide +kernel⟩, List.mem_of_getElem? (i := 82) (by decide +kernel), List.mem_of_getElem? (i := 782) (by decide +kernel), List.mem_of_getElem? (i := 783) (by decide +kernel)⟩
theorem lw_p19 : lw_okq (⟨"Callerhall$Steps", "nearnessOf", "(LCallerhall$Floor;I)I"⟩, 12) := ⟨⟨by decide +kernel, by decide +kernel⟩, List.mem_of_getElem? (i := 164) (by decide +kernel), List.mem_of_getElem? (i := 791) (by decide +kernel), List.mem_of_getElem? (i := 792) (by decide +kernel)⟩
theorem lw_p20 : lw_okq (⟨"Callerhall$Steps", "findFaces", "(LCallerhall$Floor;)V"⟩, 12) := ⟨⟨by decide +kernel, by decide +kernel⟩, List.mem_of_getElem? (i := 164) (by decide +kernel), List.mem_of_getElem? (i := 804) (by decide +kernel), List.mem_of_getElem? (i := 805) (by decide +kernel)⟩
theorem lw_p21 : lw_okq (⟨"Callerhall$Steps", "findBoxes", "(LCallerhall$Floor;)V"⟩, 12) := ⟨⟨by decide +kernel, by decide +kernel⟩, List.mem_of_getElem? (i := 164) (by decide +kernel), List.mem_of_getElem? (i := 810) (by decide +kernel), List.mem_of_getElem? (i := 811) (by decide +kernel)⟩
theorem lw_p22 : lw_okq (⟨"Callerhall$Steps", "findCorner", "(LCallerhall$Floor;III)I"⟩, 12) := ⟨⟨by decide +kernel, by decide +kernel⟩, List.mem_of_getElem? (i := 164) (by decide +kernel), List.mem_of_getElem? (i := 814) (by decide +kernel), List.mem_of_getElem? (i := 815) (by decide +kernel)⟩
theorem lw_p23 : lw_okq (⟨"Callerhall$Steps", "isFree", "(I)Z"⟩, 12) := ⟨⟨by decide +kernel, by decide +kernel⟩, List.mem_of_getElem? (i := 164) (by decide +kernel), List.mem_of_getElem? (i := 818) (by decide +kernel), List.mem_of_getElem? (i := 819) (by decide +kernel)⟩
theorem lw_p24 : lw_okq (⟨"Callerhall$Steps", "putInBox", "(LCallerhall$Floor;II)V"⟩, 12) := ⟨⟨by decide +kernel, by decide +kernel⟩, List.mem_of_getElem? (i := 164) (by decide +kernel), List.mem_of_getElem? (i := 822) (by decide +kernel), List.mem_of_getElem? (i := 823) (by decide +kernel)⟩
theorem lw_p25 : lw_okq (⟨"Callerhall$Steps", "hasItsOwn", "(II)Z"⟩, 12) := ⟨⟨by decide +kernel, by decide +kernel⟩, List.mem_of_getElem? (i := 164) (by decide +kernel), List.mem_of_getElem? (i := 830) (by decide +kernel), List.mem_of_getElem? (i := 831) (by decide +kernel)⟩
theorem lw_p26 : lw_okq (⟨"Callerhall$Stage", "refuse", "(CI)V"⟩, 8) := ⟨⟨by decide +kernel, by decide +kernel⟩, List.mem_of_getElem? (i := 82) (by decide +kernel), List.mem_of_getElem? (i := 834) (by decide +kernel), List.mem_of_getElem? (i := 835) (by decide +kernel)⟩
theorem lw_p27 : lw_okq (⟨"Callerhall$Steps", "stepAlone", "(LCallerhall$Floor;II)V"⟩, 12) := ⟨⟨by decide +kernel, by decide +kernel⟩, List.mem_of_getElem? (i := 164) (by decide +kernel), List.mem_of_getElem? (i := 852) (by decide +kernel), List.mem_of_getElem? (i := 853) (by decide +kernel)⟩
theorem lw_p28 : lw_okq (⟨"Callerhall$Steps", "stepFacing", "(LCallerhall$Floor;II)V"⟩, 12) := ⟨⟨by decide +kernel, by decide +kernel⟩, List.mem_of_getElem? (i := 164) (by decide +kernel), List.mem_of_getElem? (i := 864) (by decide +kernel), List.mem_of_getElem? (i := 865) (by decide +kernel)⟩
theorem lw_p29 : lw_okq (⟨"Callerhall$Steps", "stepInBox", "(LCallerhall$Floor;I)V"⟩, 12) := ⟨⟨by decide +kernel, by decide +kernel⟩, List.mem_of_getElem? (i := 164) (by decide +kernel), List.mem_of_getElem? (i := 868) (by decide +kernel), List.mem_of_getElem? (i := 869) (by decide +kernel)⟩
theorem lw_p30 : lw_okq (⟨"Callerhall$Steps", "isInBox", "(LCallerhall$Floor;II)Z"⟩, 12) := ⟨⟨by decide +kernel, by decide +kernel⟩, List.mem_of_getElem? (i := 164) (by decide +kernel), List.mem_of_getElem? (i := 872) (by decide +kernel), List.mem_of_getElem? (i := 873) (by decide +kernel)⟩
theorem lw_p31 : lw_okq (⟨"Callerhall$Steps", "stepPair", "(LCallerhall$Floor;II)V"⟩, 12) := ⟨⟨by decide +kernel, by decide +kernel⟩, List.mem_of_getElem? (i := 164) (by decide +kernel), List.mem_of_getElem? (i := 876) (by decide +kernel), List.mem_of_getElem? (i := 877) (by decide +kernel)⟩
def lw_privs_2 : List (MethodName × Nat) := [(⟨"Callerhall$Steps", "findRows", "(LCallerhall$Floor;Z)V"⟩, 12), (⟨"Callerhall$Steps", "findBeside", "(LCallerhall$Floor;IZ)I"⟩, 12), (⟨"Callerhall$Stage", "begin", "(LCallerhall$Floor;LCallerhall$Plan;I)V"⟩, 8), (⟨"Callerhall$Steps", "nearnessOf", "(LCallerhall$Floor;I)I"⟩, 12), (⟨"Callerhall$Steps", "findFaces", "(LCallerhall$Floor;)V"⟩, 12), (⟨"Callerhall$Steps", "findBoxes", "(LCallerhall$Floor;)V"⟩, 12), (⟨"Callerhall$Steps", "findCorner", "(LCallerhall$Floor;III)I"⟩, 12), (⟨"Callerhall$Steps", "isFree", "(I)Z"⟩, 12), (⟨"Callerhall$Steps", "putInBox", "(LCallerhall$Floor;II)V"⟩, 12), (⟨"Callerhall$Steps", "hasItsOwn", "(II)Z"⟩, 12), (⟨"Callerhall$Stage", "refuse", "(CI)V"⟩, 8), (⟨"Callerhall$Steps", "stepAlone", "(LCallerhall$Floor;II)V"⟩, 12), (⟨"Callerhall$Steps", "stepFacing", "(LCallerhall$Floor;II)V"⟩, 12), (⟨"Callerhall$Steps", "stepInBox", "(LCallerhall$Floor;I)V"⟩, 12), (⟨"Callerhall$Steps", "isInBox", "(LCallerhall$Floor;II)Z"⟩, 12), (⟨"Callerhall$Steps", "stepPair", "(LCallerhall$Floor;II)V"⟩, 12)]
theorem lw_r2 : ∀ q ∈ lw_privs_2, lw_okq q := List.forall_mem_cons.mpr ⟨lw_p16, List.forall_mem_cons.mpr ⟨lw_p17, List.forall_mem_cons.mpr ⟨lw_p18, List.forall_mem_cons.mpr ⟨lw_p19, List.forall_mem_cons.mpr ⟨lw_p20, List.forall_mem_cons.mpr ⟨lw_p21, List.forall_mem_cons.mpr ⟨lw_p22, List.forall_mem_cons.mpr ⟨lw_p23, List.forall_mem_cons.mpr ⟨lw_p24, List.forall_mem_cons.mpr ⟨lw_p25, List.forall_mem_cons.mpr ⟨lw_p26, List.forall_mem_cons.mpr ⟨lw_p27, List.forall_mem_cons.mpr ⟨lw_p28, List.forall_mem_cons.mpr ⟨lw_p29, List.forall_mem_cons.mpr ⟨lw_p30, List.forall_mem_cons.mpr ⟨lw_p31, fun _ h => absurd h List.not_mem_nil⟩⟩⟩⟩⟩⟩⟩⟩⟩⟩⟩⟩⟩⟩⟩⟩
theorem lw_p32 : lw_okq (⟨"Callerhall$Floor", "isPassing", "(I)Z"⟩, 16) := ⟨⟨by decide +kernel, by decide +kernel⟩, List.mem_of_getElem? (i := 88) (by decide +kernel), List.mem_of_getElem? (i := 893) (by decide +kernel), List.mem_of_getElem? (i := 894) (by decide +kernel)⟩
theorem lw_p33 : lw_okq (⟨"Callerhall$Floor", "hasMoved", "(I)Z"⟩, 16) := ⟨⟨by decide +kernel, by decide +kernel⟩, List.mem_of_getElem? (i := 88) (by decide +kernel), List.mem_of_getElem? (i := 897) (by decide +kernel), List.mem_of_getElem? (i := 898) (by decide +kernel)⟩
theorem lw_p34 : lw_okq (⟨"Callerhall$Floor", "countWith", "(I)I"⟩, 16) := ⟨⟨by decide +kernel, by decide +kernel⟩, List.mem_of_getElem? (i := 88) (by decide +kernel), List.mem_of_getElem? (i := 902) (by decide +kernel), List.mem_of_getElem? (i := 903) (by decide +kernel)⟩
theorem lw_p35 : lw_okq (⟨"Callerhall$Stage", "leave", "(I)V"⟩, 8) := ⟨⟨by decide +kernel, by decide +kernel⟩, List.mem_of_getElem? (i := 82) (by decide +kernel), List.mem_of_getElem? (i := 906) (by decide +kernel), List.mem_of_getElem? (i := 907) (by decide +kernel)⟩
theorem lw_p36 : lw_okq (⟨"Callerhall$Stage", "spreadUnits", "(LCallerhall$Floor;LCallerhall$Floor;Z)V"⟩, 8) := ⟨⟨by decide +kernel, by decide +kernel⟩, List.mem_of_getElem? (i := 82) (by decide +kernel), List.mem_of_getElem? (i := 915) (by decide +kernel), List.mem_of_getElem? (i := 916) (by decide +kernel)⟩
theorem lw_p37 : lw_okq (⟨"Callerhall$Floor", "settle", "(LCallerhall$Floor;IIIII)V"⟩, 16) := ⟨⟨by decide +kernel, by decide +kernel⟩, List.mem_of_getElem? (i := 88) (by decide +kernel), List.mem_of_getElem? (i := 923) (by decide +kernel), List.mem_of_getElem? (i := 924) (by decide +kernel)⟩
theorem lw_p38 : lw_okq (⟨"java/lang/Throwable", "fillInStackTrace", "(I)Ljava/lang/Throwable;"⟩, 6) := ⟨⟨by decide +kernel, by decide +kernel⟩, List.mem_of_getElem? (i := 978) (by decide +kernel), List.mem_of_getElem? (i := 976) (by decide +kernel), List.mem_of_getElem? (i := 977) (by decide +kernel)⟩
theorem lw_p39 : lw_okq (⟨"Callerhall", "checkDancer", "(I)V"⟩, 19) := ⟨⟨by decide +kernel, by decide +kernel⟩, List.mem_of_getElem? (i := 43) (by decide +kernel), List.mem_of_getElem? (i := 1027) (by decide +kernel), List.mem_of_getElem? (i := 1028) (by decide +kernel)⟩
theorem lw_p40 : lw_okq (⟨"Callerhall", "checkPlace", "(III)V"⟩, 19) := ⟨⟨by decide +kernel, by decide +kernel⟩, List.mem_of_getElem? (i := 43) (by decide +kernel), List.mem_of_getElem? (i := 1075) (by decide +kernel), List.mem_of_getElem? (i := 1076) (by decide +kernel)⟩
theorem lw_p41 : lw_okq (⟨"Callerhall", "checkYear", "(I)V"⟩, 19) := ⟨⟨by decide +kernel, by decide +kernel⟩, List.mem_of_getElem? (i := 43) (by decide +kernel), List.mem_of_getElem? (i := 1191) (by decide +kernel), List.mem_of_getElem? (i := 1192) (by decide +kernel)⟩
theorem lw_p42 : lw_okq (⟨"Callerhall", "letterOf", "(C)I"⟩, 19) := ⟨⟨by decide +kernel, by decide +kernel⟩, List.mem_of_getElem? (i := 43) (by decide +kernel), List.mem_of_getElem? (i := 1202) (by decide +kernel), List.mem_of_getElem? (i := 1203) (by decide +kernel)⟩
theorem lw_p43 : lw_okq (⟨"Callerhall", "indexIn", "(Ljava/lang/String;C)I"⟩, 19) := ⟨⟨by decide +kernel, by decide +kernel⟩, List.mem_of_getElem? (i := 43) (by decide +kernel), List.mem_of_getElem? (i := 1207) (by decide +kernel), List.mem_of_getElem? (i := 1208) (by decide +kernel)⟩
theorem lw_p44 : lw_okq (⟨"Callerhall", "actOf", "(C)I"⟩, 19) := ⟨⟨by decide +kernel, by decide +kernel⟩, List.mem_of_getElem? (i := 43) (by decide +kernel), List.mem_of_getElem? (i := 1266) (by decide +kernel), List.mem_of_getElem? (i := 1267) (by decide +kernel)⟩
theorem lw_p45 : lw_okq (⟨"Callerhall", "whoOf", "(C)I"⟩, 19) := ⟨⟨by decide +kernel, by decide +kernel⟩, List.mem_of_getElem? (i := 43) (by decide +kernel), List.mem_of_getElem? (i := 1270) (by decide +kernel), List.mem_of_getElem? (i := 1271) (by decide +kernel)⟩
theorem lw_p46 : lw_okq (⟨"Callerhall", "conceptOf", "(C)I"⟩, 19) := ⟨⟨by decide +kernel, by decide +kernel⟩, List.mem_of_getElem? (i := 43) (by decide +kernel), List.mem_of_getElem? (i := 1275) (by decide +kernel), List.mem_of_getElem? (i := 1276) (by decide +kernel)⟩
theorem lw_p47 : lw_okq (⟨"Callerhall", "readCall", "(C)V"⟩, 19) := ⟨⟨by decide +kernel, by decide +kernel⟩, List.mem_of_getElem? (i := 43) (by decide +kernel), List.mem_of_getElem? (i := 1322) (by decide +kernel), List.mem_of_getElem? (i := 1323) (by decide +kernel)⟩
def lw_privs_3 : List (MethodName × Nat) := [(⟨"Callerhall$Floor", "isPassing", "(I)Z"⟩, 16), (⟨"Callerhall$Floor", "hasMoved", "(I)Z"⟩, 16), (⟨"Callerhall$Floor", "countWith", "(I)I"⟩, 16), (⟨"Callerhall$Stage", "leave", "(I)V"⟩, 8), (⟨"Callerhall$Stage", "spreadUnits", "(LCallerhall$Floor;LCallerhall$Floor;Z)V"⟩, 8), (⟨"Callerhall$Floor", "settle", "(LCallerhall$Floor;IIIII)V"⟩, 16), (⟨"java/lang/Throwable", "fillInStackTrace", "(I)Ljava/lang/Throwable;"⟩, 6), (⟨"Callerhall", "checkDancer", "(I)V"⟩, 19), (⟨"Callerhall", "checkPlace", "(III)V"⟩, 19), (⟨"Callerhall", "checkYear", "(I)V"⟩, 19), (⟨"Callerhall", "letterOf", "(C)I"⟩, 19), (⟨"Callerhall", "indexIn", "(Ljava/lang/String;C)I"⟩, 19), (⟨"Callerhall", "actOf", "(C)I"⟩, 19), (⟨"Callerhall", "whoOf", "(C)I"⟩, 19), (⟨"Callerhall", "conceptOf", "(C)I"⟩, 19), (⟨"Callerhall", "readCall", "(C)V"⟩, 19)]
theorem lw_r3 : ∀ q ∈ lw_privs_3, lw_okq q := List.forall_mem_cons.mpr ⟨lw_p32, List.forall_mem_cons.mpr ⟨lw_p33, List.forall_mem_cons.mpr ⟨lw_p34, List.forall_mem_cons.mpr ⟨lw_p35, List.forall_mem_cons.mpr ⟨lw_p36, List.forall_mem_cons.mpr ⟨lw_p37, List.forall_mem_cons.mpr ⟨lw_p38, List.forall_mem_cons.mpr ⟨lw_p39, List.forall_mem_cons.mpr ⟨lw_p40, List.forall_mem_cons.mpr ⟨lw_p41, List.forall_mem_cons.mpr ⟨lw_p42, List.forall_mem_cons.mpr ⟨lw_p43, List.forall_mem_cons.mpr ⟨lw_p44, List.forall_mem_cons.mpr ⟨lw_p45, List.forall_mem_cons.mpr ⟨lw_p46, List.forall_mem_cons.mpr ⟨lw_p47, fun _ h => absurd h List.not_mem_nil⟩⟩⟩⟩⟩⟩⟩⟩⟩⟩⟩⟩⟩⟩⟩⟩
theorem lw_p48 : lw_okq (⟨"Callerhall", "judge", "(LCallerhall$Plan;ZII)V"⟩, 19) := ⟨⟨by decide +kernel, by decide +kernel⟩, List.mem_of_getElem? (i := 43) (by decide +kernel), List.mem_of_getElem? (i := 1355) (by decide +kernel), List.mem_of_getElem? (i := 1356) (by decide +kernel)⟩
theorem lw_p49 : lw_okq (⟨"Callerhall", "settle", "(I)V"⟩, 19) := ⟨⟨by decide +kernel, by decide +kernel⟩, List.mem_of_getElem? (i := 43) (by decide +kernel), List.mem_of_getElem? (i := 1371) (by decide +kernel), List.mem_of_getElem? (i := 1372) (by decide +kernel)⟩
theorem lw_p50 : lw_okq (⟨"Callerhall", "pairAll", "(II)V"⟩, 19) := ⟨⟨by decide +kernel, by decide +kernel⟩, List.mem_of_getElem? (i := 43) (by decide +kernel), List.mem_of_getElem? (i := 1452) (by decide +kernel), List.mem_of_getElem? (i := 1453) (by decide +kernel)⟩
theorem lw_p51 : lw_okq (⟨"Callerhall", "findLastAct", "(LCallerhall$Places;I)Z"⟩, 19) := ⟨⟨by decide +kernel, by decide +kernel⟩, List.mem_of_getElem? (i := 43) (by decide +kernel), List.mem_of_getElem? (i := 1487) (by decide +kernel), List.mem_of_getElem? (i := 1488) (by decide +kernel)⟩
theorem lw_p52 : lw_okq (⟨"Callerhall$Party", "choose", "([II)I"⟩, 5) := ⟨⟨by decide +kernel, by decide +kernel⟩, List.mem_of_getElem? (i := 388) (by decide +kernel), List.mem_of_getElem? (i := 1538) (by decide +kernel), List.mem_of_getElem? (i := 1539) (by decide +kernel)⟩
theorem lw_p53 : lw_okq (⟨"Callerhall$Party", "countMet", "([III)I"⟩, 5) := ⟨⟨by decide +kernel, by decide +kernel⟩, List.mem_of_getElem? (i := 388) (by decide +kernel), List.mem_of_getElem? (i := 1542) (by decide +kernel), List.mem_of_getElem? (i := 1543) (by decide +kernel)⟩
theorem lw_p54 : lw_okq (⟨"Callerhall$Party", "meet", "([III)V"⟩, 5) := ⟨⟨by decide +kernel, by decide +kernel⟩, List.mem_of_getElem? (i := 388) (by decide +kernel), List.mem_of_getElem? (i := 1546) (by decide +kernel), List.mem_of_getElem? (i := 1547) (by decide +kernel)⟩
theorem lw_p55 : lw_okq (⟨"Callerhall", "checkCouple", "(I)V"⟩, 19) := ⟨⟨by decide +kernel, by decide +kernel⟩, List.mem_of_getElem? (i := 43) (by decide +kernel), List.mem_of_getElem? (i := 1557) (by decide +kernel), List.mem_of_getElem? (i := 1558) (by decide +kernel)⟩
theorem lw_p56 : lw_okq (⟨"java/util/ArrayList", "add", "(Ljava/lang/Object;[Ljava/lang/Object;I)V"⟩, 3) := ⟨⟨by decide +kernel, by decide +kernel⟩, List.mem_of_getElem? (i := 1600) (by decide +kernel), List.mem_of_getElem? (i := 1639) (by decide +kernel), List.mem_of_getElem? (i := 1640) (by decide +kernel)⟩
theorem lw_p57 : lw_okq (⟨"java/util/ArrayList", "grow", "()[Ljava/lang/Object;"⟩, 3) := ⟨⟨by decide +kernel, by decide +kernel⟩, List.mem_of_getElem? (i := 1600) (by decide +kernel), List.mem_of_getElem? (i := 1643) (by decide +kernel), List.mem_of_getElem? (i := 1644) (by decide +kernel)⟩
theorem lw_p58 : lw_okq (⟨"java/util/ArrayList", "grow", "(I)[Ljava/lang/Object;"⟩, 3) := ⟨⟨by decide +kernel, by decide +kernel⟩, List.mem_of_getElem? (i := 1600) (by decide +kernel), List.mem_of_getElem? (i := 1647) (by decide +kernel), List.mem_of_getElem? (i := 1648) (by decide +kernel)⟩
theorem lw_p59 : lw_okq (⟨"CallerhallModel", "homes", "()[I"⟩, 40) := ⟨⟨by decide +kernel, by decide +kernel⟩, List.mem_of_getElem? (i := 1594) (by decide +kernel), List.mem_of_getElem? (i := 1704) (by decide +kernel), List.mem_of_getElem? (i := 1705) (by decide +kernel)⟩
theorem lw_p60 : lw_okq (⟨"CallerhallModel", "puts", "([I)V"⟩, 40) := ⟨⟨by decide +kernel, by decide +kernel⟩, List.mem_of_getElem? (i := 1594) (by decide +kernel), List.mem_of_getElem? (i := 1708) (by decide +kernel), List.mem_of_getElem? (i := 1709) (by decide +kernel)⟩
theorem lw_p61 : lw_okq (⟨"CallerhallModel", "row", "()[I"⟩, 40) := ⟨⟨by decide +kernel, by decide +kernel⟩, List.mem_of_getElem? (i := 1594) (by decide +kernel), List.mem_of_getElem? (i := 1841) (by decide +kernel), List.mem_of_getElem? (i := 1842) (by decide +kernel)⟩
theorem lw_p62 : lw_okq (⟨"CallerhallModel", "tells", "()V"⟩, 40) := ⟨⟨by decide +kernel, by decide +kernel⟩, List.mem_of_getElem? (i := 1594) (by decide +kernel), List.mem_of_getElem? (i := 1845) (by decide +kernel), List.mem_of_getElem? (i := 1846) (by decide +kernel)⟩
theorem lw_p63 : lw_okq (⟨"CallerhallModel", "noDancer", "(I)Z"⟩, 40) := ⟨⟨by decide +kernel, by decide +kernel⟩, List.mem_of_getElem? (i := 1594) (by decide +kernel), List.mem_of_getElem? (i := 1862) (by decide +kernel), List.mem_of_getElem? (i := 1863) (by decide +kernel)⟩
def lw_privs_4 : List (MethodName × Nat) := [(⟨"Callerhall", "judge", "(LCallerhall$Plan;ZII)V"⟩, 19), (⟨"Callerhall", "settle", "(I)V"⟩, 19), (⟨"Callerhall", "pairAll", "(II)V"⟩, 19), (⟨"Callerhall", "findLastAct", "(LCallerhall$Places;I)Z"⟩, 19), (⟨"Callerhall$Party", "choose", "([II)I"⟩, 5), (⟨"Callerhall$Party", "countMet", "([III)I"⟩, 5), (⟨"Callerhall$Party", "meet", "([III)V"⟩, 5), (⟨"Callerhall", "checkCouple", "(I)V"⟩, 19), (⟨"java/util/ArrayList", "add", "(Ljava/lang/Object;[Ljava/lang/Object;I)V"⟩, 3), (⟨"java/util/ArrayList", "grow", "()[Ljava/lang/Object;"⟩, 3), (⟨"java/util/ArrayList", "grow", "(I)[Ljava/lang/Object;"⟩, 3), (⟨"CallerhallModel", "homes", "()[I"⟩, 40), (⟨"CallerhallModel", "puts", "([I)V"⟩, 40), (⟨"CallerhallModel", "row", "()[I"⟩, 40), (⟨"CallerhallModel", "tells", "()V"⟩, 40), (⟨"CallerhallModel", "noDancer", "(I)Z"⟩, 40)]
theorem lw_r4 : ∀ q ∈ lw_privs_4, lw_okq q := List.forall_mem_cons.mpr ⟨lw_p48, List.forall_mem_cons.mpr ⟨lw_p49, List.forall_mem_cons.mpr ⟨lw_p50, List.forall_mem_cons.mpr ⟨lw_p51, List.forall_mem_cons.mpr ⟨lw_p52, List.forall_mem_cons.mpr ⟨lw_p53, List.forall_mem_cons.mpr ⟨lw_p54, List.forall_mem_cons.mpr ⟨lw_p55, List.forall_mem_cons.mpr ⟨lw_p56, List.forall_mem_cons.mpr ⟨lw_p57, List.forall_mem_cons.mpr ⟨lw_p58, List.forall_mem_cons.mpr ⟨lw_p59, List.forall_mem_cons.mpr ⟨lw_p60, List.forall_mem_cons.mpr ⟨lw_p61, List.forall_mem_cons.mpr ⟨lw_p62, List.forall_mem_cons.mpr ⟨lw_p63, fun _ h => absurd h List.not_mem_nil⟩⟩⟩⟩⟩⟩⟩⟩⟩⟩⟩⟩⟩⟩⟩⟩
theorem lw_p64 : lw_okq (⟨"CallerhallModel", "no", "(ZI)Z"⟩, 40) := ⟨⟨by decide +kernel, by decide +kernel⟩, List.mem_of_getElem? (i := 1594) (by decide +kernel), List.mem_of_getElem? (i := 1870) (by decide +kernel), List.mem_of_getElem? (i := 1871) (by decide +kernel)⟩
theorem lw_p65 : lw_okq (⟨"CallerhallModel", "dancerAt", "(II)I"⟩, 40) := ⟨⟨by decide +kernel, by decide +kernel⟩, List.mem_of_getElem? (i := 1594) (by decide +kernel), List.mem_of_getElem? (i := 1892) (by decide +kernel), List.mem_of_getElem? (i := 1893) (by decide +kernel)⟩
theorem lw_p66 : lw_okq (⟨"CallerhallModel", "of", "(CI)LCallerhallModel$Version;"⟩, 40) := ⟨⟨by decide +kernel, by decide +kernel⟩, List.mem_of_getElem? (i := 1594) (by decide +kernel), List.mem_of_getElem? (i := 2017) (by decide +kernel), List.mem_of_getElem? (i := 2018) (by decide +kernel)⟩
theorem lw_p67 : lw_okq (⟨"CallerhallModel", "noCall", "(C)Z"⟩, 40) := ⟨⟨by decide +kernel, by decide +kernel⟩, List.mem_of_getElem? (i := 1594) (by decide +kernel), List.mem_of_getElem? (i := 2082) (by decide +kernel), List.mem_of_getElem? (i := 2083) (by decide +kernel)⟩
theorem lw_p68 : lw_okq (⟨"CallerhallModel", "holding", "(C)LCallerhallModel$Version;"⟩, 40) := ⟨⟨by decide +kernel, by decide +kernel⟩, List.mem_of_getElem? (i := 1594) (by decide +kernel), List.mem_of_getElem? (i := 2086) (by decide +kernel), List.mem_of_getElem? (i := 2087) (by decide +kernel)⟩
theorem lw_p69 : lw_okq (⟨"CallerhallModel", "callOf", "(CCC)LCallerhallModel$Call;"⟩, 40) := ⟨⟨by decide +kernel, by decide +kernel⟩, List.mem_of_getElem? (i := 1594) (by decide +kernel), List.mem_of_getElem? (i := 2090) (by decide +kernel), List.mem_of_getElem? (i := 2091) (by decide +kernel)⟩
theorem lw_p70 : lw_okq (⟨"CallerhallModel", "cannot", "(CII)I"⟩, 40) := ⟨⟨by decide +kernel, by decide +kernel⟩, List.mem_of_getElem? (i := 1594) (by decide +kernel), List.mem_of_getElem? (i := 2171) (by decide +kernel), List.mem_of_getElem? (i := 2172) (by decide +kernel)⟩
theorem lw_p71 : lw_okq (⟨"CallerhallModel", "refuse", "(I)I"⟩, 40) := ⟨⟨by decide +kernel, by decide +kernel⟩, List.mem_of_getElem? (i := 1594) (by decide +kernel), List.mem_of_getElem? (i := 2175) (by decide +kernel), List.mem_of_getElem? (i := 2176) (by decide +kernel)⟩
theorem lw_p72 : lw_okq (⟨"CallerhallModel", "runs", "([ILCallerhallModel$Call;I)[I"⟩, 40) := ⟨⟨by decide +kernel, by decide +kernel⟩, List.mem_of_getElem? (i := 1594) (by decide +kernel), List.mem_of_getElem? (i := 2179) (by decide +kernel), List.mem_of_getElem? (i := 2180) (by decide +kernel)⟩
theorem lw_p73 : lw_okq (⟨"CallerhallModel", "ground", "([I)LCallerhallModel$Floor;"⟩, 40) := ⟨⟨by decide +kernel, by decide +kernel⟩, List.mem_of_getElem? (i := 1594) (by decide +kernel), List.mem_of_getElem? (i := 2183) (by decide +kernel), List.mem_of_getElem? (i := 2184) (by decide +kernel)⟩
theorem lw_p74 : lw_okq (⟨"CallerhallModel", "raise", "(LCallerhallModel$Floor;C)LCallerhallModel$Floor;"⟩, 40) := ⟨⟨by decide +kernel, by decide +kernel⟩, List.mem_of_getElem? (i := 1594) (by decide +kernel), List.mem_of_getElem? (i := 2246) (by decide +kernel), List.mem_of_getElem? (i := 2247) (by decide +kernel)⟩
theorem lw_p75 : lw_okq (⟨"CallerhallModel", "units", "(LCallerhallModel$Floor;C)LCallerhallModel$Floor;"⟩, 40) := ⟨⟨by decide +kernel, by decide +kernel⟩, List.mem_of_getElem? (i := 1594) (by decide +kernel), List.mem_of_getElem? (i := 2253) (by decide +kernel), List.mem_of_getElem? (i := 2254) (by decide +kernel)⟩
theorem lw_p76 : lw_okq (⟨"CallerhallModel", "dances", "(LCallerhallModel$Floor;CCI)Z"⟩, 40) := ⟨⟨by decide +kernel, by decide +kernel⟩, List.mem_of_getElem? (i := 1594) (by decide +kernel), List.mem_of_getElem? (i := 2280) (by decide +kernel), List.mem_of_getElem? (i := 2281) (by decide +kernel)⟩
theorem lw_p77 : lw_okq (⟨"CallerhallModel", "among", "(LCallerhallModel$Floor;C)[Z"⟩, 40) := ⟨⟨by decide +kernel, by decide +kernel⟩, List.mem_of_getElem? (i := 1594) (by decide +kernel), List.mem_of_getElem? (i := 2284) (by decide +kernel), List.mem_of_getElem? (i := 2285) (by decide +kernel)⟩
theorem lw_p78 : lw_okq (⟨"CallerhallModel", "isOf", "(LCallerhallModel$Floor;IC)Z"⟩, 40) := ⟨⟨by decide +kernel, by decide +kernel⟩, List.mem_of_getElem? (i := 1594) (by decide +kernel), List.mem_of_getElem? (i := 2288) (by decide +kernel), List.mem_of_getElem? (i := 2289) (by decide +kernel)⟩
theorem lw_p79 : lw_okq (⟨"CallerhallModel", "skillOf", "(LCallerhallModel$Floor;I)I"⟩, 40) := ⟨⟨by decide +kernel, by decide +kernel⟩, List.mem_of_getElem? (i := 1594) (by decide +kernel), List.mem_of_getElem? (i := 2292) (by decide +kernel), List.mem_of_getElem? (i := 2293) (by decide +kernel)⟩
def lw_privs_5 : List (MethodName × Nat) := [(⟨"CallerhallModel", "no", "(ZI)Z"⟩, 40), (⟨"CallerhallModel", "dancerAt", "(II)I"⟩, 40), (⟨"CallerhallModel", "of", "(CI)LCallerhallModel$Version;"⟩, 40), (⟨"CallerhallModel", "noCall", "(C)Z"⟩, 40), (⟨"CallerhallModel", "holding", "(C)LCallerhallModel$Version;"⟩, 40), (⟨"CallerhallModel", "callOf", "(CCC)LCallerhallModel$Call;"⟩, 40), (⟨"CallerhallModel", "cannot", "(CII)I"⟩, 40), (⟨"CallerhallModel", "refuse", "(I)I"⟩, 40), (⟨"CallerhallModel", "runs", "([ILCallerhallModel$Call;I)[I"⟩, 40), (⟨"CallerhallModel", "ground", "([I)LCallerhallModel$Floor;"⟩, 40), (⟨"CallerhallModel", "raise", "(LCallerhallModel$Floor;C)LCallerhallModel$Floor;"⟩, 40), (⟨"CallerhallModel", "units", "(LCallerhallModel$Floor;C)LCallerhallModel$Floor;"⟩, 40), (⟨"CallerhallModel", "dances", "(LCallerhallModel$Floor;CCI)Z"⟩, 40), (⟨"CallerhallModel", "among", "(LCallerhallModel$Floor;C)[Z"⟩, 40), (⟨"CallerhallModel", "isOf", "(LCallerhallModel$Floor;IC)Z"⟩, 40), (⟨"CallerhallModel", "skillOf", "(LCallerhallModel$Floor;I)I"⟩, 40)]
theorem lw_r5 : ∀ q ∈ lw_privs_5, lw_okq q := List.forall_mem_cons.mpr ⟨lw_p64, List.forall_mem_cons.mpr ⟨lw_p65, List.forall_mem_cons.mpr ⟨lw_p66, List.forall_mem_cons.mpr ⟨lw_p67, List.forall_mem_cons.mpr ⟨lw_p68, List.forall_mem_cons.mpr ⟨lw_p69, List.forall_mem_cons.mpr ⟨lw_p70, List.forall_mem_cons.mpr ⟨lw_p71, List.forall_mem_cons.mpr ⟨lw_p72, List.forall_mem_cons.mpr ⟨lw_p73, List.forall_mem_cons.mpr ⟨lw_p74, List.forall_mem_cons.mpr ⟨lw_p75, List.forall_mem_cons.mpr ⟨lw_p76, List.forall_mem_cons.mpr ⟨lw_p77, List.forall_mem_cons.mpr ⟨lw_p78, List.forall_mem_cons.mpr ⟨lw_p79, fun _ h => absurd h List.not_mem_nil⟩⟩⟩⟩⟩⟩⟩⟩⟩⟩⟩⟩⟩⟩⟩⟩
theorem lw_p80 : lw_okq (⟨"CallerhallModel", "dances", "(LCallerhallModel$Floor;CIIIC[[I[I[I)V"⟩, 40) := ⟨⟨by decide +kernel, by decide +kernel⟩, List.mem_of_getElem? (i := 1594) (by decide +kernel), List.mem_of_getElem? (i := 2314) (by decide +kernel), List.mem_of_getElem? (i := 2315) (by decide +kernel)⟩
theorem lw_p81 : lw_okq (⟨"CallerhallModel", "turns", "(LCallerhallModel$Floor;II)V"⟩, 40) := ⟨⟨by decide +kernel, by decide +kernel⟩, List.mem_of_getElem? (i := 1594) (by decide +kernel), List.mem_of_getElem? (i := 2321) (by decide +kernel), List.mem_of_getElem? (i := 2322) (by decide +kernel)⟩
theorem lw_p82 : lw_okq (⟨"CallerhallModel", "counts", "(LCallerhallModel$Floor;II)V"⟩, 40) := ⟨⟨by decide +kernel, by decide +kernel⟩, List.mem_of_getElem? (i := 1594) (by decide +kernel), List.mem_of_getElem? (i := 2325) (by decide +kernel), List.mem_of_getElem? (i := 2326) (by decide +kernel)⟩
theorem lw_p83 : lw_okq (⟨"CallerhallModel", "crosses", "(LCallerhallModel$Floor;I[II)V"⟩, 40) := ⟨⟨by decide +kernel, by decide +kernel⟩, List.mem_of_getElem? (i := 1594) (by decide +kernel), List.mem_of_getElem? (i := 2329) (by decide +kernel), List.mem_of_getElem? (i := 2330) (by decide +kernel)⟩
theorem lw_p84 : lw_okq (⟨"CallerhallModel", "takes", "(LCallerhallModel$Floor;II)V"⟩, 40) := ⟨⟨by decide +kernel, by decide +kernel⟩, List.mem_of_getElem? (i := 1594) (by decide +kernel), List.mem_of_getElem? (i := 2333) (by decide +kernel), List.mem_of_getElem? (i := 2334) (by decide +kernel)⟩
theorem lw_p85 : lw_okq (⟨"CallerhallModel", "rounds", "(LCallerhallModel$Floor;III)V"⟩, 40) := ⟨⟨by decide +kernel, by decide +kernel⟩, List.mem_of_getElem? (i := 1594) (by decide +kernel), List.mem_of_getElem? (i := 2337) (by decide +kernel), List.mem_of_getElem? (i := 2338) (by decide +kernel)⟩
theorem lw_p86 : lw_okq (⟨"CallerhallModel", "parts", "(LCallerhallModel$Floor;)Z"⟩, 40) := ⟨⟨by decide +kernel, by decide +kernel⟩, List.mem_of_getElem? (i := 1594) (by decide +kernel), List.mem_of_getElem? (i := 2341) (by decide +kernel), List.mem_of_getElem? (i := 2342) (by decide +kernel)⟩
theorem lw_p87 : lw_okq (⟨"CallerhallModel", "lower", "(LCallerhallModel$Floor;)Z"⟩, 40) := ⟨⟨by decide +kernel, by decide +kernel⟩, List.mem_of_getElem? (i := 1594) (by decide +kernel), List.mem_of_getElem? (i := 2345) (by decide +kernel), List.mem_of_getElem? (i := 2346) (by decide +kernel)⟩
theorem lw_p88 : lw_okq (⟨"java/util/ArrayList", "fastRemove", "([Ljava/lang/Object;I)V"⟩, 3) := ⟨⟨by decide +kernel, by decide +kernel⟩, List.mem_of_getElem? (i := 1600) (by decide +kernel), List.mem_of_getElem? (i := 2376) (by decide +kernel), List.mem_of_getElem? (i := 2377) (by decide +kernel)⟩
theorem lw_p89 : lw_okq (⟨"CallerhallModel", "flows", "([I[I[I[I)V"⟩, 40) := ⟨⟨by decide +kernel, by decide +kernel⟩, List.mem_of_getElem? (i := 1594) (by decide +kernel), List.mem_of_getElem? (i := 2380) (by decide +kernel), List.mem_of_getElem? (i := 2381) (by decide +kernel)⟩
theorem lw_p90 : lw_okq (⟨"CallerhallModel", "beat", "(I)V"⟩, 40) := ⟨⟨by decide +kernel, by decide +kernel⟩, List.mem_of_getElem? (i := 1594) (by decide +kernel), List.mem_of_getElem? (i := 2384) (by decide +kernel), List.mem_of_getElem? (i := 2385) (by decide +kernel)⟩
theorem lw_p91 : lw_okq (⟨"CallerhallModel", "firstHands", "(LCallerhallModel$Call;I[I)V"⟩, 40) := ⟨⟨by decide +kernel, by decide +kernel⟩, List.mem_of_getElem? (i := 1594) (by decide +kernel), List.mem_of_getElem? (i := 2392) (by decide +kernel), List.mem_of_getElem? (i := 2393) (by decide +kernel)⟩
theorem lw_p92 : lw_okq (⟨"CallerhallModel", "missing", "(C)I"⟩, 40) := ⟨⟨by decide +kernel, by decide +kernel⟩, List.mem_of_getElem? (i := 1594) (by decide +kernel), List.mem_of_getElem? (i := 2457) (by decide +kernel), List.mem_of_getElem? (i := 2458) (by decide +kernel)⟩
theorem lw_p93 : lw_okq (⟨"CallerhallModel", "placesOf", "(C)[I"⟩, 40) := ⟨⟨by decide +kernel, by decide +kernel⟩, List.mem_of_getElem? (i := 1594) (by decide +kernel), List.mem_of_getElem? (i := 2461) (by decide +kernel), List.mem_of_getElem? (i := 2462) (by decide +kernel)⟩
theorem lw_p94 : lw_okq (⟨"CallerhallModel", "allHome", "([I)Z"⟩, 40) := ⟨⟨by decide +kernel, by decide +kernel⟩, List.mem_of_getElem? (i := 1594) (by decide +kernel), List.mem_of_getElem? (i := 2476) (by decide +kernel), List.mem_of_getElem? (i := 2477) (by decide +kernel)⟩
theorem lw_p95 : lw_okq (⟨"CallerhallModel", "led", "([IC)[I"⟩, 40) := ⟨⟨by decide +kernel, by decide +kernel⟩, List.mem_of_getElem? (i := 1594) (by decide +kernel), List.mem_of_getElem? (i := 2505) (by decide +kernel), List.mem_of_getElem? (i := 2506) (by decide +kernel)⟩
def lw_privs_6 : List (MethodName × Nat) := [(⟨"CallerhallModel", "dances", "(LCallerhallModel$Floor;CIIIC[[I[I[I)V"⟩, 40), (⟨"CallerhallModel", "turns", "(LCallerhallModel$Floor;II)V"⟩, 40), (⟨"CallerhallModel", "counts", "(LCallerhallModel$Floor;II)V"⟩, 40), (⟨"CallerhallModel", "crosses", "(LCallerhallModel$Floor;I[II)V"⟩, 40), (⟨"CallerhallModel", "takes", "(LCallerhallModel$Floor;II)V"⟩, 40), (⟨"CallerhallModel", "rounds", "(LCallerhallModel$Floor;III)V"⟩, 40), (⟨"CallerhallModel", "parts", "(LCallerhallModel$Floor;)Z"⟩, 40), (⟨"CallerhallModel", "lower", "(LCallerhallModel$Floor;)Z"⟩, 40), (⟨"java/util/ArrayList", "fastRemove", "([Ljava/lang/Object;I)V"⟩, 3), (⟨"CallerhallModel", "flows", "([I[I[I[I)V"⟩, 40), (⟨"CallerhallModel", "beat", "(I)V"⟩, 40), (⟨"CallerhallModel", "firstHands", "(LCallerhallModel$Call;I[I)V"⟩, 40), (⟨"CallerhallModel", "missing", "(C)I"⟩, 40), (⟨"CallerhallModel", "placesOf", "(C)[I"⟩, 40), (⟨"CallerhallModel", "allHome", "([I)Z"⟩, 40), (⟨"CallerhallModel", "led", "([IC)[I"⟩, 40)]
theorem lw_r6 : ∀ q ∈ lw_privs_6, lw_okq q := List.forall_mem_cons.mpr ⟨lw_p80, List.forall_mem_cons.mpr ⟨lw_p81, List.forall_mem_cons.mpr ⟨lw_p82, List.forall_mem_cons.mpr ⟨lw_p83, List.forall_mem_cons.mpr ⟨lw_p84, List.forall_mem_cons.mpr ⟨lw_p85, List.forall_mem_cons.mpr ⟨lw_p86, List.forall_mem_cons.mpr ⟨lw_p87, List.forall_mem_cons.mpr ⟨lw_p88, List.forall_mem_cons.mpr ⟨lw_p89, List.forall_mem_cons.mpr ⟨lw_p90, List.forall_mem_cons.mpr ⟨lw_p91, List.forall_mem_cons.mpr ⟨lw_p92, List.forall_mem_cons.mpr ⟨lw_p93, List.forall_mem_cons.mpr ⟨lw_p94, List.forall_mem_cons.mpr ⟨lw_p95, fun _ h => absurd h List.not_mem_nil⟩⟩⟩⟩⟩⟩⟩⟩⟩⟩⟩⟩⟩⟩⟩⟩
theorem lw_p96 : lw_okq (⟨"CallerhallModel", "danced", "(I)I"⟩, 40) := ⟨⟨by decide +kernel, by decide +kernel⟩, List.mem_of_getElem? (i := 1594) (by decide +kernel), List.mem_of_getElem? (i := 2542) (by decide +kernel), List.mem_of_getElem? (i := 2543) (by decide +kernel)⟩
theorem lw_p97 : lw_okq (⟨"CallerhallModel", "metOf", "(II)I"⟩, 40) := ⟨⟨by decide +kernel, by decide +kernel⟩, List.mem_of_getElem? (i := 1594) (by decide +kernel), List.mem_of_getElem? (i := 2546) (by decide +kernel), List.mem_of_getElem? (i := 2547) (by decide +kernel)⟩
def lw_privs_7 : List (MethodName × Nat) := [(⟨"CallerhallModel", "danced", "(I)I"⟩, 40), (⟨"CallerhallModel", "metOf", "(II)I"⟩, 40)]
theorem lw_r7 : ∀ q ∈ lw_privs_7, lw_okq q := List.forall_mem_cons.mpr ⟨lw_p96, List.forall_mem_cons.mpr ⟨lw_p97, fun _ h => absurd h List.not_mem_nil⟩⟩
def lw_privs : List (MethodName × Nat) := lw_privs_1 ++ (lw_privs_2 ++ (lw_privs_3 ++ (lw_privs_4 ++ (lw_privs_5 ++ (lw_privs_6 ++ (lw_privs_7))))))
def lw_tbl : List Cond := k2_sels lw_privs ++ tables_1
theorem lw_privs_ok : ∀ q ∈ lw_privs, lw_okq q := by
  show ∀ q ∈ lw_privs_1 ++ (lw_privs_2 ++ (lw_privs_3 ++ (lw_privs_4 ++ (lw_privs_5 ++ (lw_privs_6 ++ (lw_privs_7)))))), lw_okq q
  exact List.forall_mem_append.mpr ⟨lw_r1, List.forall_mem_append.mpr ⟨lw_r2, List.forall_mem_append.mpr ⟨lw_r3, List.forall_mem_append.mpr ⟨lw_r4, List.forall_mem_append.mpr ⟨lw_r5, List.forall_mem_append.mpr ⟨lw_r6, lw_r7⟩⟩⟩⟩⟩⟩
/-- the streams that the claim lets the run draw from -/
abbrev lw_cs : List Choice := [Jvm.Choice.named "NaN.bits"]
theorem lw_bits : nanBits ∈ lw_cs := by first | decide | exact List.mem_cons_self | simp [lw_cs, nanBits]
/-! the world at the law's start -/
abbrev xF : Nat → Prop := fun _ => False
def xw_FL : List Cond := flatC (Cond.and given_1 narrow_1)
def xw_O (j : Nat) : Nat := ex_get (ex_st j) 0
def xw_e (j k : Nat) : Nat := ex_get (ex_st j) (k + 1)
/-- static objects: by which terms the premises tell them -/
def xw_fl : List (Option (Nat × Term × Option FieldType)) := [none, some (236, .static "Callerhall" "ACT_LEVELS" "[I", some .int), some (220, .static "Callerhall" "ACT_PARTS" "[I", some .int), some (157, .static "Callerhall" "SHAPE_F" "[I", some .int), some (39, .static "Callerhall" "SHAPE_X" "[I", some .int), some (98, .static "Callerhall" "SHAPE_Y" "[I", some .int), some (27, .static "Callerhall" "SPOT_F" "[I", some .int), some (5, .static "Callerhall" "SPOT_X" "[I", some .int), some (16, .static "Callerhall" "SPOT_Y" "[I", some .int), some (252, .static "Callerhall" "STEP_X" "[I", some .int), some (259, .static "Callerhall" "STEP_Y" "[I", some .int), some (304, .static "CallerhallModel" "DX" "[I", some .int), some (311, .static "CallerhallModel" "DY" "[I", some .int), some (288, .static "CallerhallModel" "LEVELS" "[I", some .int), some (272, .static "CallerhallModel" "PARTS" "[I", some .int), some (268, .static "java/util/ArrayList" "DEFAULTCAPACITY_EMPTY_ELEMENTDATA" "[Ljava/lang/Object;", some (.object "java/lang/Object")), none, some (471, .string "Callerhall" 325, none), some (473, .field (.string "Callerhall" 325) "java/lang/String" "value" "[B", some .byte), some (482, .string "Callerhall" 231, none), some (484, .field (.string "Callerhall" 231) "java/lang/String" "value" "[B", some .byte), some (500, .string "Callerhall" 421, none), some (502, .field (.string "Callerhall" 421) "java/lang/String" "value" "[B", some .byte), some (514, .string "Callerhall" 427, none), some (516, .field (.string "Callerhall" 427) "java/lang/String" "value" "[B", some .byte), some (528, .string "Callerhall" 429, none), some (530, .field (.string "Callerhall" 429) "java/lang/String" "value" "[B", some .byte), some (543, .string "CallerhallModel" 193, none), some (545, .field (.string "CallerhallModel" 193) "java/lang/String" "value" "[B", some .byte), some (565, .string "CallerhallModel" 200, none), some (567, .field (.string "CallerhallModel" 200) "java/lang/String" "value" "[B", some .byte), some (582, .string "CallerhallModel" 202, none), some (584, .field (.string "CallerhallModel" 202) "java/lang/String" "value" "[B", some .byte), some (600, .string "CallerhallModel$Call" 47, none), some (602, .field (.string "CallerhallModel$Call" 47) "java/lang/String" "value" "[B", some .byte), some (625, .string "CallerhallModel" 390, none), some (627, .field (.string "CallerhallModel" 390) "java/lang/String" "value" "[B", some .byte), some (645, .string "CallerhallModel" 523, none), some (647, .field (.string "CallerhallModel" 523) "java/lang/String" "value" "[B", some .byte), some (666, .string "CallerhallModel" 542, none), some (668, .field (.string "CallerhallModel" 542) "java/lang/String" "value" "[B", some .byte), none]
/-- the words that tell a row -/
def xw_ws (tm : Term) (ty : FieldType) (n : Nat) (f : Nat → Nat) : List Cond := Cond.arrayOf tm ty :: Cond.eq (.length tm) (.int (Int32.ofNat n)) :: (List.range n).map fun k => Cond.eq (.elem tm (.int (Int32.ofNat k))) (.int (nI (f k)))
def xw_wt (tm : Term) : List Cond := [Cond.exactly tm "java/lang/String", Cond.eq (.field tm "java/lang/String" "coder" "B") (.int 0)]
def xw_ck (FL : List Cond) (j : Nat) : Option (Nat × Term × Option FieldType) → Bool
  | none => true
  | some (i, tm, some ty) => decide (ex_ty (xw_O j % 256) = ty) && decide (64 ≤ xw_O j % 256) && decide (xw_O j % 256 ≤ 71) && decide (xw_O j / 256 < 2147483648) && ((List.range (xw_O j / 256)).all fun k => decide (xw_e j k < 4294967296)) && (decide ((FL.drop i).take (xw_O j / 256 + 2) = xw_ws tm ty (xw_O j / 256) (xw_e j)) || (decide (FL[i]? = some (Cond.arrayOf tm ty)) && decide (FL[i + 2]? = some (Cond.eq (.length tm) (.int (Int32.ofNat (xw_O j / 256))))) && decide (xw_O j / 256 = 0)))
  | some (i, tm, none) => decide (xw_O j = 530) && decide (xw_e j 0 = 17179869184 + (j + 1)) && decide (xw_e j 1 = 0) && decide ((FL.drop i).take 2 = xw_wt tm) &&
      match xw_fl[j + 1]? with | some (some (_, t2, some _)) => decide (t2 = .field tm "java/lang/String" "value" "[B") | _ => false
theorem xw_c0 : (match xw_fl[0]? with | some q => xw_ck xw_FL 0 q | none => false) = true := by decide +kernel
theorem xw_c1 : (match xw_fl[1]? with | some q => xw_ck xw_FL 1 q | none => false) = true := by decide +kernel
theorem xw_c2 : (match xw_fl[2]? with | some q => xw_ck xw_FL 2 q | none => false) = true := by decide +kernel
theorem xw_c3 : (match xw_fl[3]? with | some q => xw_ck xw_FL 3 q | none => false) = true := by decide +kernel
theorem xw_c4 : (match xw_fl[4]? with | some q => xw_ck xw_FL 4 q | none => false) = true := by decide +kernel
theorem xw_c5 : (match xw_fl[5]? with | some q => xw_ck xw_FL 5 q | none => false) = true := by decide +kernel
theorem xw_c6 : (match xw_fl[6]? with | some q => xw_ck xw_FL 6 q | none => false) = true := by decide +kernel
theorem xw_c7 : (match xw_fl[7]? with | some q => xw_ck xw_FL 7 q | none => false) = true := by decide +kernel
theorem xw_c8 : (match xw_fl[8]? with | some q => xw_ck xw_FL 8 q | none => false) = true := by decide +kernel
theorem xw_c9 : (match xw_fl[9]? with | some q => xw_ck xw_FL 9 q | none => false) = true := by decide +kernel
theorem xw_c10 : (match xw_fl[10]? with | some q => xw_ck xw_FL 10 q | none => false) = true := by decide +kernel
theorem xw_c11 : (match xw_fl[11]? with | some q => xw_ck xw_FL 11 q | none => false) = true := by decide +kernel
theorem xw_c12 : (match xw_fl[12]? with | some q => xw_ck xw_FL 12 q | none => false) = true := by decide +kernel
theorem xw_c13 : (match xw_fl[13]? with | some q => xw_ck xw_FL 13 q | none => false) = true := by decide +kernel
theorem xw_c14 : (match xw_fl[14]? with | some q => xw_ck xw_FL 14 q | none => false) = true := by decide +kernel
theorem xw_c15 : (match xw_fl[15]? with | some q => xw_ck xw_FL 15 q | none => false) = true := by decide +kernel
theorem xw_c16 : (match xw_fl[16]? with | some q => xw_ck xw_FL 16 q | none => false) = true := by decide +kernel
theorem xw_c17 : (match xw_fl[17]? with | some q => xw_ck xw_FL 17 q | none => false) = true := by decide +kernel
theorem xw_c18 : (match xw_fl[18]? with | some q => xw_ck xw_FL 18 q | none => false) = true := by decide +kernel
theorem xw_c19 : (match xw_fl[19]? with | some q => xw_ck xw_FL 19 q | none => false) = true := by decide +kernel
theorem xw_c20 : (match xw_fl[20]? with | some q => xw_ck xw_FL 20 q | none => false) = true := by decide +kernel
theorem xw_c21 : (match xw_fl[21]? with | some q => xw_ck xw_FL 21 q | none => false) = true := by decide +kernel
theorem xw_c22 : (match xw_fl[22]? with | some q => xw_ck xw_FL 22 q | none => false) = true := by decide +kernel
theorem xw_c23 : (match xw_fl[23]? with | some q => xw_ck xw_FL 23 q | none => false) = true := by decide +kernel
theorem xw_c24 : (match xw_fl[24]? with | some q => xw_ck xw_FL 24 q | none => false) = true := by decide +kernel
theorem xw_c25 : (match xw_fl[25]? with | some q => xw_ck xw_FL 25 q | none => false) = true := by decide +kernel
theorem xw_c26 : (match xw_fl[26]? with | some q => xw_ck xw_FL 26 q | none => false) = true := by decide +kernel
theorem xw_c27 : (match xw_fl[27]? with | some q => xw_ck xw_FL 27 q | none => false) = true := by decide +kernel
theorem xw_c28 : (match xw_fl[28]? with | some q => xw_ck xw_FL 28 q | none => false) = true := by decide +kernel
theorem xw_c29 : (match xw_fl[29]? with | some q => xw_ck xw_FL 29 q | none => false) = true := by decide +kernel
theorem xw_c30 : (match xw_fl[30]? with | some q => xw_ck xw_FL 30 q | none => false) = true := by decide +kernel
theorem xw_c31 : (match xw_fl[31]? with | some q => xw_ck xw_FL 31 q | none => false) = true := by decide +kernel
theorem xw_c32 : (match xw_fl[32]? with | some q => xw_ck xw_FL 32 q | none => false) = true := by decide +kernel
theorem xw_c33 : (match xw_fl[33]? with | some q => xw_ck xw_FL 33 q | none => false) = true := by decide +kernel
theorem xw_c34 : (match xw_fl[34]? with | some q => xw_ck xw_FL 34 q | none => false) = true := by decide +kernel
theorem xw_c35 : (match xw_fl[35]? with | some q => xw_ck xw_FL 35 q | none => false) = true := by decide +kernel
theorem xw_c36 : (match xw_fl[36]? with | some q => xw_ck xw_FL 36 q | none => false) = true := by decide +kernel
theorem xw_c37 : (match xw_fl[37]? with | some q => xw_ck xw_FL 37 q | none => false) = true := by decide +kernel
theorem xw_c38 : (match xw_fl[38]? with | some q => xw_ck xw_FL 38 q | none => false) = true := by decide +kernel
theorem xw_c39 : (match xw_fl[39]? with | some q => xw_ck xw_FL 39 q | none => false) = true := by decide +kernel
theorem xw_c40 : (match xw_fl[40]? with | some q => xw_ck xw_FL 40 q | none => false) = true := by decide +kernel
theorem xw_c41 : (match xw_fl[41]? with | some q => xw_ck xw_FL 41 q | none => false) = true := by decide +kernel
theorem xw_cks : ∀ j, j < 42 → (match xw_fl[j]? with | some q => xw_ck xw_FL j q | none => false) = true := by
  intro j hj
  match j, hj with
  | 0, _ => exact xw_c0
  | 1, _ => exact xw_c1
  | 2, _ => exact xw_c2
  | 3, _ => exact xw_c3
  | 4, _ => exact xw_c4
  | 5, _ => exact xw_c5
  | 6, _ => exact xw_c6
  | 7, _ => exact xw_c7
  | 8, _ => exact xw_c8
  | 9, _ => exact xw_c9
  | 10, _ => exact xw_c10
  | 11, _ => exact xw_c11
  | 12, _ => exact xw_c12
  | 13, _ => exact xw_c13
  | 14, _ => exact xw_c14
  | 15, _ => exact xw_c15
  | 16, _ => exact xw_c16
  | 17, _ => exact xw_c17
  | 18, _ => exact xw_c18
  | 19, _ => exact xw_c19
  | 20, _ => exact xw_c20
  | 21, _ => exact xw_c21
  | 22, _ => exact xw_c22
  | 23, _ => exact xw_c23
  | 24, _ => exact xw_c24
  | 25, _ => exact xw_c25
  | 26, _ => exact xw_c26
  | 27, _ => exact xw_c27
  | 28, _ => exact xw_c28
  | 29, _ => exact xw_c29
  | 30, _ => exact xw_c30
  | 31, _ => exact xw_c31
  | 32, _ => exact xw_c32
  | 33, _ => exact xw_c33
  | 34, _ => exact xw_c34
  | 35, _ => exact xw_c35
  | 36, _ => exact xw_c36
  | 37, _ => exact xw_c37
  | 38, _ => exact xw_c38
  | 39, _ => exact xw_c39
  | 40, _ => exact xw_c40
  | 41, _ => exact xw_c41
  | j + 42, h => omega
theorem xw_mem {FL ws : List Cond} {i n : Nat} (h : (FL.drop i).take n = ws) {w : Cond} (hw : w ∈ ws) : w ∈ FL := List.mem_of_mem_drop (List.mem_of_mem_take (h ▸ hw))
theorem xw_mem2 {FL : List Cond} {i n : Nat} {tm : Term} {ty : FieldType} {f : Nat → Nat} (h : (FL.drop i).take (n + 2) = xw_ws tm ty n f ∨ (FL[i]? = some (Cond.arrayOf tm ty) ∧ FL[i + 2]? = some (Cond.eq (.length tm) (.int (Int32.ofNat n)))) ∧ n = 0) {w : Cond} (hw : w ∈ xw_ws tm ty n f) : w ∈ FL := by
  rcases h with h | ⟨⟨h1, h2⟩, h3⟩
  · exact xw_mem h hw
  · subst h3
    rcases List.mem_cons.mp hw with e | hw
    · subst e; exact List.mem_of_getElem? h1
    · rcases List.mem_cons.mp hw with e | hw
      · subst e; exact List.mem_of_getElem? h2
      · cases hw
theorem xw_noS {c : Cell} {s : State} {ty : FieldType} (h : s.isArrayOf c ty) : c.vm.isStatics = false := by
  cases hv : c.vm <;> first | rfl | exact absurd hv (h.1 _)
/-- a row's cell -/
theorem xw_ROa {E : ex_G} {ad : Nat → Nat} {s : State} {O a : Nat} {ty : FieldType} {f : Nat → Value} (h1 : 64 ≤ ex_get O 0 % 256) (ht : ex_ty (ex_get O 0 % 256) = ty) (hn : ex_get O 0 / 256 < 2147483648) (he : ∀ k, k < ex_get O 0 / 256 → ex_v E ad (ex_get O (k + 1)) = f k)
    (h : va_T ty a (ex_get O 0 / 256) f xF s s.heap) : ex_RO E ad s O s.heap a := by
  obtain ⟨cell, e1, e2, e3, e4, e5, e6, -⟩ := h
  refine ⟨cell, e1, e3, xw_noS e2, fun z => absurd z (by omega), fun _ _ => ⟨by rw [ht]; exact e2, e4, e5, hn, fun k hk => ?_⟩⟩
  rw [he k hk]
  exact e6 k hk
theorem xw_ROs {E : ex_G} {ad : Nat → Nat} {s : State} {O a t j : Nat} (hO : ex_get O 0 = 530) (h1 : ex_get O 1 = 17179869184 + (j + 1)) (h2 : ex_get O 2 = 0) (hj : j < 100) (hK : u_Kn s "java/lang/String" TF18 2 (E.1.1 18) (E.1.2 18)) (hE : E.2.2.1 (j + 1) = .ref t)
    (hO1 : va_O "java/lang/String" a xF s s.heap) (hc : va_OF "java/lang/String" "coder" "B" (.int 0) a xF s s.heap) (hv : va_OF "java/lang/String" "value" "[B" (.ref t) a xF s s.heap) : ex_RO E ad s O s.heap a := by
  obtain ⟨cell, e1, e2, e3, -⟩ := hO1
  obtain ⟨hS, hfc, -⟩ := hK
  refine ⟨cell, e1, ?_, e2, fun _ => ⟨("java/lang/String", TF18, 2), ?_, ?_, ?_, fun k hk => ?_⟩, fun z => absurd z (by rw [hO]; decide)⟩
  · obtain ⟨_, _, _, _, c2, _, _, g3, g4, -⟩ := hc
    rw [e1] at g3; cases g3; exact g4
  · rw [hO]; rfl
  · rw [hO]
  · rw [hO]; exact Option.some.inj (e3.symm.trans hfc)
  · rw [hO] at hk ⊢
    have hk' : k = 0 ∨ k = 1 := by omega
    rcases hk' with rfl | rfl
    · obtain ⟨cf, kf, i, f, c2, g1, -, g3, -, g5, -⟩ := hv
      obtain ⟨cf', kf', i', f', q1, q2⟩ := hS 0 (by decide)
      have q1 : s.fieldFound? "java/lang/String" "value" "[B" = some (cf', kf', i', f') := q1
      rw [g1] at q1; cases q1
      rw [e1] at g3; cases g3
      show cell.slots[E.1.2 18 0]? = _
      rw [← q2, g5, show ex_get O (0 + 1) = 17179869184 + (j + 1) from h1]
      rw [ex_v_S (by omega) (by omega), show 17179869184 + (j + 1) - 17179869184 = j + 1 by omega, hE]
    · obtain ⟨cf, kf, i, f, c2, g1, -, g3, -, g5, -⟩ := hc
      obtain ⟨cf', kf', i', f', q1, q2⟩ := hS 1 (by decide)
      have q1 : s.fieldFound? "java/lang/String" "coder" "B" = some (cf', kf', i', f') := q1
      rw [g1] at q1; cases q1
      rw [e1] at g3; cases g3
      show cell.slots[E.1.2 18 1]? = _
      rw [← q2, g5, show ex_get O (1 + 1) = 0 from h2]
      rfl
theorem xw_ROc {E : ex_G} {ad : Nat → Nat} {s : State} {O a i : Nat} (hO : ex_get O 0 = 275) (h1 : ex_get O 1 = i) (hi : i < 128) (hK : u_Kn s "java/lang/Character" TF19 1 (E.1.1 19) (E.1.2 19))
    (hO1 : va_O "java/lang/Character" a xF s s.heap) (hv : va_OF "java/lang/Character" "value" "C" (.int (nI i)) a xF s s.heap) : ex_RO E ad s O s.heap a := by
  obtain ⟨cell, e1, e2, e3, -⟩ := hO1
  obtain ⟨hS, hfc, -⟩ := hK
  refine ⟨cell, e1, ?_, e2, fun _ => ⟨("java/lang/Character", TF19, 1), ?_, ?_, ?_, fun k hk => ?_⟩, fun z => absurd z (by rw [hO]; decide)⟩
  · obtain ⟨_, _, _, _, c2, _, _, g3, g4, -⟩ := hv
    rw [e1] at g3; cases g3; exact g4
  · rw [hO]; rfl
  · rw [hO]
  · rw [hO]; exact Option.some.inj (e3.symm.trans hfc)
  · rw [hO] at hk ⊢
    have hk' : k = 0 := by omega
    subst hk'
    obtain ⟨cf, kf, i, f, c2, g1, -, g3, -, g5, -⟩ := hv
    obtain ⟨cf', kf', i', f', q1, q2⟩ := hS 0 (by decide)
    have q1 : s.fieldFound? "java/lang/Character" "value" "C" = some (cf', kf', i', f') := q1
    rw [g1] at q1; cases q1
    rw [e1] at g3; cases g3
    show cell.slots[E.1.2 19 0]? = _
    rw [← q2, g5, show ex_get O (0 + 1) = _ from h1, ex_v_n (by omega)]
/-- the cached characters -/
theorem xw_Cof {args : Array Value} {s : State} {st : Term} (hc : st.closed = true) (hlen : (Term.length st).eval args s none [] s = some (.int (Int32.ofNat 128)))
    (hall : (Cond.all st (.and (.exactly (.elem st (.index 0)) "java/lang/Character") (.eq (.field (.elem st (.index 0)) "java/lang/Character" "value" "C") (.add (.index 0) (.int 0))))).before args s = true) (hA : ∀ a : Nat, a < s.heap.size → ¬ xF a) :
    ∃ ad : Nat → Nat, (∀ k, k < 128 → va_O "java/lang/Character" (ad k) xF s s.heap ∧ va_OF "java/lang/Character" "value" "C" (.int (nI k)) (ad k) xF s s.heap) ∧ ∀ j : Nat, j < 128 → (Term.elem st (.int (Int32.ofNat j))).eval args s none [] s = some (.ref (ad j)) := by
  obtain ⟨b, cell, ht, hat, hv⟩ := Term.length_spec hlen
  have hsz : ∀ k : Nat, k < 128 → k < cell.slots.size := by
    intro k hk
    apply Nat.not_le.mp
    intro hle
    have e : Int32.ofNat cell.slots.size = Int32.ofNat 128 := (Value.int.inj hv).symm
    have h1 : (Int32.ofNat cell.slots.size).toNatClampNeg = cell.slots.size := Int32.toNatClampNeg_ofNat_of_lt (by omega)
    have h2 : (Int32.ofNat 128).toNatClampNeg = 128 := Int32.toNatClampNeg_ofNat_of_lt (by omega)
    rw [e, h2] at h1
    omega
  have hall' := Cond.all_elim ht hat (by simpa [Cond.before, Cond.holds] using hall)
  have h0 : ∀ k : Nat, ∃ a : Nat, k < 128 → (Term.elem st (.int (Int32.ofNat k))).eval args s none [] s = some (.ref a) ∧ va_O "java/lang/Character" a xF s s.heap ∧ va_OF "java/lang/Character" "value" "C" (.int (nI k)) a xF s s.heap := by
    intro k
    by_cases hk : k < 128
    · obtain ⟨hE, hF⟩ := va_andE (hall' k (hsz k hk))
      obtain ⟨a, c, cA, kA, q1, q2, q3, q4, q5, q6, -⟩ := Cond.exactly_spec (args := args) (first := s) (o := none) (s := s) (idx := [k]) (t := .elem st (.index 0)) (cls := "java/lang/Character") (by simp [Cond.holds, hE])
      have hfv := va_eqI hF (v := .int (nI k)) (by simp [Term.eval, nI])
      refine ⟨a, fun _ => ⟨?_, ⟨cA, q3, q5, by rw [q6]; exact q2, hA a (Array.getElem?_eq_some_iff.mp q3).1⟩, ?_⟩⟩
      · rw [← q1]
        simp only [Term.eval, Term.eval_closed none [k] st s hc]
        rfl
      · cases hfo : s.fieldFound? "java/lang/Character" "value" "C" with
        | none =>
          rw [va_fe q1] at hfv
          simp [State.fieldOf?, State.fieldNamed?, hfo] at hfv
        | some x =>
          obtain ⟨cf, kf, fi, f⟩ := x
          obtain ⟨g1, cell2, g2, g3, -, -, g6⟩ := Term.field_spec hfo q1 hfv
          exact ⟨cf, kf, fi, f, cell2, hfo, g1, g2, g3, g6, hA _ (Array.getElem?_eq_some_iff.mp g2).1⟩
    · exact ⟨0, fun h => absurd h hk⟩
  obtain ⟨ad, had⟩ := Classical.axiomOfChoice h0
  exact ⟨ad, fun k hk => (had k hk).2, fun k hk => (had k hk).1⟩
theorem xw_arr {s : State} {cA : ClassId} {ty : FieldType} {k : Class} {comp : ClassId} (h1 : s.vm.classes[cA]? = some k) (h2 : k.kind = .array comp ty) : ArrOfT s cA ty := fun _ _ => ⟨fun _ h => (by cases h), k, h1, comp, h2⟩
/-- what is known of a static object -/
def xw_P (args : Array Value) (s : State) (j a : Nat) : Option (Nat × Term × Option FieldType) → Prop
  | none => True
  | some (_, tm, some ty) => tm.eval args s none [] s = some (.ref a) ∧ va_T ty a (xw_O j / 256) (fun k => .int (nI (xw_e j k))) xF s s.heap
  | some (_, tm, none) => tm.eval args s none [] s = some (.ref a) ∧ va_O "java/lang/String" a xF s s.heap ∧ va_OF "java/lang/String" "coder" "B" (.int 0) a xF s s.heap
theorem xw_get {args : Array Value} {s : State} (hf : ∀ w ∈ xw_FL, w.before args s = true) (j : Nat) : ∃ a, ∀ q, xw_fl[j]? = some q → xw_P args s j a q := by
  cases hq : xw_fl[j]? with
  | none => exact ⟨0, fun q h => nomatch h⟩
  | some q =>
    have hj : j < 42 := (List.getElem?_eq_some_iff.mp hq).1
    have hc := xw_cks j hj
    rw [hq] at hc
    have hc : xw_ck xw_FL j q = true := hc
    have hA : ∀ a : Nat, a < s.heap.size → ¬ xF a := fun _ _ h => h
    match q, hq, hc with
    | none, _, _ => exact ⟨0, fun q h => by cases h; trivial⟩
    | some (i, tm, some ty), _, hc =>
      simp only [xw_ck, Bool.and_eq_true, Bool.or_eq_true, decide_eq_true_eq] at hc
      obtain ⟨⟨⟨⟨⟨h1, h2⟩, h3⟩, h4⟩, h5⟩, h6⟩ := hc
      obtain ⟨t, e1, e2⟩ := va_Tof (f := fun k => .int (nI (xw_e j k))) (A := xF) (N := xw_O j / 256) (tm := tm) (ty := ty) h4 (hf _ (xw_mem2 h6 List.mem_cons_self)) (va_eqt (hf _ (xw_mem2 h6 (List.mem_cons_of_mem _ List.mem_cons_self)))) (fun k hk => va_eqt (hf _ (xw_mem2 h6 (List.mem_cons_of_mem _ (List.mem_cons_of_mem _ (List.mem_map.mpr ⟨k, List.mem_range.mpr hk, rfl⟩)))))) hA
      exact ⟨t, fun q h => by cases h; exact ⟨e1, e2⟩⟩
    | some (i, tm, none), _, hc =>
      simp only [xw_ck, Bool.and_eq_true, decide_eq_true_eq] at hc
      obtain ⟨⟨⟨⟨h1, h2⟩, h3⟩, h4⟩, h6⟩ := hc
      have h4a := hf _ (xw_mem h4 List.mem_cons_self)
      have h4b := hf _ (xw_mem h4 (List.mem_cons_of_mem _ List.mem_cons_self))
      obtain ⟨a, c, cA, kA, q1, q2, q3, q4, q5, q6, -⟩ := Cond.exactly_spec (args := args) (first := s) (o := none) (s := s) (idx := []) (t := tm) (cls := "java/lang/String") h4a
      exact ⟨a, fun q h => by cases h; exact ⟨q1, va_Oof h4a q1 hA, vk_OFof q1 (va_eqt h4b) hA⟩⟩

/-- the static objects, with the script's words -/
def xw_S (O : Nat) : Nat → Nat := fun j => @Bool.rec (fun _ => Nat) (ex_st j) O (Nat.beq j 0)
theorem xw_S0 {O : Nat} : xw_S O 0 = O := rfl
theorem xw_Sj {O j : Nat} (h : j ≠ 0) : xw_S O j = ex_st j := by
  unfold xw_S
  cases e : Nat.beq j 0 with
  | true => exact absurd (Nat.eq_of_beq_eq_true e) h
  | false => rfl
end
