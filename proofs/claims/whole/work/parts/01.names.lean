/-- a private method of a class that the tables say can be made, by its rows of tables_1 -/
def lw_okq (q : MethodName × Nat) : Prop := (q.1.cls ≠ "java/lang/invoke/MethodHandle" ∧ q.1.cls ≠ "java/lang/invoke/VarHandle") ∧ Cond.instantiable q.1.cls q.2 ∈ tables_1 ∧ Cond.privateMethod q.1 ∈ tables_1 ∧ Cond.instanceMethod q.1 ∈ tables_1
theorem lw_p0 : lw_okq (⟨"MeanRoads", "putBytes", "(I)V"⟩, 16) := ⟨⟨by decide +kernel, by decide +kernel⟩, List.mem_of_getElem? (i := 24) (by decide +kernel), List.mem_of_getElem? (i := 433) (by decide +kernel), List.mem_of_getElem? (i := 434) (by decide +kernel)⟩
theorem lw_p1 : lw_okq (⟨"MeanRoads$Reader", "expect", "(Ljava/lang/String;)V"⟩, 15) := ⟨⟨by decide +kernel, by decide +kernel⟩, List.mem_of_getElem? (i := 32) (by decide +kernel), List.mem_of_getElem? (i := 549) (by decide +kernel), List.mem_of_getElem? (i := 550) (by decide +kernel)⟩
theorem lw_p2 : lw_okq (⟨"MeanRoads$Reader", "refuse", "(I)V"⟩, 15) := ⟨⟨by decide +kernel, by decide +kernel⟩, List.mem_of_getElem? (i := 32) (by decide +kernel), List.mem_of_getElem? (i := 579) (by decide +kernel), List.mem_of_getElem? (i := 580) (by decide +kernel)⟩
theorem lw_p3 : lw_okq (⟨"MeanRoads$Reader", "number", "(I)I"⟩, 15) := ⟨⟨by decide +kernel, by decide +kernel⟩, List.mem_of_getElem? (i := 32) (by decide +kernel), List.mem_of_getElem? (i := 588) (by decide +kernel), List.mem_of_getElem? (i := 589) (by decide +kernel)⟩
theorem lw_p4 : lw_okq (⟨"MeanRoads$Reader", "readLine", "()V"⟩, 15) := ⟨⟨by decide +kernel, by decide +kernel⟩, List.mem_of_getElem? (i := 32) (by decide +kernel), List.mem_of_getElem? (i := 601) (by decide +kernel), List.mem_of_getElem? (i := 602) (by decide +kernel)⟩
theorem lw_p5 : lw_okq (⟨"MeanRoads$Reader", "readPlace", "()V"⟩, 15) := ⟨⟨by decide +kernel, by decide +kernel⟩, List.mem_of_getElem? (i := 32) (by decide +kernel), List.mem_of_getElem? (i := 606) (by decide +kernel), List.mem_of_getElem? (i := 607) (by decide +kernel)⟩
theorem lw_p6 : lw_okq (⟨"MeanRoads$Reader", "take", "(Ljava/lang/String;)Z"⟩, 15) := ⟨⟨by decide +kernel, by decide +kernel⟩, List.mem_of_getElem? (i := 32) (by decide +kernel), List.mem_of_getElem? (i := 611) (by decide +kernel), List.mem_of_getElem? (i := 612) (by decide +kernel)⟩
theorem lw_p7 : lw_okq (⟨"MeanRoads$Reader", "readRoad", "()V"⟩, 15) := ⟨⟨by decide +kernel, by decide +kernel⟩, List.mem_of_getElem? (i := 32) (by decide +kernel), List.mem_of_getElem? (i := 617) (by decide +kernel), List.mem_of_getElem? (i := 618) (by decide +kernel)⟩
theorem lw_p8 : lw_okq (⟨"MeanRoads$Reader", "beginLaw", "(LMeanRoads$Law;)V"⟩, 15) := ⟨⟨by decide +kernel, by decide +kernel⟩, List.mem_of_getElem? (i := 32) (by decide +kernel), List.mem_of_getElem? (i := 624) (by decide +kernel), List.mem_of_getElem? (i := 625) (by decide +kernel)⟩
theorem lw_p9 : lw_okq (⟨"MeanRoads$Reader", "sum", "(I)V"⟩, 15) := ⟨⟨by decide +kernel, by decide +kernel⟩, List.mem_of_getElem? (i := 32) (by decide +kernel), List.mem_of_getElem? (i := 629) (by decide +kernel), List.mem_of_getElem? (i := 630) (by decide +kernel)⟩
theorem lw_p10 : lw_okq (⟨"MeanRoads$Reader", "term", "(I)V"⟩, 15) := ⟨⟨by decide +kernel, by decide +kernel⟩, List.mem_of_getElem? (i := 32) (by decide +kernel), List.mem_of_getElem? (i := 633) (by decide +kernel), List.mem_of_getElem? (i := 634) (by decide +kernel)⟩
theorem lw_p11 : lw_okq (⟨"MeanRoads$Reader", "atom", "(I)V"⟩, 15) := ⟨⟨by decide +kernel, by decide +kernel⟩, List.mem_of_getElem? (i := 32) (by decide +kernel), List.mem_of_getElem? (i := 637) (by decide +kernel), List.mem_of_getElem? (i := 638) (by decide +kernel)⟩
theorem lw_p12 : lw_okq (⟨"MeanRoads$Reader", "mayDeepen", "(I)Z"⟩, 15) := ⟨⟨by decide +kernel, by decide +kernel⟩, List.mem_of_getElem? (i := 32) (by decide +kernel), List.mem_of_getElem? (i := 646) (by decide +kernel), List.mem_of_getElem? (i := 647) (by decide +kernel)⟩
theorem lw_p13 : lw_okq (⟨"MeanRoads$Reader", "choice", "(I)V"⟩, 15) := ⟨⟨by decide +kernel, by decide +kernel⟩, List.mem_of_getElem? (i := 32) (by decide +kernel), List.mem_of_getElem? (i := 652) (by decide +kernel), List.mem_of_getElem? (i := 653) (by decide +kernel)⟩
theorem lw_p14 : lw_okq (⟨"MeanRoads$Reader", "truth", "(I)V"⟩, 15) := ⟨⟨by decide +kernel, by decide +kernel⟩, List.mem_of_getElem? (i := 32) (by decide +kernel), List.mem_of_getElem? (i := 656) (by decide +kernel), List.mem_of_getElem? (i := 657) (by decide +kernel)⟩
theorem lw_p15 : lw_okq (⟨"MeanRoads$Reader", "both", "(I)V"⟩, 15) := ⟨⟨by decide +kernel, by decide +kernel⟩, List.mem_of_getElem? (i := 32) (by decide +kernel), List.mem_of_getElem? (i := 660) (by decide +kernel), List.mem_of_getElem? (i := 661) (by decide +kernel)⟩
def lw_privs_1 : List (MethodName × Nat) := [(⟨"MeanRoads", "putBytes", "(I)V"⟩, 16), (⟨"MeanRoads$Reader", "expect", "(Ljava/lang/String;)V"⟩, 15), (⟨"MeanRoads$Reader", "refuse", "(I)V"⟩, 15), (⟨"MeanRoads$Reader", "number", "(I)I"⟩, 15), (⟨"MeanRoads$Reader", "readLine", "()V"⟩, 15), (⟨"MeanRoads$Reader", "readPlace", "()V"⟩, 15), (⟨"MeanRoads$Reader", "take", "(Ljava/lang/String;)Z"⟩, 15), (⟨"MeanRoads$Reader", "readRoad", "()V"⟩, 15), (⟨"MeanRoads$Reader", "beginLaw", "(LMeanRoads$Law;)V"⟩, 15), (⟨"MeanRoads$Reader", "sum", "(I)V"⟩, 15), (⟨"MeanRoads$Reader", "term", "(I)V"⟩, 15), (⟨"MeanRoads$Reader", "atom", "(I)V"⟩, 15), (⟨"MeanRoads$Reader", "mayDeepen", "(I)Z"⟩, 15), (⟨"MeanRoads$Reader", "choice", "(I)V"⟩, 15), (⟨"MeanRoads$Reader", "truth", "(I)V"⟩, 15), (⟨"MeanRoads$Reader", "both", "(I)V"⟩, 15)]
theorem lw_r1 : ∀ q ∈ lw_privs_1, lw_okq q := List.forall_mem_cons.mpr ⟨lw_p0, List.forall_mem_cons.mpr ⟨lw_p1, List.forall_mem_cons.mpr ⟨lw_p2, List.forall_mem_cons.mpr ⟨lw_p3, List.forall_mem_cons.mpr ⟨lw_p4, List.forall_mem_cons.mpr ⟨lw_p5, List.forall_mem_cons.mpr ⟨lw_p6, List.forall_mem_cons.mpr ⟨lw_p7, List.forall_mem_cons.mpr ⟨lw_p8, List.forall_mem_cons.mpr ⟨lw_p9, List.forall_mem_cons.mpr ⟨lw_p10, List.forall_mem_cons.mpr ⟨lw_p11, List.forall_mem_cons.mpr ⟨lw_p12, List.forall_mem_cons.mpr ⟨lw_p13, List.forall_mem_cons.mpr ⟨lw_p14, List.forall_mem_cons.mpr ⟨lw_p15, fun _ h => absurd h List.not_mem_nil⟩⟩⟩⟩⟩⟩⟩⟩⟩⟩⟩⟩⟩⟩⟩⟩
theorem lw_p16 : lw_okq (⟨"MeanRoads$Reader", "unit", "(I)V"⟩, 15) := ⟨⟨by decide +kernel, by decide +kernel⟩, List.mem_of_getElem? (i := 32) (by decide +kernel), List.mem_of_getElem? (i := 664) (by decide +kernel), List.mem_of_getElem? (i := 665) (by decide +kernel)⟩
theorem lw_p17 : lw_okq (⟨"MeanRoads$Reader", "comparison", "()I"⟩, 15) := ⟨⟨by decide +kernel, by decide +kernel⟩, List.mem_of_getElem? (i := 32) (by decide +kernel), List.mem_of_getElem? (i := 671) (by decide +kernel), List.mem_of_getElem? (i := 672) (by decide +kernel)⟩
theorem lw_p18 : lw_okq (⟨"MeanRoads$Reader", "nameCode", "()I"⟩, 15) := ⟨⟨by decide +kernel, by decide +kernel⟩, List.mem_of_getElem? (i := 32) (by decide +kernel), List.mem_of_getElem? (i := 683) (by decide +kernel), List.mem_of_getElem? (i := 684) (by decide +kernel)⟩
theorem lw_p19 : lw_okq (⟨"MeanRoads$Reader", "settleRoad", "(LMeanRoads$Land;II)V"⟩, 15) := ⟨⟨by decide +kernel, by decide +kernel⟩, List.mem_of_getElem? (i := 32) (by decide +kernel), List.mem_of_getElem? (i := 703) (by decide +kernel), List.mem_of_getElem? (i := 704) (by decide +kernel)⟩
theorem lw_p20 : lw_okq (⟨"MeanRoads$Law", "push", "(I)V"⟩, 4) := ⟨⟨by decide +kernel, by decide +kernel⟩, List.mem_of_getElem? (i := 66) (by decide +kernel), List.mem_of_getElem? (i := 711) (by decide +kernel), List.mem_of_getElem? (i := 712) (by decide +kernel)⟩
theorem lw_p21 : lw_okq (⟨"MeanRoads$Law", "pop", "()I"⟩, 4) := ⟨⟨by decide +kernel, by decide +kernel⟩, List.mem_of_getElem? (i := 66) (by decide +kernel), List.mem_of_getElem? (i := 715) (by decide +kernel), List.mem_of_getElem? (i := 716) (by decide +kernel)⟩
theorem lw_p22 : lw_okq (⟨"MeanRoads$Law", "choose", "()V"⟩, 4) := ⟨⟨by decide +kernel, by decide +kernel⟩, List.mem_of_getElem? (i := 66) (by decide +kernel), List.mem_of_getElem? (i := 719) (by decide +kernel), List.mem_of_getElem? (i := 720) (by decide +kernel)⟩
theorem lw_p23 : lw_okq (⟨"MeanRoads$Game", "weighPlans", "(LMeanRoads$Land;LMeanRoads$Survey;I[I)V"⟩, 7) := ⟨⟨by decide +kernel, by decide +kernel⟩, List.mem_of_getElem? (i := 285) (by decide +kernel), List.mem_of_getElem? (i := 900) (by decide +kernel), List.mem_of_getElem? (i := 901) (by decide +kernel)⟩
theorem lw_p24 : lw_okq (⟨"MeanRoads$Game", "firstPlan", "(LMeanRoads$Land;I[I)V"⟩, 7) := ⟨⟨by decide +kernel, by decide +kernel⟩, List.mem_of_getElem? (i := 285) (by decide +kernel), List.mem_of_getElem? (i := 904) (by decide +kernel), List.mem_of_getElem? (i := 905) (by decide +kernel)⟩
theorem lw_p25 : lw_okq (⟨"MeanRoads$Survey", "placeCount", "()I"⟩, 10) := ⟨⟨by decide +kernel, by decide +kernel⟩, List.mem_of_getElem? (i := 243) (by decide +kernel), List.mem_of_getElem? (i := 920) (by decide +kernel), List.mem_of_getElem? (i := 921) (by decide +kernel)⟩
theorem lw_p26 : lw_okq (⟨"MeanRoads$Survey", "walk", "(IIII)V"⟩, 10) := ⟨⟨by decide +kernel, by decide +kernel⟩, List.mem_of_getElem? (i := 243) (by decide +kernel), List.mem_of_getElem? (i := 925) (by decide +kernel), List.mem_of_getElem? (i := 926) (by decide +kernel)⟩
theorem lw_p27 : lw_okq (⟨"MeanRoads$Survey", "note", "(II)V"⟩, 10) := ⟨⟨by decide +kernel, by decide +kernel⟩, List.mem_of_getElem? (i := 243) (by decide +kernel), List.mem_of_getElem? (i := 931) (by decide +kernel), List.mem_of_getElem? (i := 932) (by decide +kernel)⟩
theorem lw_p28 : lw_okq (⟨"MeanRoads$Survey", "reachAll", "(I)V"⟩, 10) := ⟨⟨by decide +kernel, by decide +kernel⟩, List.mem_of_getElem? (i := 243) (by decide +kernel), List.mem_of_getElem? (i := 936) (by decide +kernel), List.mem_of_getElem? (i := 937) (by decide +kernel)⟩
theorem lw_p29 : lw_okq (⟨"MeanRoads$Survey", "gather", "(II)V"⟩, 10) := ⟨⟨by decide +kernel, by decide +kernel⟩, List.mem_of_getElem? (i := 243) (by decide +kernel), List.mem_of_getElem? (i := 940) (by decide +kernel), List.mem_of_getElem? (i := 941) (by decide +kernel)⟩
theorem lw_p30 : lw_okq (⟨"MeanRoads$Game", "raiseValues", "(LMeanRoads$Land;LMeanRoads$Survey;I[I)Z"⟩, 7) := ⟨⟨by decide +kernel, by decide +kernel⟩, List.mem_of_getElem? (i := 285) (by decide +kernel), List.mem_of_getElem? (i := 944) (by decide +kernel), List.mem_of_getElem? (i := 945) (by decide +kernel)⟩
theorem lw_p31 : lw_okq (⟨"MeanRoads$Game", "isBestSoFar", "(LMeanRoads$Land;LMeanRoads$Survey;I)Z"⟩, 7) := ⟨⟨by decide +kernel, by decide +kernel⟩, List.mem_of_getElem? (i := 285) (by decide +kernel), List.mem_of_getElem? (i := 952) (by decide +kernel), List.mem_of_getElem? (i := 953) (by decide +kernel)⟩
def lw_privs_2 : List (MethodName × Nat) := [(⟨"MeanRoads$Reader", "unit", "(I)V"⟩, 15), (⟨"MeanRoads$Reader", "comparison", "()I"⟩, 15), (⟨"MeanRoads$Reader", "nameCode", "()I"⟩, 15), (⟨"MeanRoads$Reader", "settleRoad", "(LMeanRoads$Land;II)V"⟩, 15), (⟨"MeanRoads$Law", "push", "(I)V"⟩, 4), (⟨"MeanRoads$Law", "pop", "()I"⟩, 4), (⟨"MeanRoads$Law", "choose", "()V"⟩, 4), (⟨"MeanRoads$Game", "weighPlans", "(LMeanRoads$Land;LMeanRoads$Survey;I[I)V"⟩, 7), (⟨"MeanRoads$Game", "firstPlan", "(LMeanRoads$Land;I[I)V"⟩, 7), (⟨"MeanRoads$Survey", "placeCount", "()I"⟩, 10), (⟨"MeanRoads$Survey", "walk", "(IIII)V"⟩, 10), (⟨"MeanRoads$Survey", "note", "(II)V"⟩, 10), (⟨"MeanRoads$Survey", "reachAll", "(I)V"⟩, 10), (⟨"MeanRoads$Survey", "gather", "(II)V"⟩, 10), (⟨"MeanRoads$Game", "raiseValues", "(LMeanRoads$Land;LMeanRoads$Survey;I[I)Z"⟩, 7), (⟨"MeanRoads$Game", "isBestSoFar", "(LMeanRoads$Land;LMeanRoads$Survey;I)Z"⟩, 7)]
theorem lw_r2 : ∀ q ∈ lw_privs_2, lw_okq q := List.forall_mem_cons.mpr ⟨lw_p16, List.forall_mem_cons.mpr ⟨lw_p17, List.forall_mem_cons.mpr ⟨lw_p18, List.forall_mem_cons.mpr ⟨lw_p19, List.forall_mem_cons.mpr ⟨lw_p20, List.forall_mem_cons.mpr ⟨lw_p21, List.forall_mem_cons.mpr ⟨lw_p22, List.forall_mem_cons.mpr ⟨lw_p23, List.forall_mem_cons.mpr ⟨lw_p24, List.forall_mem_cons.mpr ⟨lw_p25, List.forall_mem_cons.mpr ⟨lw_p26, List.forall_mem_cons.mpr ⟨lw_p27, List.forall_mem_cons.mpr ⟨lw_p28, List.forall_mem_cons.mpr ⟨lw_p29, List.forall_mem_cons.mpr ⟨lw_p30, List.forall_mem_cons.mpr ⟨lw_p31, fun _ h => absurd h List.not_mem_nil⟩⟩⟩⟩⟩⟩⟩⟩⟩⟩⟩⟩⟩⟩⟩⟩
theorem lw_p32 : lw_okq (⟨"MeanRoads$Game", "keepPlan", "(LMeanRoads$Land;I[I)V"⟩, 7) := ⟨⟨by decide +kernel, by decide +kernel⟩, List.mem_of_getElem? (i := 285) (by decide +kernel), List.mem_of_getElem? (i := 956) (by decide +kernel), List.mem_of_getElem? (i := 957) (by decide +kernel)⟩
theorem lw_p33 : lw_okq (⟨"MeanRoads$Game", "nextPlan", "(LMeanRoads$Land;I[I)Z"⟩, 7) := ⟨⟨by decide +kernel, by decide +kernel⟩, List.mem_of_getElem? (i := 285) (by decide +kernel), List.mem_of_getElem? (i := 961) (by decide +kernel), List.mem_of_getElem? (i := 962) (by decide +kernel)⟩
theorem lw_p34 : lw_okq (⟨"MeanRoads$Stand", "tryPlan", "(LMeanRoads$Land;I)I"⟩, 5) := ⟨⟨by decide +kernel, by decide +kernel⟩, List.mem_of_getElem? (i := 189) (by decide +kernel), List.mem_of_getElem? (i := 1014) (by decide +kernel), List.mem_of_getElem? (i := 1015) (by decide +kernel)⟩
theorem lw_p35 : lw_okq (⟨"MeanRoads", "lookAtAll", "()V"⟩, 16) := ⟨⟨by decide +kernel, by decide +kernel⟩, List.mem_of_getElem? (i := 24) (by decide +kernel), List.mem_of_getElem? (i := 1039) (by decide +kernel), List.mem_of_getElem? (i := 1040) (by decide +kernel)⟩
theorem lw_p36 : lw_okq (⟨"MeanRoads$Survey", "placesEqual", "([II)I"⟩, 10) := ⟨⟨by decide +kernel, by decide +kernel⟩, List.mem_of_getElem? (i := 243) (by decide +kernel), List.mem_of_getElem? (i := 1068) (by decide +kernel), List.mem_of_getElem? (i := 1069) (by decide +kernel)⟩
theorem lw_p37 : lw_okq (⟨"MeanRoads", "lookAtPlanOf", "(I)V"⟩, 16) := ⟨⟨by decide +kernel, by decide +kernel⟩, List.mem_of_getElem? (i := 24) (by decide +kernel), List.mem_of_getElem? (i := 1103) (by decide +kernel), List.mem_of_getElem? (i := 1104) (by decide +kernel)⟩
theorem lw_p38 : lw_okq (⟨"MeanRoads$Game", "needFrom", "(LMeanRoads$Land;II)I"⟩, 7) := ⟨⟨by decide +kernel, by decide +kernel⟩, List.mem_of_getElem? (i := 285) (by decide +kernel), List.mem_of_getElem? (i := 1132) (by decide +kernel), List.mem_of_getElem? (i := 1133) (by decide +kernel)⟩
theorem lw_p39 : lw_okq (⟨"MeanRoads$Game", "needAlong", "(II)I"⟩, 7) := ⟨⟨by decide +kernel, by decide +kernel⟩, List.mem_of_getElem? (i := 285) (by decide +kernel), List.mem_of_getElem? (i := 1138) (by decide +kernel), List.mem_of_getElem? (i := 1139) (by decide +kernel)⟩
theorem lw_p40 : lw_okq (⟨"MeanRoads$Going", "index", "(J)I"⟩, 6) := ⟨⟨by decide +kernel, by decide +kernel⟩, List.mem_of_getElem? (i := 313) (by decide +kernel), List.mem_of_getElem? (i := 1164) (by decide +kernel), List.mem_of_getElem? (i := 1165) (by decide +kernel)⟩
theorem lw_p41 : lw_okq (⟨"MeanRoads$Going", "paidIn", "(I)I"⟩, 6) := ⟨⟨by decide +kernel, by decide +kernel⟩, List.mem_of_getElem? (i := 313) (by decide +kernel), List.mem_of_getElem? (i := 1178) (by decide +kernel), List.mem_of_getElem? (i := 1179) (by decide +kernel)⟩
theorem lw_p42 : lw_okq (⟨"MeanRoads", "countRows", "(I)V"⟩, 16) := ⟨⟨by decide +kernel, by decide +kernel⟩, List.mem_of_getElem? (i := 24) (by decide +kernel), List.mem_of_getElem? (i := 1203) (by decide +kernel), List.mem_of_getElem? (i := 1204) (by decide +kernel)⟩
theorem lw_p43 : lw_okq (⟨"MeanRoads$Sums", "step", "(LMeanRoads$Land;II)V"⟩, 5) := ⟨⟨by decide +kernel, by decide +kernel⟩, List.mem_of_getElem? (i := 340) (by decide +kernel), List.mem_of_getElem? (i := 1217) (by decide +kernel), List.mem_of_getElem? (i := 1218) (by decide +kernel)⟩
theorem lw_p44 : lw_okq (⟨"MeanRoads$Sums", "rowsAt", "(II)I"⟩, 5) := ⟨⟨by decide +kernel, by decide +kernel⟩, List.mem_of_getElem? (i := 340) (by decide +kernel), List.mem_of_getElem? (i := 1234) (by decide +kernel), List.mem_of_getElem? (i := 1235) (by decide +kernel)⟩
theorem lw_p45 : lw_okq (⟨"MeanRoads$Sums", "arrive", "(LMeanRoads$Land;II)V"⟩, 5) := ⟨⟨by decide +kernel, by decide +kernel⟩, List.mem_of_getElem? (i := 340) (by decide +kernel), List.mem_of_getElem? (i := 1239) (by decide +kernel), List.mem_of_getElem? (i := 1240) (by decide +kernel)⟩
theorem lw_p46 : lw_okq (⟨"MeanRoads$Sums", "rowsWith", "(I)I"⟩, 5) := ⟨⟨by decide +kernel, by decide +kernel⟩, List.mem_of_getElem? (i := 340) (by decide +kernel), List.mem_of_getElem? (i := 1250) (by decide +kernel), List.mem_of_getElem? (i := 1251) (by decide +kernel)⟩
theorem lw_p47 : lw_okq (⟨"MeanRoads", "drawLots", "(I)J"⟩, 16) := ⟨⟨by decide +kernel, by decide +kernel⟩, List.mem_of_getElem? (i := 24) (by decide +kernel), List.mem_of_getElem? (i := 1293) (by decide +kernel), List.mem_of_getElem? (i := 1294) (by decide +kernel)⟩
def lw_privs_3 : List (MethodName × Nat) := [(⟨"MeanRoads$Game", "keepPlan", "(LMeanRoads$Land;I[I)V"⟩, 7), (⟨"MeanRoads$Game", "nextPlan", "(LMeanRoads$Land;I[I)Z"⟩, 7), (⟨"MeanRoads$Stand", "tryPlan", "(LMeanRoads$Land;I)I"⟩, 5), (⟨"MeanRoads", "lookAtAll", "()V"⟩, 16), (⟨"MeanRoads$Survey", "placesEqual", "([II)I"⟩, 10), (⟨"MeanRoads", "lookAtPlanOf", "(I)V"⟩, 16), (⟨"MeanRoads$Game", "needFrom", "(LMeanRoads$Land;II)I"⟩, 7), (⟨"MeanRoads$Game", "needAlong", "(II)I"⟩, 7), (⟨"MeanRoads$Going", "index", "(J)I"⟩, 6), (⟨"MeanRoads$Going", "paidIn", "(I)I"⟩, 6), (⟨"MeanRoads", "countRows", "(I)V"⟩, 16), (⟨"MeanRoads$Sums", "step", "(LMeanRoads$Land;II)V"⟩, 5), (⟨"MeanRoads$Sums", "rowsAt", "(II)I"⟩, 5), (⟨"MeanRoads$Sums", "arrive", "(LMeanRoads$Land;II)V"⟩, 5), (⟨"MeanRoads$Sums", "rowsWith", "(I)I"⟩, 5), (⟨"MeanRoads", "drawLots", "(I)J"⟩, 16)]
theorem lw_r3 : ∀ q ∈ lw_privs_3, lw_okq q := List.forall_mem_cons.mpr ⟨lw_p32, List.forall_mem_cons.mpr ⟨lw_p33, List.forall_mem_cons.mpr ⟨lw_p34, List.forall_mem_cons.mpr ⟨lw_p35, List.forall_mem_cons.mpr ⟨lw_p36, List.forall_mem_cons.mpr ⟨lw_p37, List.forall_mem_cons.mpr ⟨lw_p38, List.forall_mem_cons.mpr ⟨lw_p39, List.forall_mem_cons.mpr ⟨lw_p40, List.forall_mem_cons.mpr ⟨lw_p41, List.forall_mem_cons.mpr ⟨lw_p42, List.forall_mem_cons.mpr ⟨lw_p43, List.forall_mem_cons.mpr ⟨lw_p44, List.forall_mem_cons.mpr ⟨lw_p45, List.forall_mem_cons.mpr ⟨lw_p46, List.forall_mem_cons.mpr ⟨lw_p47, fun _ h => absurd h List.not_mem_nil⟩⟩⟩⟩⟩⟩⟩⟩⟩⟩⟩⟩⟩⟩⟩⟩
theorem lw_p48 : lw_okq (⟨"MeanRoads$Tray", "cut", "(J)J"⟩, 3) := ⟨⟨by decide +kernel, by decide +kernel⟩, List.mem_of_getElem? (i := 361) (by decide +kernel), List.mem_of_getElem? (i := 1341) (by decide +kernel), List.mem_of_getElem? (i := 1342) (by decide +kernel)⟩
theorem lw_p49 : lw_okq (⟨"MeanRoadsModel", "next", "()V"⟩, 46) := ⟨⟨by decide +kernel, by decide +kernel⟩, List.mem_of_getElem? (i := 1374) (by decide +kernel), List.mem_of_getElem? (i := 1534) (by decide +kernel), List.mem_of_getElem? (i := 1535) (by decide +kernel)⟩
theorem lw_p50 : lw_okq (⟨"MeanRoadsModel", "see", "(I)I"⟩, 46) := ⟨⟨by decide +kernel, by decide +kernel⟩, List.mem_of_getElem? (i := 1374) (by decide +kernel), List.mem_of_getElem? (i := 1538) (by decide +kernel), List.mem_of_getElem? (i := 1539) (by decide +kernel)⟩
theorem lw_p51 : lw_okq (⟨"MeanRoadsModel", "keyAt", "()I"⟩, 46) := ⟨⟨by decide +kernel, by decide +kernel⟩, List.mem_of_getElem? (i := 1374) (by decide +kernel), List.mem_of_getElem? (i := 1545) (by decide +kernel), List.mem_of_getElem? (i := 1546) (by decide +kernel)⟩
theorem lw_p52 : lw_okq (⟨"MeanRoadsModel", "eats", "(I)Z"⟩, 46) := ⟨⟨by decide +kernel, by decide +kernel⟩, List.mem_of_getElem? (i := 1374) (by decide +kernel), List.mem_of_getElem? (i := 1556) (by decide +kernel), List.mem_of_getElem? (i := 1557) (by decide +kernel)⟩
theorem lw_p53 : lw_okq (⟨"MeanRoadsModel", "is", "(I)Z"⟩, 46) := ⟨⟨by decide +kernel, by decide +kernel⟩, List.mem_of_getElem? (i := 1374) (by decide +kernel), List.mem_of_getElem? (i := 1560) (by decide +kernel), List.mem_of_getElem? (i := 1561) (by decide +kernel)⟩
theorem lw_p54 : lw_okq (⟨"MeanRoadsModel", "fails", "(I)V"⟩, 46) := ⟨⟨by decide +kernel, by decide +kernel⟩, List.mem_of_getElem? (i := 1374) (by decide +kernel), List.mem_of_getElem? (i := 1564) (by decide +kernel), List.mem_of_getElem? (i := 1565) (by decide +kernel)⟩
theorem lw_p55 : lw_okq (⟨"MeanRoadsModel", "takes", "(II)I"⟩, 46) := ⟨⟨by decide +kernel, by decide +kernel⟩, List.mem_of_getElem? (i := 1374) (by decide +kernel), List.mem_of_getElem? (i := 1568) (by decide +kernel), List.mem_of_getElem? (i := 1569) (by decide +kernel)⟩
theorem lw_p56 : lw_okq (⟨"MeanRoadsModel", "closes", "()V"⟩, 46) := ⟨⟨by decide +kernel, by decide +kernel⟩, List.mem_of_getElem? (i := 1374) (by decide +kernel), List.mem_of_getElem? (i := 1572) (by decide +kernel), List.mem_of_getElem? (i := 1573) (by decide +kernel)⟩
theorem lw_p57 : lw_okq (⟨"MeanRoadsModel", "readLine", "()V"⟩, 46) := ⟨⟨by decide +kernel, by decide +kernel⟩, List.mem_of_getElem? (i := 1374) (by decide +kernel), List.mem_of_getElem? (i := 1576) (by decide +kernel), List.mem_of_getElem? (i := 1577) (by decide +kernel)⟩
theorem lw_p58 : lw_okq (⟨"MeanRoadsModel", "readPlace", "()V"⟩, 46) := ⟨⟨by decide +kernel, by decide +kernel⟩, List.mem_of_getElem? (i := 1374) (by decide +kernel), List.mem_of_getElem? (i := 1580) (by decide +kernel), List.mem_of_getElem? (i := 1581) (by decide +kernel)⟩
theorem lw_p59 : lw_okq (⟨"MeanRoadsModel", "readRoad", "()V"⟩, 46) := ⟨⟨by decide +kernel, by decide +kernel⟩, List.mem_of_getElem? (i := 1374) (by decide +kernel), List.mem_of_getElem? (i := 1584) (by decide +kernel), List.mem_of_getElem? (i := 1585) (by decide +kernel)⟩
theorem lw_p60 : lw_okq (⟨"MeanRoadsModel", "readLaw", "(I)V"⟩, 46) := ⟨⟨by decide +kernel, by decide +kernel⟩, List.mem_of_getElem? (i := 1374) (by decide +kernel), List.mem_of_getElem? (i := 1588) (by decide +kernel), List.mem_of_getElem? (i := 1589) (by decide +kernel)⟩
theorem lw_p61 : lw_okq (⟨"MeanRoadsModel", "readSum", "(I)V"⟩, 46) := ⟨⟨by decide +kernel, by decide +kernel⟩, List.mem_of_getElem? (i := 1374) (by decide +kernel), List.mem_of_getElem? (i := 1592) (by decide +kernel), List.mem_of_getElem? (i := 1593) (by decide +kernel)⟩
theorem lw_p62 : lw_okq (⟨"MeanRoadsModel", "readTerm", "(I)V"⟩, 46) := ⟨⟨by decide +kernel, by decide +kernel⟩, List.mem_of_getElem? (i := 1374) (by decide +kernel), List.mem_of_getElem? (i := 1596) (by decide +kernel), List.mem_of_getElem? (i := 1597) (by decide +kernel)⟩
theorem lw_p63 : lw_okq (⟨"MeanRoadsModel", "readAtom", "(I)V"⟩, 46) := ⟨⟨by decide +kernel, by decide +kernel⟩, List.mem_of_getElem? (i := 1374) (by decide +kernel), List.mem_of_getElem? (i := 1600) (by decide +kernel), List.mem_of_getElem? (i := 1601) (by decide +kernel)⟩
def lw_privs_4 : List (MethodName × Nat) := [(⟨"MeanRoads$Tray", "cut", "(J)J"⟩, 3), (⟨"MeanRoadsModel", "next", "()V"⟩, 46), (⟨"MeanRoadsModel", "see", "(I)I"⟩, 46), (⟨"MeanRoadsModel", "keyAt", "()I"⟩, 46), (⟨"MeanRoadsModel", "eats", "(I)Z"⟩, 46), (⟨"MeanRoadsModel", "is", "(I)Z"⟩, 46), (⟨"MeanRoadsModel", "fails", "(I)V"⟩, 46), (⟨"MeanRoadsModel", "takes", "(II)I"⟩, 46), (⟨"MeanRoadsModel", "closes", "()V"⟩, 46), (⟨"MeanRoadsModel", "readLine", "()V"⟩, 46), (⟨"MeanRoadsModel", "readPlace", "()V"⟩, 46), (⟨"MeanRoadsModel", "readRoad", "()V"⟩, 46), (⟨"MeanRoadsModel", "readLaw", "(I)V"⟩, 46), (⟨"MeanRoadsModel", "readSum", "(I)V"⟩, 46), (⟨"MeanRoadsModel", "readTerm", "(I)V"⟩, 46), (⟨"MeanRoadsModel", "readAtom", "(I)V"⟩, 46)]
theorem lw_r4 : ∀ q ∈ lw_privs_4, lw_okq q := List.forall_mem_cons.mpr ⟨lw_p48, List.forall_mem_cons.mpr ⟨lw_p49, List.forall_mem_cons.mpr ⟨lw_p50, List.forall_mem_cons.mpr ⟨lw_p51, List.forall_mem_cons.mpr ⟨lw_p52, List.forall_mem_cons.mpr ⟨lw_p53, List.forall_mem_cons.mpr ⟨lw_p54, List.forall_mem_cons.mpr ⟨lw_p55, List.forall_mem_cons.mpr ⟨lw_p56, List.forall_mem_cons.mpr ⟨lw_p57, List.forall_mem_cons.mpr ⟨lw_p58, List.forall_mem_cons.mpr ⟨lw_p59, List.forall_mem_cons.mpr ⟨lw_p60, List.forall_mem_cons.mpr ⟨lw_p61, List.forall_mem_cons.mpr ⟨lw_p62, List.forall_mem_cons.mpr ⟨lw_p63, fun _ h => absurd h List.not_mem_nil⟩⟩⟩⟩⟩⟩⟩⟩⟩⟩⟩⟩⟩⟩⟩⟩
theorem lw_p64 : lw_okq (⟨"MeanRoadsModel", "codes", "(I)V"⟩, 46) := ⟨⟨by decide +kernel, by decide +kernel⟩, List.mem_of_getElem? (i := 1374) (by decide +kernel), List.mem_of_getElem? (i := 1604) (by decide +kernel), List.mem_of_getElem? (i := 1605) (by decide +kernel)⟩
theorem lw_p65 : lw_okq (⟨"MeanRoadsModel", "goesIn", "(I)Z"⟩, 46) := ⟨⟨by decide +kernel, by decide +kernel⟩, List.mem_of_getElem? (i := 1374) (by decide +kernel), List.mem_of_getElem? (i := 1611) (by decide +kernel), List.mem_of_getElem? (i := 1612) (by decide +kernel)⟩
theorem lw_p66 : lw_okq (⟨"MeanRoadsModel", "readIf", "(I)V"⟩, 46) := ⟨⟨by decide +kernel, by decide +kernel⟩, List.mem_of_getElem? (i := 1374) (by decide +kernel), List.mem_of_getElem? (i := 1615) (by decide +kernel), List.mem_of_getElem? (i := 1616) (by decide +kernel)⟩
theorem lw_p67 : lw_okq (⟨"MeanRoadsModel", "readTruth", "(I)V"⟩, 46) := ⟨⟨by decide +kernel, by decide +kernel⟩, List.mem_of_getElem? (i := 1374) (by decide +kernel), List.mem_of_getElem? (i := 1619) (by decide +kernel), List.mem_of_getElem? (i := 1620) (by decide +kernel)⟩
theorem lw_p68 : lw_okq (⟨"MeanRoadsModel", "readBoth", "(I)V"⟩, 46) := ⟨⟨by decide +kernel, by decide +kernel⟩, List.mem_of_getElem? (i := 1374) (by decide +kernel), List.mem_of_getElem? (i := 1623) (by decide +kernel), List.mem_of_getElem? (i := 1624) (by decide +kernel)⟩
theorem lw_p69 : lw_okq (⟨"MeanRoadsModel", "readUnit", "(I)V"⟩, 46) := ⟨⟨by decide +kernel, by decide +kernel⟩, List.mem_of_getElem? (i := 1374) (by decide +kernel), List.mem_of_getElem? (i := 1627) (by decide +kernel), List.mem_of_getElem? (i := 1628) (by decide +kernel)⟩
theorem lw_p70 : lw_okq (⟨"MeanRoadsModel", "isPlace", "(J)Z"⟩, 46) := ⟨⟨by decide +kernel, by decide +kernel⟩, List.mem_of_getElem? (i := 1374) (by decide +kernel), List.mem_of_getElem? (i := 1639) (by decide +kernel), List.mem_of_getElem? (i := 1640) (by decide +kernel)⟩
theorem lw_p71 : lw_okq (⟨"MeanRoadsModel", "laysWays", "()V"⟩, 46) := ⟨⟨by decide +kernel, by decide +kernel⟩, List.mem_of_getElem? (i := 1374) (by decide +kernel), List.mem_of_getElem? (i := 1643) (by decide +kernel), List.mem_of_getElem? (i := 1644) (by decide +kernel)⟩
theorem lw_p72 : lw_okq (⟨"MeanRoadsModel", "payBy", "(II)I"⟩, 46) := ⟨⟨by decide +kernel, by decide +kernel⟩, List.mem_of_getElem? (i := 1374) (by decide +kernel), List.mem_of_getElem? (i := 1647) (by decide +kernel), List.mem_of_getElem? (i := 1648) (by decide +kernel)⟩
theorem lw_p73 : lw_okq (⟨"MeanRoadsModel", "laysWords", "(II)V"⟩, 46) := ⟨⟨by decide +kernel, by decide +kernel⟩, List.mem_of_getElem? (i := 1374) (by decide +kernel), List.mem_of_getElem? (i := 1651) (by decide +kernel), List.mem_of_getElem? (i := 1652) (by decide +kernel)⟩
theorem lw_p74 : lw_okq (⟨"MeanRoadsModel", "reckons", "(I)I"⟩, 46) := ⟨⟨by decide +kernel, by decide +kernel⟩, List.mem_of_getElem? (i := 1374) (by decide +kernel), List.mem_of_getElem? (i := 1655) (by decide +kernel), List.mem_of_getElem? (i := 1656) (by decide +kernel)⟩
theorem lw_p75 : lw_okq (⟨"MeanRoadsModel", "isOpen", "(I)Z"⟩, 46) := ⟨⟨by decide +kernel, by decide +kernel⟩, List.mem_of_getElem? (i := 1374) (by decide +kernel), List.mem_of_getElem? (i := 1664) (by decide +kernel), List.mem_of_getElem? (i := 1665) (by decide +kernel)⟩
theorem lw_p76 : lw_okq (⟨"MeanRoadsModel", "isMine", "(I)Z"⟩, 46) := ⟨⟨by decide +kernel, by decide +kernel⟩, List.mem_of_getElem? (i := 1374) (by decide +kernel), List.mem_of_getElem? (i := 1668) (by decide +kernel), List.mem_of_getElem? (i := 1669) (by decide +kernel)⟩
theorem lw_p77 : lw_okq (⟨"MeanRoadsModel", "planned", "(I)I"⟩, 46) := ⟨⟨by decide +kernel, by decide +kernel⟩, List.mem_of_getElem? (i := 1374) (by decide +kernel), List.mem_of_getElem? (i := 1678) (by decide +kernel), List.mem_of_getElem? (i := 1679) (by decide +kernel)⟩
theorem lw_p78 : lw_okq (⟨"MeanRoadsModel", "isRoad", "(J)Z"⟩, 46) := ⟨⟨by decide +kernel, by decide +kernel⟩, List.mem_of_getElem? (i := 1374) (by decide +kernel), List.mem_of_getElem? (i := 1692) (by decide +kernel), List.mem_of_getElem? (i := 1693) (by decide +kernel)⟩
theorem lw_p79 : lw_okq (⟨"MeanRoadsModel", "whyMove", "(J)I"⟩, 46) := ⟨⟨by decide +kernel, by decide +kernel⟩, List.mem_of_getElem? (i := 1374) (by decide +kernel), List.mem_of_getElem? (i := 1705) (by decide +kernel), List.mem_of_getElem? (i := 1706) (by decide +kernel)⟩
def lw_privs_5 : List (MethodName × Nat) := [(⟨"MeanRoadsModel", "codes", "(I)V"⟩, 46), (⟨"MeanRoadsModel", "goesIn", "(I)Z"⟩, 46), (⟨"MeanRoadsModel", "readIf", "(I)V"⟩, 46), (⟨"MeanRoadsModel", "readTruth", "(I)V"⟩, 46), (⟨"MeanRoadsModel", "readBoth", "(I)V"⟩, 46), (⟨"MeanRoadsModel", "readUnit", "(I)V"⟩, 46), (⟨"MeanRoadsModel", "isPlace", "(J)Z"⟩, 46), (⟨"MeanRoadsModel", "laysWays", "()V"⟩, 46), (⟨"MeanRoadsModel", "payBy", "(II)I"⟩, 46), (⟨"MeanRoadsModel", "laysWords", "(II)V"⟩, 46), (⟨"MeanRoadsModel", "reckons", "(I)I"⟩, 46), (⟨"MeanRoadsModel", "isOpen", "(I)Z"⟩, 46), (⟨"MeanRoadsModel", "isMine", "(I)Z"⟩, 46), (⟨"MeanRoadsModel", "planned", "(I)I"⟩, 46), (⟨"MeanRoadsModel", "isRoad", "(J)Z"⟩, 46), (⟨"MeanRoadsModel", "whyMove", "(J)I"⟩, 46)]
theorem lw_r5 : ∀ q ∈ lw_privs_5, lw_okq q := List.forall_mem_cons.mpr ⟨lw_p64, List.forall_mem_cons.mpr ⟨lw_p65, List.forall_mem_cons.mpr ⟨lw_p66, List.forall_mem_cons.mpr ⟨lw_p67, List.forall_mem_cons.mpr ⟨lw_p68, List.forall_mem_cons.mpr ⟨lw_p69, List.forall_mem_cons.mpr ⟨lw_p70, List.forall_mem_cons.mpr ⟨lw_p71, List.forall_mem_cons.mpr ⟨lw_p72, List.forall_mem_cons.mpr ⟨lw_p73, List.forall_mem_cons.mpr ⟨lw_p74, List.forall_mem_cons.mpr ⟨lw_p75, List.forall_mem_cons.mpr ⟨lw_p76, List.forall_mem_cons.mpr ⟨lw_p77, List.forall_mem_cons.mpr ⟨lw_p78, List.forall_mem_cons.mpr ⟨lw_p79, fun _ h => absurd h List.not_mem_nil⟩⟩⟩⟩⟩⟩⟩⟩⟩⟩⟩⟩⟩⟩⟩⟩
theorem lw_p80 : lw_okq (⟨"MeanRoadsModel", "stores", "()V"⟩, 46) := ⟨⟨by decide +kernel, by decide +kernel⟩, List.mem_of_getElem? (i := 1374) (by decide +kernel), List.mem_of_getElem? (i := 1711) (by decide +kernel), List.mem_of_getElem? (i := 1712) (by decide +kernel)⟩
theorem lw_p81 : lw_okq (⟨"MeanRoadsModel", "wayToldBy", "(I)I"⟩, 46) := ⟨⟨by decide +kernel, by decide +kernel⟩, List.mem_of_getElem? (i := 1374) (by decide +kernel), List.mem_of_getElem? (i := 1715) (by decide +kernel), List.mem_of_getElem? (i := 1716) (by decide +kernel)⟩
theorem lw_p82 : lw_okq (⟨"MeanRoadsModel", "goesWay", "(I)I"⟩, 46) := ⟨⟨by decide +kernel, by decide +kernel⟩, List.mem_of_getElem? (i := 1374) (by decide +kernel), List.mem_of_getElem? (i := 1719) (by decide +kernel), List.mem_of_getElem? (i := 1720) (by decide +kernel)⟩
theorem lw_p83 : lw_okq (⟨"MeanRoadsModel", "notes", "()V"⟩, 46) := ⟨⟨by decide +kernel, by decide +kernel⟩, List.mem_of_getElem? (i := 1374) (by decide +kernel), List.mem_of_getElem? (i := 1723) (by decide +kernel), List.mem_of_getElem? (i := 1724) (by decide +kernel)⟩
theorem lw_p84 : lw_okq (⟨"MeanRoadsModel", "whyPlan", "(JJ)I"⟩, 46) := ⟨⟨by decide +kernel, by decide +kernel⟩, List.mem_of_getElem? (i := 1374) (by decide +kernel), List.mem_of_getElem? (i := 1737) (by decide +kernel), List.mem_of_getElem? (i := 1738) (by decide +kernel)⟩
theorem lw_p85 : lw_okq (⟨"MeanRoadsModel", "laysGame", "()V"⟩, 46) := ⟨⟨by decide +kernel, by decide +kernel⟩, List.mem_of_getElem? (i := 1374) (by decide +kernel), List.mem_of_getElem? (i := 1746) (by decide +kernel), List.mem_of_getElem? (i := 1747) (by decide +kernel)⟩
theorem lw_p86 : lw_okq (⟨"MeanRoadsModel", "laysRings", "()V"⟩, 46) := ⟨⟨by decide +kernel, by decide +kernel⟩, List.mem_of_getElem? (i := 1374) (by decide +kernel), List.mem_of_getElem? (i := 1750) (by decide +kernel), List.mem_of_getElem? (i := 1751) (by decide +kernel)⟩
theorem lw_p87 : lw_okq (⟨"MeanRoadsModel", "goesRing", "(IIIIII)V"⟩, 46) := ⟨⟨by decide +kernel, by decide +kernel⟩, List.mem_of_getElem? (i := 1374) (by decide +kernel), List.mem_of_getElem? (i := 1754) (by decide +kernel), List.mem_of_getElem? (i := 1755) (by decide +kernel)⟩
theorem lw_p88 : lw_okq (⟨"MeanRoadsModel", "goesPlans", "(IIII)V"⟩, 46) := ⟨⟨by decide +kernel, by decide +kernel⟩, List.mem_of_getElem? (i := 1374) (by decide +kernel), List.mem_of_getElem? (i := 1758) (by decide +kernel), List.mem_of_getElem? (i := 1759) (by decide +kernel)⟩
theorem lw_p89 : lw_okq (⟨"MeanRoadsModel", "laysSecured", "(II)V"⟩, 46) := ⟨⟨by decide +kernel, by decide +kernel⟩, List.mem_of_getElem? (i := 1374) (by decide +kernel), List.mem_of_getElem? (i := 1762) (by decide +kernel), List.mem_of_getElem? (i := 1763) (by decide +kernel)⟩
theorem lw_p90 : lw_okq (⟨"MeanRoadsModel", "comesBy", "(II)I"⟩, 46) := ⟨⟨by decide +kernel, by decide +kernel⟩, List.mem_of_getElem? (i := 1374) (by decide +kernel), List.mem_of_getElem? (i := 1766) (by decide +kernel), List.mem_of_getElem? (i := 1767) (by decide +kernel)⟩
theorem lw_p91 : lw_okq (⟨"MeanRoadsModel", "ringBy", "(IIZ)I"⟩, 46) := ⟨⟨by decide +kernel, by decide +kernel⟩, List.mem_of_getElem? (i := 1374) (by decide +kernel), List.mem_of_getElem? (i := 1770) (by decide +kernel), List.mem_of_getElem? (i := 1771) (by decide +kernel)⟩
theorem lw_p92 : lw_okq (⟨"MeanRoadsModel", "isLess", "(II)Z"⟩, 46) := ⟨⟨by decide +kernel, by decide +kernel⟩, List.mem_of_getElem? (i := 1374) (by decide +kernel), List.mem_of_getElem? (i := 1774) (by decide +kernel), List.mem_of_getElem? (i := 1775) (by decide +kernel)⟩
theorem lw_p93 : lw_okq (⟨"MeanRoadsModel", "gathers", "()V"⟩, 46) := ⟨⟨by decide +kernel, by decide +kernel⟩, List.mem_of_getElem? (i := 1374) (by decide +kernel), List.mem_of_getElem? (i := 1778) (by decide +kernel), List.mem_of_getElem? (i := 1779) (by decide +kernel)⟩
theorem lw_p94 : lw_okq (⟨"MeanRoadsModel", "counts", "(II)V"⟩, 46) := ⟨⟨by decide +kernel, by decide +kernel⟩, List.mem_of_getElem? (i := 1374) (by decide +kernel), List.mem_of_getElem? (i := 1782) (by decide +kernel), List.mem_of_getElem? (i := 1783) (by decide +kernel)⟩
theorem lw_p95 : lw_okq (⟨"MeanRoadsModel", "noTray", "(I)I"⟩, 46) := ⟨⟨by decide +kernel, by decide +kernel⟩, List.mem_of_getElem? (i := 1374) (by decide +kernel), List.mem_of_getElem? (i := 1801) (by decide +kernel), List.mem_of_getElem? (i := 1802) (by decide +kernel)⟩
def lw_privs_6 : List (MethodName × Nat) := [(⟨"MeanRoadsModel", "stores", "()V"⟩, 46), (⟨"MeanRoadsModel", "wayToldBy", "(I)I"⟩, 46), (⟨"MeanRoadsModel", "goesWay", "(I)I"⟩, 46), (⟨"MeanRoadsModel", "notes", "()V"⟩, 46), (⟨"MeanRoadsModel", "whyPlan", "(JJ)I"⟩, 46), (⟨"MeanRoadsModel", "laysGame", "()V"⟩, 46), (⟨"MeanRoadsModel", "laysRings", "()V"⟩, 46), (⟨"MeanRoadsModel", "goesRing", "(IIIIII)V"⟩, 46), (⟨"MeanRoadsModel", "goesPlans", "(IIII)V"⟩, 46), (⟨"MeanRoadsModel", "laysSecured", "(II)V"⟩, 46), (⟨"MeanRoadsModel", "comesBy", "(II)I"⟩, 46), (⟨"MeanRoadsModel", "ringBy", "(IIZ)I"⟩, 46), (⟨"MeanRoadsModel", "isLess", "(II)Z"⟩, 46), (⟨"MeanRoadsModel", "gathers", "()V"⟩, 46), (⟨"MeanRoadsModel", "counts", "(II)V"⟩, 46), (⟨"MeanRoadsModel", "noTray", "(I)I"⟩, 46)]
theorem lw_r6 : ∀ q ∈ lw_privs_6, lw_okq q := List.forall_mem_cons.mpr ⟨lw_p80, List.forall_mem_cons.mpr ⟨lw_p81, List.forall_mem_cons.mpr ⟨lw_p82, List.forall_mem_cons.mpr ⟨lw_p83, List.forall_mem_cons.mpr ⟨lw_p84, List.forall_mem_cons.mpr ⟨lw_p85, List.forall_mem_cons.mpr ⟨lw_p86, List.forall_mem_cons.mpr ⟨lw_p87, List.forall_mem_cons.mpr ⟨lw_p88, List.forall_mem_cons.mpr ⟨lw_p89, List.forall_mem_cons.mpr ⟨lw_p90, List.forall_mem_cons.mpr ⟨lw_p91, List.forall_mem_cons.mpr ⟨lw_p92, List.forall_mem_cons.mpr ⟨lw_p93, List.forall_mem_cons.mpr ⟨lw_p94, List.forall_mem_cons.mpr ⟨lw_p95, fun _ h => absurd h List.not_mem_nil⟩⟩⟩⟩⟩⟩⟩⟩⟩⟩⟩⟩⟩⟩⟩⟩
theorem lw_p96 : lw_okq (⟨"MeanRoadsModel", "tells", "(I)I"⟩, 46) := ⟨⟨by decide +kernel, by decide +kernel⟩, List.mem_of_getElem? (i := 1374) (by decide +kernel), List.mem_of_getElem? (i := 1805) (by decide +kernel), List.mem_of_getElem? (i := 1806) (by decide +kernel)⟩
theorem lw_p97 : lw_okq (⟨"MeanRoadsModel", "whyNot", "(J)I"⟩, 46) := ⟨⟨by decide +kernel, by decide +kernel⟩, List.mem_of_getElem? (i := 1374) (by decide +kernel), List.mem_of_getElem? (i := 1809) (by decide +kernel), List.mem_of_getElem? (i := 1810) (by decide +kernel)⟩
theorem lw_p98 : lw_okq (⟨"MeanRoadsModel", "does", "(I)V"⟩, 46) := ⟨⟨by decide +kernel, by decide +kernel⟩, List.mem_of_getElem? (i := 1374) (by decide +kernel), List.mem_of_getElem? (i := 1818) (by decide +kernel), List.mem_of_getElem? (i := 1819) (by decide +kernel)⟩
theorem lw_p99 : lw_okq (⟨"MeanRoadsModel", "isAgain", "()V"⟩, 46) := ⟨⟨by decide +kernel, by decide +kernel⟩, List.mem_of_getElem? (i := 1374) (by decide +kernel), List.mem_of_getElem? (i := 1822) (by decide +kernel), List.mem_of_getElem? (i := 1823) (by decide +kernel)⟩
theorem lw_p100 : lw_okq (⟨"MeanRoadsModel", "drawn", "()I"⟩, 46) := ⟨⟨by decide +kernel, by decide +kernel⟩, List.mem_of_getElem? (i := 1374) (by decide +kernel), List.mem_of_getElem? (i := 1836) (by decide +kernel), List.mem_of_getElem? (i := 1837) (by decide +kernel)⟩
theorem lw_p101 : lw_okq (⟨"MeanRoadsModel", "draw", "(I)I"⟩, 46) := ⟨⟨by decide +kernel, by decide +kernel⟩, List.mem_of_getElem? (i := 1374) (by decide +kernel), List.mem_of_getElem? (i := 1840) (by decide +kernel), List.mem_of_getElem? (i := 1841) (by decide +kernel)⟩
theorem lw_p102 : lw_okq (⟨"MeanRoadsModel", "allWays", "()I"⟩, 46) := ⟨⟨by decide +kernel, by decide +kernel⟩, List.mem_of_getElem? (i := 1374) (by decide +kernel), List.mem_of_getElem? (i := 1853) (by decide +kernel), List.mem_of_getElem? (i := 1854) (by decide +kernel)⟩
theorem lw_p103 : lw_okq (⟨"MeanRoadsModel", "meanOf", "(II)J"⟩, 46) := ⟨⟨by decide +kernel, by decide +kernel⟩, List.mem_of_getElem? (i := 1374) (by decide +kernel), List.mem_of_getElem? (i := 1857) (by decide +kernel), List.mem_of_getElem? (i := 1858) (by decide +kernel)⟩
theorem lw_p104 : lw_okq (⟨"MeanRoadsModel", "laysSet", "(I)V"⟩, 46) := ⟨⟨by decide +kernel, by decide +kernel⟩, List.mem_of_getElem? (i := 1374) (by decide +kernel), List.mem_of_getElem? (i := 1898) (by decide +kernel), List.mem_of_getElem? (i := 1899) (by decide +kernel)⟩
theorem lw_p105 : lw_okq (⟨"MeanRoadsModel", "neededAt", "(I)I"⟩, 46) := ⟨⟨by decide +kernel, by decide +kernel⟩, List.mem_of_getElem? (i := 1374) (by decide +kernel), List.mem_of_getElem? (i := 1914) (by decide +kernel), List.mem_of_getElem? (i := 1915) (by decide +kernel)⟩
theorem lw_p106 : lw_okq (⟨"MeanRoadsModel", "laysGoing", "()V"⟩, 46) := ⟨⟨by decide +kernel, by decide +kernel⟩, List.mem_of_getElem? (i := 1374) (by decide +kernel), List.mem_of_getElem? (i := 1924) (by decide +kernel), List.mem_of_getElem? (i := 1925) (by decide +kernel)⟩
theorem lw_p107 : lw_okq (⟨"MeanRoadsModel", "placeIn", "(J)I"⟩, 46) := ⟨⟨by decide +kernel, by decide +kernel⟩, List.mem_of_getElem? (i := 1374) (by decide +kernel), List.mem_of_getElem? (i := 1928) (by decide +kernel), List.mem_of_getElem? (i := 1929) (by decide +kernel)⟩
theorem lw_p108 : lw_okq (⟨"MeanRoadsModel", "purseIn", "(J)J"⟩, 46) := ⟨⟨by decide +kernel, by decide +kernel⟩, List.mem_of_getElem? (i := 1374) (by decide +kernel), List.mem_of_getElem? (i := 1936) (by decide +kernel), List.mem_of_getElem? (i := 1937) (by decide +kernel)⟩
theorem lw_p109 : lw_okq (⟨"MeanRoadsModel", "laysRows", "(I)V"⟩, 46) := ⟨⟨by decide +kernel, by decide +kernel⟩, List.mem_of_getElem? (i := 1374) (by decide +kernel), List.mem_of_getElem? (i := 1955) (by decide +kernel), List.mem_of_getElem? (i := 1956) (by decide +kernel)⟩
theorem lw_p110 : lw_okq (⟨"MeanRoadsModel", "rowsOf", "(I)I"⟩, 46) := ⟨⟨by decide +kernel, by decide +kernel⟩, List.mem_of_getElem? (i := 1374) (by decide +kernel), List.mem_of_getElem? (i := 1959) (by decide +kernel), List.mem_of_getElem? (i := 1960) (by decide +kernel)⟩
theorem lw_p111 : lw_okq (⟨"MeanRoadsModel", "noPaid", "(I)I"⟩, 46) := ⟨⟨by decide +kernel, by decide +kernel⟩, List.mem_of_getElem? (i := 1374) (by decide +kernel), List.mem_of_getElem? (i := 1975) (by decide +kernel), List.mem_of_getElem? (i := 1976) (by decide +kernel)⟩
def lw_privs_7 : List (MethodName × Nat) := [(⟨"MeanRoadsModel", "tells", "(I)I"⟩, 46), (⟨"MeanRoadsModel", "whyNot", "(J)I"⟩, 46), (⟨"MeanRoadsModel", "does", "(I)V"⟩, 46), (⟨"MeanRoadsModel", "isAgain", "()V"⟩, 46), (⟨"MeanRoadsModel", "drawn", "()I"⟩, 46), (⟨"MeanRoadsModel", "draw", "(I)I"⟩, 46), (⟨"MeanRoadsModel", "allWays", "()I"⟩, 46), (⟨"MeanRoadsModel", "meanOf", "(II)J"⟩, 46), (⟨"MeanRoadsModel", "laysSet", "(I)V"⟩, 46), (⟨"MeanRoadsModel", "neededAt", "(I)I"⟩, 46), (⟨"MeanRoadsModel", "laysGoing", "()V"⟩, 46), (⟨"MeanRoadsModel", "placeIn", "(J)I"⟩, 46), (⟨"MeanRoadsModel", "purseIn", "(J)J"⟩, 46), (⟨"MeanRoadsModel", "laysRows", "(I)V"⟩, 46), (⟨"MeanRoadsModel", "rowsOf", "(I)I"⟩, 46), (⟨"MeanRoadsModel", "noPaid", "(I)I"⟩, 46)]
theorem lw_r7 : ∀ q ∈ lw_privs_7, lw_okq q := List.forall_mem_cons.mpr ⟨lw_p96, List.forall_mem_cons.mpr ⟨lw_p97, List.forall_mem_cons.mpr ⟨lw_p98, List.forall_mem_cons.mpr ⟨lw_p99, List.forall_mem_cons.mpr ⟨lw_p100, List.forall_mem_cons.mpr ⟨lw_p101, List.forall_mem_cons.mpr ⟨lw_p102, List.forall_mem_cons.mpr ⟨lw_p103, List.forall_mem_cons.mpr ⟨lw_p104, List.forall_mem_cons.mpr ⟨lw_p105, List.forall_mem_cons.mpr ⟨lw_p106, List.forall_mem_cons.mpr ⟨lw_p107, List.forall_mem_cons.mpr ⟨lw_p108, List.forall_mem_cons.mpr ⟨lw_p109, List.forall_mem_cons.mpr ⟨lw_p110, List.forall_mem_cons.mpr ⟨lw_p111, fun _ h => absurd h List.not_mem_nil⟩⟩⟩⟩⟩⟩⟩⟩⟩⟩⟩⟩⟩⟩⟩⟩
theorem lw_p112 : lw_okq (⟨"MeanRoadsModel", "weathersOf", "(I)I"⟩, 46) := ⟨⟨by decide +kernel, by decide +kernel⟩, List.mem_of_getElem? (i := 1374) (by decide +kernel), List.mem_of_getElem? (i := 1981) (by decide +kernel), List.mem_of_getElem? (i := 1982) (by decide +kernel)⟩
theorem lw_p113 : lw_okq (⟨"MeanRoadsModel", "mostAlike", "(II)I"⟩, 46) := ⟨⟨by decide +kernel, by decide +kernel⟩, List.mem_of_getElem? (i := 1374) (by decide +kernel), List.mem_of_getElem? (i := 1989) (by decide +kernel), List.mem_of_getElem? (i := 1990) (by decide +kernel)⟩
theorem lw_p114 : lw_okq (⟨"MeanRoadsModel", "laysLots", "(I)V"⟩, 46) := ⟨⟨by decide +kernel, by decide +kernel⟩, List.mem_of_getElem? (i := 1374) (by decide +kernel), List.mem_of_getElem? (i := 1998) (by decide +kernel), List.mem_of_getElem? (i := 1999) (by decide +kernel)⟩
theorem lw_p115 : lw_okq (⟨"MeanRoadsModel", "goesLots", "(IJIJ)V"⟩, 46) := ⟨⟨by decide +kernel, by decide +kernel⟩, List.mem_of_getElem? (i := 1374) (by decide +kernel), List.mem_of_getElem? (i := 2002) (by decide +kernel), List.mem_of_getElem? (i := 2003) (by decide +kernel)⟩
def lw_privs_8 : List (MethodName × Nat) := [(⟨"MeanRoadsModel", "weathersOf", "(I)I"⟩, 46), (⟨"MeanRoadsModel", "mostAlike", "(II)I"⟩, 46), (⟨"MeanRoadsModel", "laysLots", "(I)V"⟩, 46), (⟨"MeanRoadsModel", "goesLots", "(IJIJ)V"⟩, 46)]
theorem lw_r8 : ∀ q ∈ lw_privs_8, lw_okq q := List.forall_mem_cons.mpr ⟨lw_p112, List.forall_mem_cons.mpr ⟨lw_p113, List.forall_mem_cons.mpr ⟨lw_p114, List.forall_mem_cons.mpr ⟨lw_p115, fun _ h => absurd h List.not_mem_nil⟩⟩⟩⟩
def lw_privs : List (MethodName × Nat) := lw_privs_1 ++ (lw_privs_2 ++ (lw_privs_3 ++ (lw_privs_4 ++ (lw_privs_5 ++ (lw_privs_6 ++ (lw_privs_7 ++ (lw_privs_8)))))))
def lw_tbl : List Cond := k2_sels lw_privs ++ tables_1
theorem lw_privs_ok : ∀ q ∈ lw_privs, lw_okq q := by
  show ∀ q ∈ lw_privs_1 ++ (lw_privs_2 ++ (lw_privs_3 ++ (lw_privs_4 ++ (lw_privs_5 ++ (lw_privs_6 ++ (lw_privs_7 ++ (lw_privs_8))))))), lw_okq q
  exact List.forall_mem_append.mpr ⟨lw_r1, List.forall_mem_append.mpr ⟨lw_r2, List.forall_mem_append.mpr ⟨lw_r3, List.forall_mem_append.mpr ⟨lw_r4, List.forall_mem_append.mpr ⟨lw_r5, List.forall_mem_append.mpr ⟨lw_r6, List.forall_mem_append.mpr ⟨lw_r7, lw_r8⟩⟩⟩⟩⟩⟩⟩
def RX0 : String := "MeanRoads$Game"
def TX0 : u_T := fun k => match k with
  | 0 => ("MeanRoads$Game", "solvedSky", "I", false)
  | 1 => ("MeanRoads$Game", "full", "[I", true)
  | 2 => ("MeanRoads$Game", "value", "[I", true)
  | 3 => ("MeanRoads$Game", "chosen", "[I", true)
  | 4 => ("MeanRoads$Game", "goodMine", "[I", true)
  | 5 => ("MeanRoads$Game", "goodYours", "[I", true)
  | _ => ("MeanRoads$Game", "need", "[I", true)
def tyX0 : Nat → FieldType := fun k => match k with
  | 0 => .int
  | 1 => .array .int
  | 2 => .array .int
  | 3 => .array .int
  | 4 => .array .int
  | 5 => .array .int
  | _ => .array .int
abbrev wsX00 : List Cond := u_ws RX0 TX0 7
theorem nmX0 : ∀ a, a < 7 → ∀ b, b < 7 → a ≠ b → (TX0 a).2.1 ≠ (TX0 b).2.1 := by decide +kernel
theorem tyX0_ok : ∀ k, k < 7 → parseFieldDescriptor (TX0 k).2.2.1 = some (tyX0 k) := by decide +kernel
abbrev cX0_init : ByteArray := prog_2_method_1_code
def yX0_init : MethodName := ⟨RX0, "<init>", "()V"⟩
abbrev cX0_forget : ByteArray := prog_2_method_2_code
def yX0_forget : MethodName := ⟨RX0, "forget", "()V"⟩
abbrev cX0_valueAt : ByteArray := prog_2_method_3_code
def yX0_valueAt : MethodName := ⟨RX0, "valueAt", "(I)I"⟩
abbrev cX0_bestWay : ByteArray := prog_2_method_4_code
def yX0_bestWay : MethodName := ⟨RX0, "bestWay", "(I)I"⟩
abbrev cX0_solve : ByteArray := prog_2_method_5_code
def yX0_solve : MethodName := ⟨RX0, "solve", "(LMeanRoads$Land;ILMeanRoads$Survey;)V"⟩
abbrev cX0_weighPlans : ByteArray := prog_2_method_6_code
def yX0_weighPlans : MethodName := ⟨RX0, "weighPlans", "(LMeanRoads$Land;LMeanRoads$Survey;I[I)V"⟩
abbrev cX0_raiseValues : ByteArray := prog_2_method_7_code
def yX0_raiseValues : MethodName := ⟨RX0, "raiseValues", "(LMeanRoads$Land;LMeanRoads$Survey;I[I)Z"⟩
abbrev cX0_isBestSoFar : ByteArray := prog_2_method_8_code
def yX0_isBestSoFar : MethodName := ⟨RX0, "isBestSoFar", "(LMeanRoads$Land;LMeanRoads$Survey;I)Z"⟩
abbrev cX0_keepPlan : ByteArray := prog_2_method_9_code
def yX0_keepPlan : MethodName := ⟨RX0, "keepPlan", "(LMeanRoads$Land;I[I)V"⟩
abbrev cX0_firstPlan : ByteArray := prog_2_method_10_code
def yX0_firstPlan : MethodName := ⟨RX0, "firstPlan", "(LMeanRoads$Land;I[I)V"⟩
abbrev cX0_nextPlan : ByteArray := prog_2_method_11_code
def yX0_nextPlan : MethodName := ⟨RX0, "nextPlan", "(LMeanRoads$Land;I[I)Z"⟩
abbrev cX0_goodPlans : ByteArray := prog_2_method_12_code
def yX0_goodPlans : MethodName := ⟨RX0, "goodPlans", "(II)I"⟩
abbrev cX0_needAt : ByteArray := prog_2_method_13_code
def yX0_needAt : MethodName := ⟨RX0, "needAt", "(I)I"⟩
abbrev cX0_raiseNeeds : ByteArray := prog_2_method_14_code
def yX0_raiseNeeds : MethodName := ⟨RX0, "raiseNeeds", "(LMeanRoads$Land;I)V"⟩
abbrev cX0_needFrom : ByteArray := prog_2_method_15_code
def yX0_needFrom : MethodName := ⟨RX0, "needFrom", "(LMeanRoads$Land;II)I"⟩
abbrev cX0_needAlong : ByteArray := prog_2_method_16_code
def yX0_needAlong : MethodName := ⟨RX0, "needAlong", "(II)I"⟩
def RX1 : String := "MeanRoads$Going"
def TX1 : u_T := fun k => match k with
  | 0 => ("MeanRoads$Going", "places", "[I", true)
  | 1 => ("MeanRoads$Going", "ways", "[I", true)
  | 2 => ("MeanRoads$Going", "paidBy", "[I", true)
  | 3 => ("MeanRoads$Going", "seenAt", "[I", true)
  | 4 => ("MeanRoads$Going", "before", "I", false)
  | _ => ("MeanRoads$Going", "period", "I", false)
def tyX1 : Nat → FieldType := fun k => match k with
  | 0 => .array .int
  | 1 => .array .int
  | 2 => .array .int
  | 3 => .array .int
  | 4 => .int
  | _ => .int
abbrev wsX10 : List Cond := u_ws RX1 TX1 6
theorem nmX1 : ∀ a, a < 6 → ∀ b, b < 6 → a ≠ b → (TX1 a).2.1 ≠ (TX1 b).2.1 := by decide +kernel
theorem tyX1_ok : ∀ k, k < 6 → parseFieldDescriptor (TX1 k).2.2.1 = some (tyX1 k) := by decide +kernel
abbrev cX1_init : ByteArray := prog_3_method_1_code
def yX1_init : MethodName := ⟨RX1, "<init>", "()V"⟩
abbrev cX1_follow : ByteArray := prog_3_method_2_code
def yX1_follow : MethodName := ⟨RX1, "follow", "(LMeanRoads$Land;LMeanRoads$Stand;)V"⟩
abbrev cX1_index : ByteArray := prog_3_method_3_code
def yX1_index : MethodName := ⟨RX1, "index", "(J)I"⟩
abbrev cX1_placeBehind : ByteArray := prog_3_method_4_code
def yX1_placeBehind : MethodName := ⟨RX1, "placeBehind", "(J)I"⟩
abbrev cX1_wayBehind : ByteArray := prog_3_method_5_code
def yX1_wayBehind : MethodName := ⟨RX1, "wayBehind", "(J)I"⟩
abbrev cX1_paidIn : ByteArray := prog_3_method_6_code
def yX1_paidIn : MethodName := ⟨RX1, "paidIn", "(I)I"⟩
abbrev cX1_paidBehind : ByteArray := prog_3_method_7_code
def yX1_paidBehind : MethodName := ⟨RX1, "paidBehind", "(J)J"⟩
abbrev cX1_leastPaid : ByteArray := prog_3_method_8_code
def yX1_leastPaid : MethodName := ⟨RX1, "leastPaid", "(I)J"⟩
def RX2 : String := "MeanRoads$Land"
def TX2 : u_T := fun k => match k with
  | 0 => ("MeanRoads$Land", "places", "I", false)
  | 1 => ("MeanRoads$Land", "mine", "I", false)
  | 2 => ("MeanRoads$Land", "roads", "I", false)
  | 3 => ("MeanRoads$Land", "lines", "I", false)
  | 4 => ("MeanRoads$Land", "from", "[I", true)
  | 5 => ("MeanRoads$Land", "to", "[I", true)
  | 6 => ("MeanRoads$Land", "leaving", "[I", true)
  | 7 => ("MeanRoads$Land", "open", "[I", true)
  | _ => ("MeanRoads$Land", "pays", "[I", true)
def tyX2 : Nat → FieldType := fun k => match k with
  | 0 => .int
  | 1 => .int
  | 2 => .int
  | 3 => .int
  | 4 => .array .int
  | 5 => .array .int
  | 6 => .array .int
  | 7 => .array .int
  | _ => .array .int
abbrev wsX20 : List Cond := u_ws RX2 TX2 9
theorem nmX2 : ∀ a, a < 9 → ∀ b, b < 9 → a ≠ b → (TX2 a).2.1 ≠ (TX2 b).2.1 := by decide +kernel
theorem tyX2_ok : ∀ k, k < 9 → parseFieldDescriptor (TX2 k).2.2.1 = some (tyX2 k) := by decide +kernel
abbrev cX2_init : ByteArray := prog_4_method_1_code
def yX2_init : MethodName := ⟨RX2, "<init>", "()V"⟩
abbrev cX2_copy : ByteArray := prog_4_method_2_code
def yX2_copy : MethodName := ⟨RX2, "copy", "(LMeanRoads$Land;)V"⟩
abbrev cX2_hasPlace : ByteArray := prog_4_method_3_code
def yX2_hasPlace : MethodName := ⟨RX2, "hasPlace", "(I)Z"⟩
abbrev cX2_hasRoad : ByteArray := prog_4_method_4_code
def yX2_hasRoad : MethodName := ⟨RX2, "hasRoad", "(I)Z"⟩
abbrev cX2_owner : ByteArray := prog_4_method_5_code
def yX2_owner : MethodName := ⟨RX2, "owner", "(I)I"⟩
abbrev cX2_openRoads : ByteArray := prog_4_method_6_code
def yX2_openRoads : MethodName := ⟨RX2, "openRoads", "(I)I"⟩
abbrev cX2_openFrom : ByteArray := prog_4_method_7_code
def yX2_openFrom : MethodName := ⟨RX2, "openFrom", "(II)I"⟩
abbrev cX2_isOpen : ByteArray := prog_4_method_8_code
def yX2_isOpen : MethodName := ⟨RX2, "isOpen", "(II)Z"⟩
abbrev cX2_waysFrom : ByteArray := prog_4_method_9_code
def yX2_waysFrom : MethodName := ⟨RX2, "waysFrom", "(II)I"⟩
abbrev cX2_payOf : ByteArray := prog_4_method_10_code
def yX2_payOf : MethodName := ⟨RX2, "payOf", "(II)I"⟩
abbrev cX2_leastPaid : ByteArray := prog_4_method_11_code
def yX2_leastPaid : MethodName := ⟨RX2, "leastPaid", "(I)I"⟩
abbrev cX2_mostPaid : ByteArray := prog_4_method_12_code
def yX2_mostPaid : MethodName := ⟨RX2, "mostPaid", "(I)I"⟩
abbrev cX2_target : ByteArray := prog_4_method_13_code
def yX2_target : MethodName := ⟨RX2, "target", "(II)I"⟩
abbrev cX2_weathersPaying : ByteArray := prog_4_method_14_code
def yX2_weathersPaying : MethodName := ⟨RX2, "weathersPaying", "(II)I"⟩
abbrev cX2_mostAlike : ByteArray := prog_4_method_15_code
def yX2_mostAlike : MethodName := ⟨RX2, "mostAlike", "(II)I"⟩
def RX3 : String := "MeanRoads$Law"
def TX3 : u_T := fun k => match k with
  | 0 => ("MeanRoads$Law", "code", "[I", true)
  | 1 => ("MeanRoads$Law", "stack", "[I", true)
  | 2 => ("MeanRoads$Law", "top", "I", false)
  | _ => ("MeanRoads$Law", "size", "I", false)
def tyX3 : Nat → FieldType := fun k => match k with
  | 0 => .array .int
  | 1 => .array .int
  | 2 => .int
  | _ => .int
abbrev wsX30 : List Cond := u_ws RX3 TX3 4
theorem nmX3 : ∀ a, a < 4 → ∀ b, b < 4 → a ≠ b → (TX3 a).2.1 ≠ (TX3 b).2.1 := by decide +kernel
theorem tyX3_ok : ∀ k, k < 4 → parseFieldDescriptor (TX3 k).2.2.1 = some (tyX3 k) := by decide +kernel
abbrev cX3_init : ByteArray := prog_5_method_1_code
def yX3_init : MethodName := ⟨RX3, "<init>", "()V"⟩
abbrev cX3_add : ByteArray := prog_5_method_2_code
def yX3_add : MethodName := ⟨RX3, "add", "(I)V"⟩
abbrev cX3_push : ByteArray := prog_5_method_3_code
def yX3_push : MethodName := ⟨RX3, "push", "(I)V"⟩
abbrev cX3_pop : ByteArray := prog_5_method_4_code
def yX3_pop : MethodName := ⟨RX3, "pop", "()I"⟩
abbrev cX3_tell : ByteArray := prog_5_method_5_code
def yX3_tell : MethodName := ⟨RX3, "tell", "([I)I"⟩
abbrev cX3_choose : ByteArray := prog_5_method_6_code
def yX3_choose : MethodName := ⟨RX3, "choose", "()V"⟩
abbrev cX3_joined : ByteArray := prog_5_method_7_code
def yX3_joined : MethodName := ⟨RX3, "joined", "(III)I"⟩
abbrev cX3_kept : ByteArray := prog_5_method_8_code
def yX3_kept : MethodName := ⟨RX3, "kept", "(J)I"⟩
def RX4 : String := "MeanRoads$Past"
def TX4 : u_T := fun k => match k with
  | 0 => ("MeanRoads$Past", "kept", "[LMeanRoads$Stand;", true)
  | 1 => ("MeanRoads$Past", "next", "I", false)
  | _ => ("MeanRoads$Past", "size", "I", false)
def tyX4 : Nat → FieldType := fun k => match k with
  | 0 => .array (.object "MeanRoads$Stand")
  | 1 => .int
  | _ => .int
abbrev wsX40 : List Cond := u_ws RX4 TX4 3
theorem nmX4 : ∀ a, a < 3 → ∀ b, b < 3 → a ≠ b → (TX4 a).2.1 ≠ (TX4 b).2.1 := by decide +kernel
theorem tyX4_ok : ∀ k, k < 3 → parseFieldDescriptor (TX4 k).2.2.1 = some (tyX4 k) := by decide +kernel
abbrev cX4_init : ByteArray := prog_6_method_1_code
def yX4_init : MethodName := ⟨RX4, "<init>", "()V"⟩
abbrev cX4_forget : ByteArray := prog_6_method_2_code
def yX4_forget : MethodName := ⟨RX4, "forget", "()V"⟩
abbrev cX4_keep : ByteArray := prog_6_method_3_code
def yX4_keep : MethodName := ⟨RX4, "keep", "(LMeanRoads$Stand;)V"⟩
abbrev cX4_takeBack : ByteArray := prog_6_method_4_code
def yX4_takeBack : MethodName := ⟨RX4, "takeBack", "(LMeanRoads$Stand;)V"⟩
def RX5 : String := "MeanRoads$Reader"
def TX5 : u_T := fun k => match k with
  | 0 => ("MeanRoads$Reader", "tokens", "LMeanRoads$Tokens;", true)
  | 1 => ("MeanRoads$Reader", "pays", "LMeanRoads$Law;", true)
  | 2 => ("MeanRoads$Reader", "open", "LMeanRoads$Law;", true)
  | 3 => ("MeanRoads$Reader", "law", "LMeanRoads$Law;", false)
  | 4 => ("MeanRoads$Reader", "places", "I", false)
  | 5 => ("MeanRoads$Reader", "mine", "I", false)
  | 6 => ("MeanRoads$Reader", "roads", "I", false)
  | 7 => ("MeanRoads$Reader", "lines", "I", false)
  | 8 => ("MeanRoads$Reader", "from", "[I", true)
  | 9 => ("MeanRoads$Reader", "to", "[I", true)
  | 10 => ("MeanRoads$Reader", "told", "[I", true)
  | 11 => ("MeanRoads$Reader", "named", "[I", true)
  | 12 => ("MeanRoads$Reader", "sky", "I", false)
  | 13 => ("MeanRoads$Reader", "faultKind", "I", false)
  | _ => ("MeanRoads$Reader", "faultPlace", "I", false)
def tyX5 : Nat → FieldType := fun k => match k with
  | 0 => .object "MeanRoads$Tokens"
  | 1 => .object "MeanRoads$Law"
  | 2 => .object "MeanRoads$Law"
  | 3 => .object "MeanRoads$Law"
  | 4 => .int
  | 5 => .int
  | 6 => .int
  | 7 => .int
  | 8 => .array .int
  | 9 => .array .int
  | 10 => .array .int
  | 11 => .array .int
  | 12 => .int
  | 13 => .int
  | _ => .int
abbrev wsX50 : List Cond := u_ws RX5 TX5 15
theorem nmX5 : ∀ a, a < 15 → ∀ b, b < 15 → a ≠ b → (TX5 a).2.1 ≠ (TX5 b).2.1 := by decide +kernel
theorem tyX5_ok : ∀ k, k < 15 → parseFieldDescriptor (TX5 k).2.2.1 = some (tyX5 k) := by decide +kernel
abbrev cX5_init : ByteArray := prog_7_method_1_code
def yX5_init : MethodName := ⟨RX5, "<init>", "()V"⟩
abbrev cX5_readText : ByteArray := prog_7_method_2_code
def yX5_readText : MethodName := ⟨RX5, "readText", "([BI)V"⟩
abbrev cX5_refuse : ByteArray := prog_7_method_3_code
def yX5_refuse : MethodName := ⟨RX5, "refuse", "(I)V"⟩
abbrev cX5_take : ByteArray := prog_7_method_4_code
def yX5_take : MethodName := ⟨RX5, "take", "(Ljava/lang/String;)Z"⟩
abbrev cX5_expect : ByteArray := prog_7_method_5_code
def yX5_expect : MethodName := ⟨RX5, "expect", "(Ljava/lang/String;)V"⟩
abbrev cX5_number : ByteArray := prog_7_method_6_code
def yX5_number : MethodName := ⟨RX5, "number", "(I)I"⟩
abbrev cX5_readLine : ByteArray := prog_7_method_7_code
def yX5_readLine : MethodName := ⟨RX5, "readLine", "()V"⟩
abbrev cX5_beginLaw : ByteArray := prog_7_method_8_code
def yX5_beginLaw : MethodName := ⟨RX5, "beginLaw", "(LMeanRoads$Law;)V"⟩
abbrev cX5_readPlace : ByteArray := prog_7_method_9_code
def yX5_readPlace : MethodName := ⟨RX5, "readPlace", "()V"⟩
abbrev cX5_readRoad : ByteArray := prog_7_method_10_code
def yX5_readRoad : MethodName := ⟨RX5, "readRoad", "()V"⟩
abbrev cX5_mayDeepen : ByteArray := prog_7_method_11_code
def yX5_mayDeepen : MethodName := ⟨RX5, "mayDeepen", "(I)Z"⟩
abbrev cX5_truth : ByteArray := prog_7_method_12_code
def yX5_truth : MethodName := ⟨RX5, "truth", "(I)V"⟩
abbrev cX5_both : ByteArray := prog_7_method_13_code
def yX5_both : MethodName := ⟨RX5, "both", "(I)V"⟩
abbrev cX5_unit : ByteArray := prog_7_method_14_code
def yX5_unit : MethodName := ⟨RX5, "unit", "(I)V"⟩
abbrev cX5_comparison : ByteArray := prog_7_method_15_code
def yX5_comparison : MethodName := ⟨RX5, "comparison", "()I"⟩
abbrev cX5_sum : ByteArray := prog_7_method_16_code
def yX5_sum : MethodName := ⟨RX5, "sum", "(I)V"⟩
abbrev cX5_term : ByteArray := prog_7_method_17_code
def yX5_term : MethodName := ⟨RX5, "term", "(I)V"⟩
abbrev cX5_atom : ByteArray := prog_7_method_18_code
def yX5_atom : MethodName := ⟨RX5, "atom", "(I)V"⟩
abbrev cX5_choice : ByteArray := prog_7_method_19_code
def yX5_choice : MethodName := ⟨RX5, "choice", "(I)V"⟩
abbrev cX5_nameCode : ByteArray := prog_7_method_20_code
def yX5_nameCode : MethodName := ⟨RX5, "nameCode", "()I"⟩
abbrev cX5_settle : ByteArray := prog_7_method_21_code
def yX5_settle : MethodName := ⟨RX5, "settle", "(LMeanRoads$Land;)V"⟩
abbrev cX5_settleRoad : ByteArray := prog_7_method_22_code
def yX5_settleRoad : MethodName := ⟨RX5, "settleRoad", "(LMeanRoads$Land;II)V"⟩
def RX6 : String := "MeanRoads$Stand"
def TX6 : u_T := fun k => match k with
  | 0 => ("MeanRoads$Stand", "token", "I", false)
  | 1 => ("MeanRoads$Stand", "money", "J", false)
  | 2 => ("MeanRoads$Stand", "moved", "I", false)
  | 3 => ("MeanRoads$Stand", "sky", "I", false)
  | _ => ("MeanRoads$Stand", "planned", "[I", true)
def tyX6 : Nat → FieldType := fun k => match k with
  | 0 => .int
  | 1 => .long
  | 2 => .int
  | 3 => .int
  | _ => .array .int
abbrev wsX60 : List Cond := u_ws RX6 TX6 5
theorem nmX6 : ∀ a, a < 5 → ∀ b, b < 5 → a ≠ b → (TX6 a).2.1 ≠ (TX6 b).2.1 := by decide +kernel
theorem tyX6_ok : ∀ k, k < 5 → parseFieldDescriptor (TX6 k).2.2.1 = some (tyX6 k) := by decide +kernel
abbrev cX6_init : ByteArray := prog_8_method_1_code
def yX6_init : MethodName := ⟨RX6, "<init>", "()V"⟩
abbrev cX6_begin : ByteArray := prog_8_method_2_code
def yX6_begin : MethodName := ⟨RX6, "begin", "(I)V"⟩
abbrev cX6_copy : ByteArray := prog_8_method_3_code
def yX6_copy : MethodName := ⟨RX6, "copy", "(LMeanRoads$Stand;)V"⟩
abbrev cX6_planOf : ByteArray := prog_8_method_4_code
def yX6_planOf : MethodName := ⟨RX6, "planOf", "(I)I"⟩
abbrev cX6_setPlan : ByteArray := prog_8_method_5_code
def yX6_setPlan : MethodName := ⟨RX6, "setPlan", "(II)V"⟩
abbrev cX6_wayByPlan : ByteArray := prog_8_method_6_code
def yX6_wayByPlan : MethodName := ⟨RX6, "wayByPlan", "(LMeanRoads$Land;I)I"⟩
abbrev cX6_whyNotMove : ByteArray := prog_8_method_7_code
def yX6_whyNotMove : MethodName := ⟨RX6, "whyNotMove", "(LMeanRoads$Land;I)I"⟩
abbrev cX6_whyNotPlan : ByteArray := prog_8_method_8_code
def yX6_whyNotPlan : MethodName := ⟨RX6, "whyNotPlan", "(LMeanRoads$Land;II)I"⟩
abbrev cX6_goAlong : ByteArray := prog_8_method_9_code
def yX6_goAlong : MethodName := ⟨RX6, "goAlong", "(LMeanRoads$Land;I)V"⟩
abbrev cX6_goByPlan : ByteArray := prog_8_method_10_code
def yX6_goByPlan : MethodName := ⟨RX6, "goByPlan", "(LMeanRoads$Land;)V"⟩
abbrev cX6_tryDeed : ByteArray := prog_8_method_11_code
def yX6_tryDeed : MethodName := ⟨RX6, "tryDeed", "(LMeanRoads$Land;J)I"⟩
abbrev cX6_tryPlan : ByteArray := prog_8_method_12_code
def yX6_tryPlan : MethodName := ⟨RX6, "tryPlan", "(LMeanRoads$Land;I)I"⟩
abbrev cX6_doAll : ByteArray := prog_8_method_13_code
def yX6_doAll : MethodName := ⟨RX6, "doAll", "(LMeanRoads$Land;LMeanRoads$Tray;)I"⟩
def RX7 : String := "MeanRoads$Sums"
def TX7 : u_T := fun k => match k with
  | 0 => ("MeanRoads$Sums", "counts", "[I", true)
  | 1 => ("MeanRoads$Sums", "lying", "[I", true)
  | 2 => ("MeanRoads$Sums", "arriving", "[I", true)
  | 3 => ("MeanRoads$Sums", "least", "I", false)
  | _ => ("MeanRoads$Sums", "size", "I", false)
def tyX7 : Nat → FieldType := fun k => match k with
  | 0 => .array .int
  | 1 => .array .int
  | 2 => .array .int
  | 3 => .int
  | _ => .int
abbrev wsX70 : List Cond := u_ws RX7 TX7 5
theorem nmX7 : ∀ a, a < 5 → ∀ b, b < 5 → a ≠ b → (TX7 a).2.1 ≠ (TX7 b).2.1 := by decide +kernel
theorem tyX7_ok : ∀ k, k < 5 → parseFieldDescriptor (TX7 k).2.2.1 = some (tyX7 k) := by decide +kernel
abbrev cX7_init : ByteArray := prog_9_method_1_code
def yX7_init : MethodName := ⟨RX7, "<init>", "()V"⟩
abbrev cX7_begin : ByteArray := prog_9_method_2_code
def yX7_begin : MethodName := ⟨RX7, "begin", "(I)V"⟩
abbrev cX7_rowsAt : ByteArray := prog_9_method_3_code
def yX7_rowsAt : MethodName := ⟨RX7, "rowsAt", "(II)I"⟩
abbrev cX7_stepByChoice : ByteArray := prog_9_method_4_code
def yX7_stepByChoice : MethodName := ⟨RX7, "stepByChoice", "(LMeanRoads$Land;I)V"⟩
abbrev cX7_stepByLots : ByteArray := prog_9_method_5_code
def yX7_stepByLots : MethodName := ⟨RX7, "stepByLots", "(LMeanRoads$Land;I)V"⟩
abbrev cX7_firstBits : ByteArray := prog_9_method_6_code
def yX7_firstBits : MethodName := ⟨RX7, "firstBits", "(II)I"⟩
abbrev cX7_step : ByteArray := prog_9_method_7_code
def yX7_step : MethodName := ⟨RX7, "step", "(LMeanRoads$Land;II)V"⟩
abbrev cX7_arrive : ByteArray := prog_9_method_8_code
def yX7_arrive : MethodName := ⟨RX7, "arrive", "(LMeanRoads$Land;II)V"⟩
abbrev cX7_rowsPaying : ByteArray := prog_9_method_9_code
def yX7_rowsPaying : MethodName := ⟨RX7, "rowsPaying", "(I)I"⟩
abbrev cX7_rowsWith : ByteArray := prog_9_method_10_code
def yX7_rowsWith : MethodName := ⟨RX7, "rowsWith", "(I)I"⟩
abbrev cX7_unlikeSums : ByteArray := prog_9_method_11_code
def yX7_unlikeSums : MethodName := ⟨RX7, "unlikeSums", "(I)I"⟩
abbrev cX7_rowsKeeping : ByteArray := prog_9_method_12_code
def yX7_rowsKeeping : MethodName := ⟨RX7, "rowsKeeping", "(J)J"⟩
abbrev cX7_allPaid : ByteArray := prog_9_method_13_code
def yX7_allPaid : MethodName := ⟨RX7, "allPaid", "()J"⟩
def RX8 : String := "MeanRoads$Survey"
def TX8 : u_T := fun k => match k with
  | 0 => ("MeanRoads$Survey", "land", "LMeanRoads$Land;", false)
  | 1 => ("MeanRoads$Survey", "sky", "I", false)
  | 2 => ("MeanRoads$Survey", "root", "I", false)
  | 3 => ("MeanRoads$Survey", "ways", "[I", true)
  | 4 => ("MeanRoads$Survey", "reached", "[I", true)
  | 5 => ("MeanRoads$Survey", "leastHere", "[I", true)
  | 6 => ("MeanRoads$Survey", "greatestHere", "[I", true)
  | 7 => ("MeanRoads$Survey", "least", "[I", true)
  | 8 => ("MeanRoads$Survey", "greatest", "[I", true)
  | _ => ("MeanRoads$Survey", "found", "I", false)
def tyX8 : Nat → FieldType := fun k => match k with
  | 0 => .object "MeanRoads$Land"
  | 1 => .int
  | 2 => .int
  | 3 => .array .int
  | 4 => .array .int
  | 5 => .array .int
  | 6 => .array .int
  | 7 => .array .int
  | 8 => .array .int
  | _ => .int
abbrev wsX80 : List Cond := u_ws RX8 TX8 10
theorem nmX8 : ∀ a, a < 10 → ∀ b, b < 10 → a ≠ b → (TX8 a).2.1 ≠ (TX8 b).2.1 := by decide +kernel
theorem tyX8_ok : ∀ k, k < 10 → parseFieldDescriptor (TX8 k).2.2.1 = some (tyX8 k) := by decide +kernel
abbrev cX8_init : ByteArray := prog_10_method_1_code
def yX8_init : MethodName := ⟨RX8, "<init>", "()V"⟩
abbrev cX8_allWays : ByteArray := prog_10_method_2_code
def yX8_allWays : MethodName := ⟨RX8, "allWays", "(LMeanRoads$Land;I)V"⟩
abbrev cX8_onlyWay : ByteArray := prog_10_method_3_code
def yX8_onlyWay : MethodName := ⟨RX8, "onlyWay", "(II)V"⟩
abbrev cX8_securedBy : ByteArray := prog_10_method_4_code
def yX8_securedBy : MethodName := ⟨RX8, "securedBy", "(II)I"⟩
abbrev cX8_placeCount : ByteArray := prog_10_method_5_code
def yX8_placeCount : MethodName := ⟨RX8, "placeCount", "()I"⟩
abbrev cX8_look : ByteArray := prog_10_method_6_code
def yX8_look : MethodName := ⟨RX8, "look", "()V"⟩
abbrev cX8_walk : ByteArray := prog_10_method_7_code
def yX8_walk : MethodName := ⟨RX8, "walk", "(IIII)V"⟩
abbrev cX8_note : ByteArray := prog_10_method_8_code
def yX8_note : MethodName := ⟨RX8, "note", "(II)V"⟩
abbrev cX8_reachAll : ByteArray := prog_10_method_9_code
def yX8_reachAll : MethodName := ⟨RX8, "reachAll", "(I)V"⟩
abbrev cX8_gather : ByteArray := prog_10_method_10_code
def yX8_gather : MethodName := ⟨RX8, "gather", "(II)V"⟩
abbrev cX8_placesOnLeast : ByteArray := prog_10_method_11_code
def yX8_placesOnLeast : MethodName := ⟨RX8, "placesOnLeast", "()I"⟩
abbrev cX8_placesOnGreatest : ByteArray := prog_10_method_12_code
def yX8_placesOnGreatest : MethodName := ⟨RX8, "placesOnGreatest", "()I"⟩
abbrev cX8_placesEqual : ByteArray := prog_10_method_13_code
def yX8_placesEqual : MethodName := ⟨RX8, "placesEqual", "([II)I"⟩
def RX9 : String := "MeanRoads$Tokens"
def TX9 : u_T := fun k => match k with
  | 0 => ("MeanRoads$Tokens", "text", "[B", false)
  | 1 => ("MeanRoads$Tokens", "size", "I", false)
  | 2 => ("MeanRoads$Tokens", "end", "I", false)
  | 3 => ("MeanRoads$Tokens", "kind", "I", false)
  | 4 => ("MeanRoads$Tokens", "start", "I", false)
  | _ => ("MeanRoads$Tokens", "value", "I", false)
def tyX9 : Nat → FieldType := fun k => match k with
  | 0 => .array .byte
  | 1 => .int
  | 2 => .int
  | 3 => .int
  | 4 => .int
  | _ => .int
abbrev wsX90 : List Cond := u_ws RX9 TX9 6
theorem nmX9 : ∀ a, a < 6 → ∀ b, b < 6 → a ≠ b → (TX9 a).2.1 ≠ (TX9 b).2.1 := by decide +kernel
theorem tyX9_ok : ∀ k, k < 6 → parseFieldDescriptor (TX9 k).2.2.1 = some (tyX9 k) := by decide +kernel
abbrev cX9_init : ByteArray := prog_11_method_1_code
def yX9_init : MethodName := ⟨RX9, "<init>", "()V"⟩
abbrev cX9_begin : ByteArray := prog_11_method_2_code
def yX9_begin : MethodName := ⟨RX9, "begin", "([BI)V"⟩
abbrev cX9_advance : ByteArray := prog_11_method_3_code
def yX9_advance : MethodName := ⟨RX9, "advance", "()V"⟩
abbrev cX9_isLetter : ByteArray := prog_11_method_4_code
def yX9_isLetter : MethodName := ⟨RX9, "isLetter", "(I)Z"⟩
abbrev cX9_isDigit : ByteArray := prog_11_method_5_code
def yX9_isDigit : MethodName := ⟨RX9, "isDigit", "(I)Z"⟩
abbrev cX9_isEnd : ByteArray := prog_11_method_6_code
def yX9_isEnd : MethodName := ⟨RX9, "isEnd", "()Z"⟩
abbrev cX9_isBad : ByteArray := prog_11_method_7_code
def yX9_isBad : MethodName := ⟨RX9, "isBad", "()Z"⟩
abbrev cX9_isNumber : ByteArray := prog_11_method_8_code
def yX9_isNumber : MethodName := ⟨RX9, "isNumber", "()Z"⟩
abbrev cX9_is : ByteArray := prog_11_method_9_code
def yX9_is : MethodName := ⟨RX9, "is", "(Ljava/lang/String;)Z"⟩
def RX10 : String := "MeanRoads$Tray"
def TX10 : u_T := fun k => match k with
  | 0 => ("MeanRoads$Tray", "sort", "I", false)
  | 1 => ("MeanRoads$Tray", "size", "I", false)
  | _ => ("MeanRoads$Tray", "values", "[J", true)
def tyX10 : Nat → FieldType := fun k => match k with
  | 0 => .int
  | 1 => .int
  | _ => .array .long
abbrev wsX100 : List Cond := u_ws RX10 TX10 3
theorem nmX10 : ∀ a, a < 3 → ∀ b, b < 3 → a ≠ b → (TX10 a).2.1 ≠ (TX10 b).2.1 := by decide +kernel
theorem tyX10_ok : ∀ k, k < 3 → parseFieldDescriptor (TX10 k).2.2.1 = some (tyX10 k) := by decide +kernel
abbrev cX10_init : ByteArray := prog_12_method_1_code
def yX10_init : MethodName := ⟨RX10, "<init>", "()V"⟩
abbrev cX10_isMissing : ByteArray := prog_12_method_2_code
def yX10_isMissing : MethodName := ⟨RX10, "isMissing", "()Z"⟩
abbrev cX10_renew : ByteArray := prog_12_method_3_code
def yX10_renew : MethodName := ⟨RX10, "renew", "(II)V"⟩
abbrev cX10_number : ByteArray := prog_12_method_4_code
def yX10_number : MethodName := ⟨RX10, "number", "(I)J"⟩
abbrev cX10_put : ByteArray := prog_12_method_5_code
def yX10_put : MethodName := ⟨RX10, "put", "(IJ)V"⟩
abbrev cX10_cut : ByteArray := prog_12_method_6_code
def yX10_cut : MethodName := ⟨RX10, "cut", "(J)J"⟩
def RX11 : String := "MeanRoads"
def TX11 : u_T := fun k => match k with
  | 0 => ("MeanRoads", "tape", "[B", true)
  | 1 => ("MeanRoads", "tapeSize", "I", false)
  | 2 => ("MeanRoads", "reader", "LMeanRoads$Reader;", true)
  | 3 => ("MeanRoads", "ground", "LMeanRoads$Land;", true)
  | 4 => ("MeanRoads", "now", "LMeanRoads$Stand;", true)
  | 5 => ("MeanRoads", "trial", "LMeanRoads$Stand;", true)
  | 6 => ("MeanRoads", "past", "LMeanRoads$Past;", true)
  | 7 => ("MeanRoads", "trays", "[LMeanRoads$Tray;", true)
  | 8 => ("MeanRoads", "keptGrounds", "[LMeanRoads$Land;", true)
  | 9 => ("MeanRoads", "keptStands", "[LMeanRoads$Stand;", true)
  | 10 => ("MeanRoads", "survey", "LMeanRoads$Survey;", true)
  | 11 => ("MeanRoads", "game", "LMeanRoads$Game;", true)
  | 12 => ("MeanRoads", "going", "LMeanRoads$Going;", true)
  | 13 => ("MeanRoads", "table", "LMeanRoads$Sums;", true)
  | 14 => ("MeanRoads", "securedMine", "[I", true)
  | _ => ("MeanRoads", "imagesMade", "I", false)
def tyX11 : Nat → FieldType := fun k => match k with
  | 0 => .array .byte
  | 1 => .int
  | 2 => .object "MeanRoads$Reader"
  | 3 => .object "MeanRoads$Land"
  | 4 => .object "MeanRoads$Stand"
  | 5 => .object "MeanRoads$Stand"
  | 6 => .object "MeanRoads$Past"
  | 7 => .array (.object "MeanRoads$Tray")
  | 8 => .array (.object "MeanRoads$Land")
  | 9 => .array (.object "MeanRoads$Stand")
  | 10 => .object "MeanRoads$Survey"
  | 11 => .object "MeanRoads$Game"
  | 12 => .object "MeanRoads$Going"
  | 13 => .object "MeanRoads$Sums"
  | 14 => .array .int
  | _ => .int
abbrev wsX110 : List Cond := u_ws RX11 TX11 16
theorem nmX11 : ∀ a, a < 16 → ∀ b, b < 16 → a ≠ b → (TX11 a).2.1 ≠ (TX11 b).2.1 := by decide +kernel
theorem tyX11_ok : ∀ k, k < 16 → parseFieldDescriptor (TX11 k).2.2.1 = some (tyX11 k) := by decide +kernel
abbrev cX11_init : ByteArray := prog_1_method_1_code
def yX11_init : MethodName := ⟨RX11, "<init>", "()V"⟩
abbrev cX11_feed : ByteArray := prog_1_method_2_code
def yX11_feed : MethodName := ⟨RX11, "feed", "(IIIII)I"⟩
abbrev cX11_putBytes : ByteArray := prog_1_method_3_code
def yX11_putBytes : MethodName := ⟨RX11, "putBytes", "(I)V"⟩
abbrev cX11_land : ByteArray := prog_1_method_4_code
def yX11_land : MethodName := ⟨RX11, "land", "(I)I"⟩
abbrev cX11_fault : ByteArray := prog_1_method_5_code
def yX11_fault : MethodName := ⟨RX11, "fault", "(I)I"⟩
abbrev cX11_place : ByteArray := prog_1_method_6_code
def yX11_place : MethodName := ⟨RX11, "place", "(II)I"⟩
abbrev cX11_road : ByteArray := prog_1_method_7_code
def yX11_road : MethodName := ⟨RX11, "road", "(II)I"⟩
abbrev cX11_pay : ByteArray := prog_1_method_8_code
def yX11_pay : MethodName := ⟨RX11, "pay", "(I)J"⟩
abbrev cX11_move : ByteArray := prog_1_method_9_code
def yX11_move : MethodName := ⟨RX11, "move", "(I)J"⟩
abbrev cX11_moves : ByteArray := prog_1_method_10_code
def yX11_moves : MethodName := ⟨RX11, "moves", "(I)J"⟩
abbrev cX11_plan : ByteArray := prog_1_method_11_code
def yX11_plan : MethodName := ⟨RX11, "plan", "(II)I"⟩
abbrev cX11_plays : ByteArray := prog_1_method_12_code
def yX11_plays : MethodName := ⟨RX11, "plays", "(I)I"⟩
abbrev cX11_weather : ByteArray := prog_1_method_13_code
def yX11_weather : MethodName := ⟨RX11, "weather", "(I)I"⟩
abbrev cX11_undo : ByteArray := prog_1_method_14_code
def yX11_undo : MethodName := ⟨RX11, "undo", "(I)I"⟩
abbrev cX11_judge : ByteArray := prog_1_method_15_code
def yX11_judge : MethodName := ⟨RX11, "judge", "(II)I"⟩
abbrev cX11_perform : ByteArray := prog_1_method_16_code
def yX11_perform : MethodName := ⟨RX11, "perform", "(I)I"⟩
abbrev cX11_journey : ByteArray := prog_1_method_17_code
def yX11_journey : MethodName := ⟨RX11, "journey", "(II)I"⟩
abbrev cX11_nextDraw : ByteArray := prog_1_method_18_code
def yX11_nextDraw : MethodName := ⟨RX11, "nextDraw", "(I)I"⟩
abbrev cX11_rings : ByteArray := prog_1_method_19_code
def yX11_rings : MethodName := ⟨RX11, "rings", "()I"⟩
abbrev cX11_ring : ByteArray := prog_1_method_20_code
def yX11_ring : MethodName := ⟨RX11, "ring", "(III)J"⟩
abbrev cX11_reach : ByteArray := prog_1_method_21_code
def yX11_reach : MethodName := ⟨RX11, "reach", "(I)I"⟩
abbrev cX11_onRing : ByteArray := prog_1_method_22_code
def yX11_onRing : MethodName := ⟨RX11, "onRing", "(I)I"⟩
abbrev cX11_lookAtAll : ByteArray := prog_1_method_23_code
def yX11_lookAtAll : MethodName := ⟨RX11, "lookAtAll", "()V"⟩
abbrev cX11_worth : ByteArray := prog_1_method_24_code
def yX11_worth : MethodName := ⟨RX11, "worth", "(II)J"⟩
abbrev cX11_wins : ByteArray := prog_1_method_25_code
def yX11_wins : MethodName := ⟨RX11, "wins", "(I)I"⟩
abbrev cX11_atLeast : ByteArray := prog_1_method_26_code
def yX11_atLeast : MethodName := ⟨RX11, "atLeast", "(III)I"⟩
abbrev cX11_best : ByteArray := prog_1_method_27_code
def yX11_best : MethodName := ⟨RX11, "best", "(I)I"⟩
abbrev cX11_secures : ByteArray := prog_1_method_28_code
def yX11_secures : MethodName := ⟨RX11, "secures", "(III)J"⟩
abbrev cX11_lookAtPlanOf : ByteArray := prog_1_method_29_code
def yX11_lookAtPlanOf : MethodName := ⟨RX11, "lookAtPlanOf", "(I)V"⟩
abbrev cX11_meet : ByteArray := prog_1_method_30_code
def yX11_meet : MethodName := ⟨RX11, "meet", "()I"⟩
abbrev cX11_plans : ByteArray := prog_1_method_31_code
def yX11_plans : MethodName := ⟨RX11, "plans", "(II)I"⟩
abbrev cX11_energy : ByteArray := prog_1_method_32_code
def yX11_energy : MethodName := ⟨RX11, "energy", "(I)I"⟩
abbrev cX11_at : ByteArray := prog_1_method_33_code
def yX11_at : MethodName := ⟨RX11, "at", "(J)I"⟩
abbrev cX11_purse : ByteArray := prog_1_method_34_code
def yX11_purse : MethodName := ⟨RX11, "purse", "(J)J"⟩
abbrev cX11_round : ByteArray := prog_1_method_35_code
def yX11_round : MethodName := ⟨RX11, "round", "(I)I"⟩
abbrev cX11_paid : ByteArray := prog_1_method_36_code
def yX11_paid : MethodName := ⟨RX11, "paid", "(I)J"⟩
abbrev cX11_rows : ByteArray := prog_1_method_37_code
def yX11_rows : MethodName := ⟨RX11, "rows", "(II)I"⟩
abbrev cX11_sums : ByteArray := prog_1_method_38_code
def yX11_sums : MethodName := ⟨RX11, "sums", "(I)I"⟩
abbrev cX11_sumsAt : ByteArray := prog_1_method_39_code
def yX11_sumsAt : MethodName := ⟨RX11, "sumsAt", "(II)I"⟩
abbrev cX11_isRow : ByteArray := prog_1_method_40_code
def yX11_isRow : MethodName := ⟨RX11, "isRow", "(I)Z"⟩
abbrev cX11_countRows : ByteArray := prog_1_method_41_code
def yX11_countRows : MethodName := ⟨RX11, "countRows", "(I)V"⟩
abbrev cX11_weathers : ByteArray := prog_1_method_42_code
def yX11_weathers : MethodName := ⟨RX11, "weathers", "(I)I"⟩
abbrev cX11_ask : ByteArray := prog_1_method_43_code
def yX11_ask : MethodName := ⟨RX11, "ask", "(I)I"⟩
abbrev cX11_chance : ByteArray := prog_1_method_44_code
def yX11_chance : MethodName := ⟨RX11, "chance", "(II)I"⟩
abbrev cX11_mean : ByteArray := prog_1_method_45_code
def yX11_mean : MethodName := ⟨RX11, "mean", "(II)J"⟩
abbrev cX11_drawLots : ByteArray := prog_1_method_46_code
def yX11_drawLots : MethodName := ⟨RX11, "drawLots", "(I)J"⟩
abbrev cX11_numbers : ByteArray := prog_1_method_47_code
def yX11_numbers : MethodName := ⟨RX11, "numbers", "(III)I"⟩
abbrev cX11_write : ByteArray := prog_1_method_48_code
def yX11_write : MethodName := ⟨RX11, "write", "(IIJ)J"⟩
abbrev cX11_lists : ByteArray := prog_1_method_49_code
def yX11_lists : MethodName := ⟨RX11, "lists", "(I)I"⟩
abbrev cX11_image : ByteArray := prog_1_method_50_code
def yX11_image : MethodName := ⟨RX11, "image", "(I)I"⟩
abbrev cX11_restore : ByteArray := prog_1_method_51_code
def yX11_restore : MethodName := ⟨RX11, "restore", "(I)I"⟩
abbrev cX11_count : ByteArray := prog_1_method_52_code
def yX11_count : MethodName := ⟨RX11, "count", "(I)I"⟩
abbrev cX11_isTray : ByteArray := prog_1_method_53_code
def yX11_isTray : MethodName := ⟨RX11, "isTray", "(I)Z"⟩
abbrev cX11_isImage : ByteArray := prog_1_method_54_code
def yX11_isImage : MethodName := ⟨RX11, "isImage", "(I)Z"⟩
abbrev cX11_isEither : ByteArray := prog_1_method_55_code
def yX11_isEither : MethodName := ⟨RX11, "isEither", "(I)Z"⟩
abbrev cX11_isPlayer : ByteArray := prog_1_method_56_code
def yX11_isPlayer : MethodName := ⟨RX11, "isPlayer", "(I)Z"⟩
abbrev cX11_isWeather : ByteArray := prog_1_method_57_code
def yX11_isWeather : MethodName := ⟨RX11, "isWeather", "(I)Z"⟩
abbrev cX11_lowestTerms : ByteArray := prog_1_method_58_code
def yX11_lowestTerms : MethodName := ⟨RX11, "lowestTerms", "(JJI)J"⟩
def RX12 : String := "MeanRoadsModel"
def TX12 : u_T := fun k => match k with
  | 0 => ("MeanRoadsModel", "thrown", "I", false)
  | 1 => ("MeanRoadsModel", "all", "[I", true)
  | 2 => ("MeanRoadsModel", "hasImage", "[Z", true)
  | 3 => ("MeanRoadsModel", "tape", "[I", true)
  | 4 => ("MeanRoadsModel", "fresh", "[I", true)
  | 5 => ("MeanRoadsModel", "taped", "I", false)
  | 6 => ("MeanRoadsModel", "at", "I", false)
  | 7 => ("MeanRoadsModel", "behind", "I", false)
  | 8 => ("MeanRoadsModel", "size", "I", false)
  | 9 => ("MeanRoadsModel", "kind", "I", false)
  | 10 => ("MeanRoadsModel", "number", "I", false)
  | 11 => ("MeanRoadsModel", "wrong", "I", false)
  | 12 => ("MeanRoadsModel", "wrongAt", "I", false)
  | 13 => ("MeanRoadsModel", "faultKind", "I", false)
  | 14 => ("MeanRoadsModel", "faultPlace", "I", false)
  | 15 => ("MeanRoadsModel", "reckoned", "[I", true)
  | 16 => ("MeanRoadsModel", "words", "[I", true)
  | 17 => ("MeanRoadsModel", "wayFrom", "[I", true)
  | 18 => ("MeanRoadsModel", "wayTo", "[I", true)
  | 19 => ("MeanRoadsModel", "wayPay", "[I", true)
  | 20 => ("MeanRoadsModel", "waysOf", "[I", true)
  | 21 => ("MeanRoadsModel", "was", "[I", true)
  | 22 => ("MeanRoadsModel", "toldWhy", "I", false)
  | 23 => ("MeanRoadsModel", "x", "I", false)
  | 24 => ("MeanRoadsModel", "ringWays", "[I", true)
  | 25 => ("MeanRoadsModel", "ringPlaces", "[I", true)
  | 26 => ("MeanRoadsModel", "ringPay", "[I", true)
  | 27 => ("MeanRoadsModel", "ringLong", "[I", true)
  | 28 => ("MeanRoadsModel", "ringMany", "I", false)
  | 29 => ("MeanRoadsModel", "bestWays", "[I", true)
  | 30 => ("MeanRoadsModel", "worthRing", "[I", true)
  | 31 => ("MeanRoadsModel", "securing", "[I", true)
  | 32 => ("MeanRoadsModel", "securedRing", "[I", true)
  | 33 => ("MeanRoadsModel", "purse1", "[I", true)
  | 34 => ("MeanRoadsModel", "goPlace", "[I", true)
  | 35 => ("MeanRoadsModel", "goPaid", "[J", true)
  | 36 => ("MeanRoadsModel", "ahead", "I", false)
  | 37 => ("MeanRoadsModel", "around", "I", false)
  | 38 => ("MeanRoadsModel", "many", "[I", true)
  | 39 => ("MeanRoadsModel", "manyThen", "[I", true)
  | 40 => ("MeanRoadsModel", "payIn", "[I", true)
  | 41 => ("MeanRoadsModel", "safeSum", "J", false)
  | 42 => ("MeanRoadsModel", "purseSum", "J", false)
  | 43 => ("MeanRoadsModel", "rowSort", "[I", true)
  | 44 => ("MeanRoadsModel", "rowMany", "[I", true)
  | _ => ("MeanRoadsModel", "numbers", "[J", true)
def tyX12 : Nat → FieldType := fun k => match k with
  | 0 => .int
  | 1 => .array .int
  | 2 => .array .boolean
  | 3 => .array .int
  | 4 => .array .int
  | 5 => .int
  | 6 => .int
  | 7 => .int
  | 8 => .int
  | 9 => .int
  | 10 => .int
  | 11 => .int
  | 12 => .int
  | 13 => .int
  | 14 => .int
  | 15 => .array .int
  | 16 => .array .int
  | 17 => .array .int
  | 18 => .array .int
  | 19 => .array .int
  | 20 => .array .int
  | 21 => .array .int
  | 22 => .int
  | 23 => .int
  | 24 => .array .int
  | 25 => .array .int
  | 26 => .array .int
  | 27 => .array .int
  | 28 => .int
  | 29 => .array .int
  | 30 => .array .int
  | 31 => .array .int
  | 32 => .array .int
  | 33 => .array .int
  | 34 => .array .int
  | 35 => .array .long
  | 36 => .int
  | 37 => .int
  | 38 => .array .int
  | 39 => .array .int
  | 40 => .array .int
  | 41 => .long
  | 42 => .long
  | 43 => .array .int
  | 44 => .array .int
  | _ => .array .long
abbrev wsX120 : List Cond := u_ws RX12 TX12 46
theorem nmX12 : ∀ a, a < 46 → ∀ b, b < 46 → a ≠ b → (TX12 a).2.1 ≠ (TX12 b).2.1 := by decide +kernel
theorem tyX12_ok : ∀ k, k < 46 → parseFieldDescriptor (TX12 k).2.2.1 = some (tyX12 k) := by decide +kernel
abbrev cX12_within : ByteArray := prog_14_method_2_code
def yX12_within : MethodName := ⟨RX12, "within", "(JJJ)Z"⟩
abbrev cX12_init : ByteArray := prog_14_method_3_code
def yX12_init : MethodName := ⟨RX12, "<init>", "()V"⟩
abbrev cX12_plain : ByteArray := prog_14_method_4_code
def yX12_plain : MethodName := ⟨RX12, "plain", "([I)V"⟩
abbrev cX12_feed : ByteArray := prog_14_method_5_code
def yX12_feed : MethodName := ⟨RX12, "feed", "(IIIII)I"⟩
abbrev cX12_see : ByteArray := prog_14_method_6_code
def yX12_see : MethodName := ⟨RX12, "see", "(I)I"⟩
abbrev cX12_isSmall : ByteArray := prog_14_method_7_code
def yX12_isSmall : MethodName := ⟨RX12, "isSmall", "(I)Z"⟩
abbrev cX12_isDigit : ByteArray := prog_14_method_8_code
def yX12_isDigit : MethodName := ⟨RX12, "isDigit", "(I)Z"⟩
abbrev cX12_keyAt : ByteArray := prog_14_method_9_code
def yX12_keyAt : MethodName := ⟨RX12, "keyAt", "()I"⟩
abbrev cX12_next : ByteArray := prog_14_method_10_code
def yX12_next : MethodName := ⟨RX12, "next", "()V"⟩
abbrev cX12_fails : ByteArray := prog_14_method_11_code
def yX12_fails : MethodName := ⟨RX12, "fails", "(I)V"⟩
abbrev cX12_is : ByteArray := prog_14_method_12_code
def yX12_is : MethodName := ⟨RX12, "is", "(I)Z"⟩
abbrev cX12_eats : ByteArray := prog_14_method_13_code
def yX12_eats : MethodName := ⟨RX12, "eats", "(I)Z"⟩
abbrev cX12_takes : ByteArray := prog_14_method_14_code
def yX12_takes : MethodName := ⟨RX12, "takes", "(II)I"⟩
abbrev cX12_isIn : ByteArray := prog_14_method_15_code
def yX12_isIn : MethodName := ⟨RX12, "isIn", "(JI)Z"⟩
abbrev cX12_wordOf : ByteArray := prog_14_method_16_code
def yX12_wordOf : MethodName := ⟨RX12, "wordOf", "(I)I"⟩
abbrev cX12_codes : ByteArray := prog_14_method_17_code
def yX12_codes : MethodName := ⟨RX12, "codes", "(I)V"⟩
abbrev cX12_goesIn : ByteArray := prog_14_method_18_code
def yX12_goesIn : MethodName := ⟨RX12, "goesIn", "(I)Z"⟩
abbrev cX12_readAtom : ByteArray := prog_14_method_19_code
def yX12_readAtom : MethodName := ⟨RX12, "readAtom", "(I)V"⟩
abbrev cX12_readIf : ByteArray := prog_14_method_20_code
def yX12_readIf : MethodName := ⟨RX12, "readIf", "(I)V"⟩
abbrev cX12_readTerm : ByteArray := prog_14_method_21_code
def yX12_readTerm : MethodName := ⟨RX12, "readTerm", "(I)V"⟩
abbrev cX12_readSum : ByteArray := prog_14_method_22_code
def yX12_readSum : MethodName := ⟨RX12, "readSum", "(I)V"⟩
abbrev cX12_readUnit : ByteArray := prog_14_method_23_code
def yX12_readUnit : MethodName := ⟨RX12, "readUnit", "(I)V"⟩
abbrev cX12_readBoth : ByteArray := prog_14_method_24_code
def yX12_readBoth : MethodName := ⟨RX12, "readBoth", "(I)V"⟩
abbrev cX12_readTruth : ByteArray := prog_14_method_25_code
def yX12_readTruth : MethodName := ⟨RX12, "readTruth", "(I)V"⟩
abbrev cX12_readPlace : ByteArray := prog_14_method_26_code
def yX12_readPlace : MethodName := ⟨RX12, "readPlace", "()V"⟩
abbrev cX12_readRoad : ByteArray := prog_14_method_27_code
def yX12_readRoad : MethodName := ⟨RX12, "readRoad", "()V"⟩
abbrev cX12_readLaw : ByteArray := prog_14_method_28_code
def yX12_readLaw : MethodName := ⟨RX12, "readLaw", "(I)V"⟩
abbrev cX12_readLine : ByteArray := prog_14_method_29_code
def yX12_readLine : MethodName := ⟨RX12, "readLine", "()V"⟩
abbrev cX12_closes : ByteArray := prog_14_method_30_code
def yX12_closes : MethodName := ⟨RX12, "closes", "()V"⟩
abbrev cX12_land : ByteArray := prog_14_method_31_code
def yX12_land : MethodName := ⟨RX12, "land", "(I)I"⟩
abbrev cX12_fault : ByteArray := prog_14_method_32_code
def yX12_fault : MethodName := ⟨RX12, "fault", "(I)I"⟩
abbrev cX12_isPlace : ByteArray := prog_14_method_33_code
def yX12_isPlace : MethodName := ⟨RX12, "isPlace", "(J)Z"⟩
abbrev cX12_isRoad : ByteArray := prog_14_method_34_code
def yX12_isRoad : MethodName := ⟨RX12, "isRoad", "(J)Z"⟩
abbrev cX12_isMine : ByteArray := prog_14_method_35_code
def yX12_isMine : MethodName := ⟨RX12, "isMine", "(I)Z"⟩
abbrev cX12_between : ByteArray := prog_14_method_36_code
def yX12_between : MethodName := ⟨RX12, "between", "(III)I"⟩
abbrev cX12_reckons : ByteArray := prog_14_method_37_code
def yX12_reckons : MethodName := ⟨RX12, "reckons", "(I)I"⟩
abbrev cX12_laysWords : ByteArray := prog_14_method_38_code
def yX12_laysWords : MethodName := ⟨RX12, "laysWords", "(II)V"⟩
abbrev cX12_payBy : ByteArray := prog_14_method_39_code
def yX12_payBy : MethodName := ⟨RX12, "payBy", "(II)I"⟩
abbrev cX12_isOpen : ByteArray := prog_14_method_40_code
def yX12_isOpen : MethodName := ⟨RX12, "isOpen", "(I)Z"⟩
abbrev cX12_laysWays : ByteArray := prog_14_method_41_code
def yX12_laysWays : MethodName := ⟨RX12, "laysWays", "()V"⟩
abbrev cX12_bitsOf : ByteArray := prog_14_method_42_code
def yX12_bitsOf : MethodName := ⟨RX12, "bitsOf", "(I)I"⟩
abbrev cX12_firstIn : ByteArray := prog_14_method_43_code
def yX12_firstIn : MethodName := ⟨RX12, "firstIn", "(I)I"⟩
abbrev cX12_planned : ByteArray := prog_14_method_44_code
def yX12_planned : MethodName := ⟨RX12, "planned", "(I)I"⟩
abbrev cX12_toldWay : ByteArray := prog_14_method_45_code
def yX12_toldWay : MethodName := ⟨RX12, "toldWay", "(I)I"⟩
abbrev cX12_place : ByteArray := prog_14_method_46_code
def yX12_place : MethodName := ⟨RX12, "place", "(II)I"⟩
abbrev cX12_road : ByteArray := prog_14_method_47_code
def yX12_road : MethodName := ⟨RX12, "road", "(II)I"⟩
abbrev cX12_pay : ByteArray := prog_14_method_48_code
def yX12_pay : MethodName := ⟨RX12, "pay", "(I)J"⟩
abbrev cX12_stores : ByteArray := prog_14_method_49_code
def yX12_stores : MethodName := ⟨RX12, "stores", "()V"⟩
abbrev cX12_isAgain : ByteArray := prog_14_method_50_code
def yX12_isAgain : MethodName := ⟨RX12, "isAgain", "()V"⟩
abbrev cX12_notes : ByteArray := prog_14_method_51_code
def yX12_notes : MethodName := ⟨RX12, "notes", "()V"⟩
abbrev cX12_whyMove : ByteArray := prog_14_method_52_code
def yX12_whyMove : MethodName := ⟨RX12, "whyMove", "(J)I"⟩
abbrev cX12_goesWay : ByteArray := prog_14_method_53_code
def yX12_goesWay : MethodName := ⟨RX12, "goesWay", "(I)I"⟩
abbrev cX12_wayToldBy : ByteArray := prog_14_method_54_code
def yX12_wayToldBy : MethodName := ⟨RX12, "wayToldBy", "(I)I"⟩
abbrev cX12_move : ByteArray := prog_14_method_55_code
def yX12_move : MethodName := ⟨RX12, "move", "(I)J"⟩
abbrev cX12_moves : ByteArray := prog_14_method_56_code
def yX12_moves : MethodName := ⟨RX12, "moves", "(I)J"⟩
abbrev cX12_whyPlan : ByteArray := prog_14_method_57_code
def yX12_whyPlan : MethodName := ⟨RX12, "whyPlan", "(JJ)I"⟩
abbrev cX12_plan : ByteArray := prog_14_method_58_code
def yX12_plan : MethodName := ⟨RX12, "plan", "(II)I"⟩
abbrev cX12_plays : ByteArray := prog_14_method_59_code
def yX12_plays : MethodName := ⟨RX12, "plays", "(I)I"⟩
abbrev cX12_weather : ByteArray := prog_14_method_60_code
def yX12_weather : MethodName := ⟨RX12, "weather", "(I)I"⟩
abbrev cX12_undo : ByteArray := prog_14_method_61_code
def yX12_undo : MethodName := ⟨RX12, "undo", "(I)I"⟩
abbrev cX12_whyNot : ByteArray := prog_14_method_62_code
def yX12_whyNot : MethodName := ⟨RX12, "whyNot", "(J)I"⟩
abbrev cX12_does : ByteArray := prog_14_method_63_code
def yX12_does : MethodName := ⟨RX12, "does", "(I)V"⟩
abbrev cX12_tells : ByteArray := prog_14_method_64_code
def yX12_tells : MethodName := ⟨RX12, "tells", "(I)I"⟩
abbrev cX12_noTray : ByteArray := prog_14_method_65_code
def yX12_noTray : MethodName := ⟨RX12, "noTray", "(I)I"⟩
abbrev cX12_judge : ByteArray := prog_14_method_66_code
def yX12_judge : MethodName := ⟨RX12, "judge", "(II)I"⟩
abbrev cX12_perform : ByteArray := prog_14_method_67_code
def yX12_perform : MethodName := ⟨RX12, "perform", "(I)I"⟩
abbrev cX12_draw : ByteArray := prog_14_method_68_code
def yX12_draw : MethodName := ⟨RX12, "draw", "(I)I"⟩
abbrev cX12_drawn : ByteArray := prog_14_method_69_code
def yX12_drawn : MethodName := ⟨RX12, "drawn", "()I"⟩
abbrev cX12_journey : ByteArray := prog_14_method_70_code
def yX12_journey : MethodName := ⟨RX12, "journey", "(II)I"⟩
abbrev cX12_goesRing : ByteArray := prog_14_method_71_code
def yX12_goesRing : MethodName := ⟨RX12, "goesRing", "(IIIIII)V"⟩
abbrev cX12_laysRings : ByteArray := prog_14_method_72_code
def yX12_laysRings : MethodName := ⟨RX12, "laysRings", "()V"⟩
abbrev cX12_allWays : ByteArray := prog_14_method_73_code
def yX12_allWays : MethodName := ⟨RX12, "allWays", "()I"⟩
abbrev cX12_comesBy : ByteArray := prog_14_method_74_code
def yX12_comesBy : MethodName := ⟨RX12, "comesBy", "(II)I"⟩
abbrev cX12_isLess : ByteArray := prog_14_method_75_code
def yX12_isLess : MethodName := ⟨RX12, "isLess", "(II)Z"⟩
abbrev cX12_ringBy : ByteArray := prog_14_method_76_code
def yX12_ringBy : MethodName := ⟨RX12, "ringBy", "(IIZ)I"⟩
abbrev cX12_common : ByteArray := prog_14_method_77_code
def yX12_common : MethodName := ⟨RX12, "common", "(JJ)J"⟩
abbrev cX12_part : ByteArray := prog_14_method_78_code
def yX12_part : MethodName := ⟨RX12, "part", "(JJI)J"⟩
abbrev cX12_meanOf : ByteArray := prog_14_method_79_code
def yX12_meanOf : MethodName := ⟨RX12, "meanOf", "(II)J"⟩
abbrev cX12_rings : ByteArray := prog_14_method_80_code
def yX12_rings : MethodName := ⟨RX12, "rings", "()I"⟩
abbrev cX12_ring : ByteArray := prog_14_method_81_code
def yX12_ring : MethodName := ⟨RX12, "ring", "(III)J"⟩
abbrev cX12_reach : ByteArray := prog_14_method_82_code
def yX12_reach : MethodName := ⟨RX12, "reach", "(I)I"⟩
abbrev cX12_onRing : ByteArray := prog_14_method_83_code
def yX12_onRing : MethodName := ⟨RX12, "onRing", "(I)I"⟩
abbrev cX12_laysSecured : ByteArray := prog_14_method_84_code
def yX12_laysSecured : MethodName := ⟨RX12, "laysSecured", "(II)V"⟩
abbrev cX12_goesPlans : ByteArray := prog_14_method_85_code
def yX12_goesPlans : MethodName := ⟨RX12, "goesPlans", "(IIII)V"⟩
abbrev cX12_gathers : ByteArray := prog_14_method_86_code
def yX12_gathers : MethodName := ⟨RX12, "gathers", "()V"⟩
abbrev cX12_counts : ByteArray := prog_14_method_87_code
def yX12_counts : MethodName := ⟨RX12, "counts", "(II)V"⟩
abbrev cX12_laysGame : ByteArray := prog_14_method_88_code
def yX12_laysGame : MethodName := ⟨RX12, "laysGame", "()V"⟩
abbrev cX12_worth : ByteArray := prog_14_method_89_code
def yX12_worth : MethodName := ⟨RX12, "worth", "(II)J"⟩
abbrev cX12_wins : ByteArray := prog_14_method_90_code
def yX12_wins : MethodName := ⟨RX12, "wins", "(I)I"⟩
abbrev cX12_atLeast : ByteArray := prog_14_method_91_code
def yX12_atLeast : MethodName := ⟨RX12, "atLeast", "(III)I"⟩
abbrev cX12_best : ByteArray := prog_14_method_92_code
def yX12_best : MethodName := ⟨RX12, "best", "(I)I"⟩
abbrev cX12_laysSet : ByteArray := prog_14_method_93_code
def yX12_laysSet : MethodName := ⟨RX12, "laysSet", "(I)V"⟩
abbrev cX12_secures : ByteArray := prog_14_method_94_code
def yX12_secures : MethodName := ⟨RX12, "secures", "(III)J"⟩
abbrev cX12_meet : ByteArray := prog_14_method_95_code
def yX12_meet : MethodName := ⟨RX12, "meet", "()I"⟩
abbrev cX12_plans : ByteArray := prog_14_method_96_code
def yX12_plans : MethodName := ⟨RX12, "plans", "(II)I"⟩
abbrev cX12_neededAt : ByteArray := prog_14_method_97_code
def yX12_neededAt : MethodName := ⟨RX12, "neededAt", "(I)I"⟩
abbrev cX12_energy : ByteArray := prog_14_method_98_code
def yX12_energy : MethodName := ⟨RX12, "energy", "(I)I"⟩
abbrev cX12_laysGoing : ByteArray := prog_14_method_99_code
def yX12_laysGoing : MethodName := ⟨RX12, "laysGoing", "()V"⟩
abbrev cX12_placeIn : ByteArray := prog_14_method_100_code
def yX12_placeIn : MethodName := ⟨RX12, "placeIn", "(J)I"⟩
abbrev cX12_purseIn : ByteArray := prog_14_method_101_code
def yX12_purseIn : MethodName := ⟨RX12, "purseIn", "(J)J"⟩
abbrev cX12_at : ByteArray := prog_14_method_102_code
def yX12_at : MethodName := ⟨RX12, "at", "(J)I"⟩
abbrev cX12_purse : ByteArray := prog_14_method_103_code
def yX12_purse : MethodName := ⟨RX12, "purse", "(J)J"⟩
abbrev cX12_round : ByteArray := prog_14_method_104_code
def yX12_round : MethodName := ⟨RX12, "round", "(I)I"⟩
abbrev cX12_paid : ByteArray := prog_14_method_105_code
def yX12_paid : MethodName := ⟨RX12, "paid", "(I)J"⟩
abbrev cX12_laysRows : ByteArray := prog_14_method_106_code
def yX12_laysRows : MethodName := ⟨RX12, "laysRows", "(I)V"⟩
abbrev cX12_rowsOf : ByteArray := prog_14_method_107_code
def yX12_rowsOf : MethodName := ⟨RX12, "rowsOf", "(I)I"⟩
abbrev cX12_rows : ByteArray := prog_14_method_108_code
def yX12_rows : MethodName := ⟨RX12, "rows", "(II)I"⟩
abbrev cX12_sums : ByteArray := prog_14_method_109_code
def yX12_sums : MethodName := ⟨RX12, "sums", "(I)I"⟩
abbrev cX12_sumsAt : ByteArray := prog_14_method_110_code
def yX12_sumsAt : MethodName := ⟨RX12, "sumsAt", "(II)I"⟩
abbrev cX12_noPaid : ByteArray := prog_14_method_111_code
def yX12_noPaid : MethodName := ⟨RX12, "noPaid", "(I)I"⟩
abbrev cX12_weathersOf : ByteArray := prog_14_method_112_code
def yX12_weathersOf : MethodName := ⟨RX12, "weathersOf", "(I)I"⟩
abbrev cX12_weathers : ByteArray := prog_14_method_113_code
def yX12_weathers : MethodName := ⟨RX12, "weathers", "(I)I"⟩
abbrev cX12_mostAlike : ByteArray := prog_14_method_114_code
def yX12_mostAlike : MethodName := ⟨RX12, "mostAlike", "(II)I"⟩
abbrev cX12_ask : ByteArray := prog_14_method_115_code
def yX12_ask : MethodName := ⟨RX12, "ask", "(I)I"⟩
abbrev cX12_goesLots : ByteArray := prog_14_method_116_code
def yX12_goesLots : MethodName := ⟨RX12, "goesLots", "(IJIJ)V"⟩
abbrev cX12_wholeOf : ByteArray := prog_14_method_117_code
def yX12_wholeOf : MethodName := ⟨RX12, "wholeOf", "(I)J"⟩
abbrev cX12_laysLots : ByteArray := prog_14_method_118_code
def yX12_laysLots : MethodName := ⟨RX12, "laysLots", "(I)V"⟩
abbrev cX12_chance : ByteArray := prog_14_method_119_code
def yX12_chance : MethodName := ⟨RX12, "chance", "(II)I"⟩
abbrev cX12_mean : ByteArray := prog_14_method_120_code
def yX12_mean : MethodName := ⟨RX12, "mean", "(II)J"⟩
abbrev cX12_cut : ByteArray := prog_14_method_121_code
def yX12_cut : MethodName := ⟨RX12, "cut", "(JI)J"⟩
abbrev cX12_numbers : ByteArray := prog_14_method_122_code
def yX12_numbers : MethodName := ⟨RX12, "numbers", "(III)I"⟩
abbrev cX12_write : ByteArray := prog_14_method_123_code
def yX12_write : MethodName := ⟨RX12, "write", "(IIJ)J"⟩
abbrev cX12_lists : ByteArray := prog_14_method_124_code
def yX12_lists : MethodName := ⟨RX12, "lists", "(I)I"⟩
abbrev cX12_image : ByteArray := prog_14_method_125_code
def yX12_image : MethodName := ⟨RX12, "image", "(I)I"⟩
abbrev cX12_restore : ByteArray := prog_14_method_126_code
def yX12_restore : MethodName := ⟨RX12, "restore", "(I)I"⟩
abbrev cX12_count : ByteArray := prog_14_method_127_code
def yX12_count : MethodName := ⟨RX12, "count", "(I)I"⟩
def RJx145de : String := "java/io/Serializable"
def TJx145de : u_T := fun k => match k with
  | _ => ("", "", "", false)
def tyJx145de : Nat → FieldType := fun k => match k with
  | _ => .int
abbrev wsJx145de0 : List Cond := u_ws RJx145de TJx145de 0
theorem nmJx145de : ∀ a, a < 0 → ∀ b, b < 0 → a ≠ b → (TJx145de a).2.1 ≠ (TJx145de b).2.1 := by decide +kernel
theorem tyJx145de_ok : ∀ k, k < 0 → parseFieldDescriptor (TJx145de k).2.2.1 = some (tyJx145de k) := by decide +kernel
def RJx9f9b0 : String := "java/lang/CharSequence"
def TJx9f9b0 : u_T := fun k => match k with
  | _ => ("", "", "", false)
def tyJx9f9b0 : Nat → FieldType := fun k => match k with
  | _ => .int
abbrev wsJx9f9b00 : List Cond := u_ws RJx9f9b0 TJx9f9b0 0
theorem nmJx9f9b0 : ∀ a, a < 0 → ∀ b, b < 0 → a ≠ b → (TJx9f9b0 a).2.1 ≠ (TJx9f9b0 b).2.1 := by decide +kernel
theorem tyJx9f9b0_ok : ∀ k, k < 0 → parseFieldDescriptor (TJx9f9b0 k).2.2.1 = some (tyJx9f9b0 k) := by decide +kernel
def RJ11 : String := "java/lang/Character"
def TJ11 : u_T := fun k => match k with
  | _ => ("", "", "", false)
def tyJ11 : Nat → FieldType := fun k => match k with
  | _ => .int
abbrev wsJ110 : List Cond := u_ws RJ11 TJ11 0
theorem nmJ11 : ∀ a, a < 0 → ∀ b, b < 0 → a ≠ b → (TJ11 a).2.1 ≠ (TJ11 b).2.1 := by decide +kernel
theorem tyJ11_ok : ∀ k, k < 0 → parseFieldDescriptor (TJ11 k).2.2.1 = some (tyJ11 k) := by decide +kernel
abbrev cJ11_isValidCodePoint_9a6ad : ByteArray := prog_15_method_11_code
def yJ11_isValidCodePoint_9a6ad : MethodName := ⟨RJ11, "isValidCodePoint", "(I)Z"⟩
abbrev cJ11_highSurrogate_5068e : ByteArray := prog_15_method_28_code
def yJ11_highSurrogate_5068e : MethodName := ⟨RJ11, "highSurrogate", "(I)C"⟩
abbrev cJ11_lowSurrogate_5068e : ByteArray := prog_15_method_29_code
def yJ11_lowSurrogate_5068e : MethodName := ⟨RJ11, "lowSurrogate", "(I)C"⟩
def RJxb160c : String := "java/lang/Comparable"
def TJxb160c : u_T := fun k => match k with
  | _ => ("", "", "", false)
def tyJxb160c : Nat → FieldType := fun k => match k with
  | _ => .int
abbrev wsJxb160c0 : List Cond := u_ws RJxb160c TJxb160c 0
theorem nmJxb160c : ∀ a, a < 0 → ∀ b, b < 0 → a ≠ b → (TJxb160c a).2.1 ≠ (TJxb160c b).2.1 := by decide +kernel
theorem tyJxb160c_ok : ∀ k, k < 0 → parseFieldDescriptor (TJxb160c k).2.2.1 = some (tyJxb160c k) := by decide +kernel
def RJ6 : String := "java/lang/Integer"
def TJ6 : u_T := fun k => match k with
  | _ => ("", "", "", false)
def tyJ6 : Nat → FieldType := fun k => match k with
  | _ => .int
abbrev wsJ60 : List Cond := u_ws RJ6 TJ6 0
theorem nmJ6 : ∀ a, a < 0 → ∀ b, b < 0 → a ≠ b → (TJ6 a).2.1 ≠ (TJ6 b).2.1 := by decide +kernel
theorem tyJ6_ok : ∀ k, k < 0 → parseFieldDescriptor (TJ6 k).2.2.1 = some (tyJ6 k) := by decide +kernel
abbrev cJ6_lowestOneBit_0f7a4 : ByteArray := prog_16_method_46_code
def yJ6_lowestOneBit_0f7a4 : MethodName := ⟨RJ6, "lowestOneBit", "(I)I"⟩
abbrev cJ6_numberOfTrailingZeros_0f7a4 : ByteArray := prog_16_method_48_code
def yJ6_numberOfTrailingZeros_0f7a4 : MethodName := ⟨RJ6, "numberOfTrailingZeros", "(I)I"⟩
abbrev cJ6_bitCount_0f7a4 : ByteArray := prog_16_method_49_code
def yJ6_bitCount_0f7a4 : MethodName := ⟨RJ6, "bitCount", "(I)I"⟩
abbrev cJ6_signum_0f7a4 : ByteArray := prog_16_method_56_code
def yJ6_signum_0f7a4 : MethodName := ⟨RJ6, "signum", "(I)I"⟩
def RJ9 : String := "java/lang/Math"
def TJ9 : u_T := fun k => match k with
  | _ => ("", "", "", false)
def tyJ9 : Nat → FieldType := fun k => match k with
  | _ => .int
abbrev wsJ90 : List Cond := u_ws RJ9 TJ9 0
theorem nmJ9 : ∀ a, a < 0 → ∀ b, b < 0 → a ≠ b → (TJ9 a).2.1 ≠ (TJ9 b).2.1 := by decide +kernel
theorem tyJ9_ok : ∀ k, k < 0 → parseFieldDescriptor (TJ9 k).2.2.1 = some (tyJ9 k) := by decide +kernel
abbrev cJ9_floorMod_f86c9 : ByteArray := prog_17_method_52_code
def yJ9_floorMod_f86c9 : MethodName := ⟨RJ9, "floorMod", "(JJ)J"⟩
abbrev cJ9_abs_067f4 : ByteArray := prog_17_method_61_code
def yJ9_abs_067f4 : MethodName := ⟨RJ9, "abs", "(J)J"⟩
abbrev cJ9_max_7cf53 : ByteArray := prog_17_method_65_code
def yJ9_max_7cf53 : MethodName := ⟨RJ9, "max", "(II)I"⟩
abbrev cJ9_max_f86c9 : ByteArray := prog_17_method_66_code
def yJ9_max_f86c9 : MethodName := ⟨RJ9, "max", "(JJ)J"⟩
abbrev cJ9_min_7cf53 : ByteArray := prog_17_method_69_code
def yJ9_min_7cf53 : MethodName := ⟨RJ9, "min", "(II)I"⟩
abbrev cJ9_min_f86c9 : ByteArray := prog_17_method_70_code
def yJ9_min_f86c9 : MethodName := ⟨RJ9, "min", "(JJ)J"⟩
def RJ0 : String := "java/lang/String"
def TJ0 : u_T := fun k => match k with
  | _ => ("", "", "", false)
def tyJ0 : Nat → FieldType := fun k => match k with
  | _ => .int
abbrev wsJ00 : List Cond := u_ws RJ0 TJ0 0
theorem nmJ0 : ∀ a, a < 0 → ∀ b, b < 0 → a ≠ b → (TJ0 a).2.1 ≠ (TJ0 b).2.1 := by decide +kernel
theorem tyJ0_ok : ∀ k, k < 0 → parseFieldDescriptor (TJ0 k).2.2.1 = some (tyJ0 k) := by decide +kernel
abbrev cJ0_length_8abf5 : ByteArray := prog_18_method_54_code
def yJ0_length_8abf5 : MethodName := ⟨RJ0, "length", "()I"⟩
abbrev cJ0_charAt_5068e : ByteArray := prog_18_method_56_code
def yJ0_charAt_5068e : MethodName := ⟨RJ0, "charAt", "(I)C"⟩
abbrev cJ0_indexOf_0f7a4 : ByteArray := prog_18_method_79_code
def yJ0_indexOf_0f7a4 : MethodName := ⟨RJ0, "indexOf", "(I)I"⟩
abbrev cJ0_indexOf_7cf53 : ByteArray := prog_18_method_80_code
def yJ0_indexOf_7cf53 : MethodName := ⟨RJ0, "indexOf", "(II)I"⟩
abbrev cJ0_coder_7d493 : ByteArray := prog_18_method_152_code
def yJ0_coder_7d493 : MethodName := ⟨RJ0, "coder", "()B"⟩
abbrev cJ0_isLatin1_aae02 : ByteArray := prog_18_method_154_code
def yJ0_isLatin1_aae02 : MethodName := ⟨RJ0, "isLatin1", "()Z"⟩
abbrev cJ0_checkIndex_df160 : ByteArray := prog_18_method_155_code
def yJ0_checkIndex_df160 : MethodName := ⟨RJ0, "checkIndex", "(II)V"⟩
abbrev cJ0_checkBoundsBeginEnd_23922 : ByteArray := prog_18_method_158_code
def yJ0_checkBoundsBeginEnd_23922 : MethodName := ⟨RJ0, "checkBoundsBeginEnd", "(III)V"⟩
def RJ1 : String := "java/lang/StringLatin1"
def TJ1 : u_T := fun k => match k with
  | _ => ("", "", "", false)
def tyJ1 : Nat → FieldType := fun k => match k with
  | _ => .int
abbrev wsJ10 : List Cond := u_ws RJ1 TJ1 0
theorem nmJ1 : ∀ a, a < 0 → ∀ b, b < 0 → a ≠ b → (TJ1 a).2.1 ≠ (TJ1 b).2.1 := by decide +kernel
theorem tyJ1_ok : ∀ k, k < 0 → parseFieldDescriptor (TJ1 k).2.2.1 = some (tyJ1 k) := by decide +kernel
abbrev cJ1_charAt_3b067 : ByteArray := prog_19_method_2_code
def yJ1_charAt_3b067 : MethodName := ⟨RJ1, "charAt", "([BI)C"⟩
abbrev cJ1_canEncode_9a6ad : ByteArray := prog_19_method_4_code
def yJ1_canEncode_9a6ad : MethodName := ⟨RJ1, "canEncode", "(I)Z"⟩
abbrev cJ1_indexOf_4cfef : ByteArray := prog_19_method_22_code
def yJ1_indexOf_4cfef : MethodName := ⟨RJ1, "indexOf", "([BIII)I"⟩
abbrev cJ1_indexOfChar_4cfef : ByteArray := prog_19_method_23_code
def yJ1_indexOfChar_4cfef : MethodName := ⟨RJ1, "indexOfChar", "([BIII)I"⟩
def RJ2 : String := "java/lang/StringUTF16"
def TJ2 : u_T := fun k => match k with
  | _ => ("", "", "", false)
def tyJ2 : Nat → FieldType := fun k => match k with
  | _ => .int
abbrev wsJ20 : List Cond := u_ws RJ2 TJ2 0
theorem nmJ2 : ∀ a, a < 0 → ∀ b, b < 0 → a ≠ b → (TJ2 a).2.1 ≠ (TJ2 b).2.1 := by decide +kernel
theorem tyJ2_ok : ∀ k, k < 0 → parseFieldDescriptor (TJ2 k).2.2.1 = some (tyJ2 k) := by decide +kernel
abbrev cJ2_getChar_3b067 : ByteArray := prog_20_method_5_code
def yJ2_getChar_3b067 : MethodName := ⟨RJ2, "getChar", "([BI)C"⟩
abbrev cJ2_length_9d52b : ByteArray := prog_20_method_6_code
def yJ2_length_9d52b : MethodName := ⟨RJ2, "length", "([B)I"⟩
abbrev cJ2_indexOf_4cfef : ByteArray := prog_20_method_40_code
def yJ2_indexOf_4cfef : MethodName := ⟨RJ2, "indexOf", "([BIII)I"⟩
abbrev cJ2_indexOfChar_4cfef : ByteArray := prog_20_method_47_code
def yJ2_indexOfChar_4cfef : MethodName := ⟨RJ2, "indexOfChar", "([BIII)I"⟩
abbrev cJ2_indexOfCharUnsafe_4cfef : ByteArray := prog_20_method_48_code
def yJ2_indexOfCharUnsafe_4cfef : MethodName := ⟨RJ2, "indexOfCharUnsafe", "([BIII)I"⟩
abbrev cJ2_indexOfSupplementary_4cfef : ByteArray := prog_20_method_49_code
def yJ2_indexOfSupplementary_4cfef : MethodName := ⟨RJ2, "indexOfSupplementary", "([BIII)I"⟩
abbrev cJ2_charAt_3b067 : ByteArray := prog_20_method_83_code
def yJ2_charAt_3b067 : MethodName := ⟨RJ2, "charAt", "([BI)C"⟩
abbrev cJ2_checkIndex_2214a : ByteArray := prog_20_method_91_code
def yJ2_checkIndex_2214a : MethodName := ⟨RJ2, "checkIndex", "(I[B)V"⟩
abbrev cJ2_checkBoundsBeginEnd_d044e : ByteArray := prog_20_method_93_code
def yJ2_checkBoundsBeginEnd_d044e : MethodName := ⟨RJ2, "checkBoundsBeginEnd", "(II[B)V"⟩
def RJ10 : String := "java/lang/System"
def TJ10 : u_T := fun k => match k with
  | _ => ("", "", "", false)
def tyJ10 : Nat → FieldType := fun k => match k with
  | _ => .int
abbrev wsJ100 : List Cond := u_ws RJ10 TJ10 0
theorem nmJ10 : ∀ a, a < 0 → ∀ b, b < 0 → a ≠ b → (TJ10 a).2.1 ≠ (TJ10 b).2.1 := by decide +kernel
theorem tyJ10_ok : ∀ k, k < 0 → parseFieldDescriptor (TJ10 k).2.2.1 = some (tyJ10 k) := by decide +kernel
def RJxfd54e : String := "java/lang/constant/Constable"
def TJxfd54e : u_T := fun k => match k with
  | _ => ("", "", "", false)
def tyJxfd54e : Nat → FieldType := fun k => match k with
  | _ => .int
abbrev wsJxfd54e0 : List Cond := u_ws RJxfd54e TJxfd54e 0
theorem nmJxfd54e : ∀ a, a < 0 → ∀ b, b < 0 → a ≠ b → (TJxfd54e a).2.1 ≠ (TJxfd54e b).2.1 := by decide +kernel
theorem tyJxfd54e_ok : ∀ k, k < 0 → parseFieldDescriptor (TJxfd54e k).2.2.1 = some (tyJxfd54e k) := by decide +kernel
def RJx3cf43 : String := "java/lang/constant/ConstantDesc"
def TJx3cf43 : u_T := fun k => match k with
  | _ => ("", "", "", false)
def tyJx3cf43 : Nat → FieldType := fun k => match k with
  | _ => .int
abbrev wsJx3cf430 : List Cond := u_ws RJx3cf43 TJx3cf43 0
theorem nmJx3cf43 : ∀ a, a < 0 → ∀ b, b < 0 → a ≠ b → (TJx3cf43 a).2.1 ≠ (TJx3cf43 b).2.1 := by decide +kernel
theorem tyJx3cf43_ok : ∀ k, k < 0 → parseFieldDescriptor (TJx3cf43 k).2.2.1 = some (tyJx3cf43 k) := by decide +kernel
def RJ7 : String := "java/util/Arrays"
def TJ7 : u_T := fun k => match k with
  | _ => ("", "", "", false)
def tyJ7 : Nat → FieldType := fun k => match k with
  | _ => .int
abbrev wsJ70 : List Cond := u_ws RJ7 TJ7 0
theorem nmJ7 : ∀ a, a < 0 → ∀ b, b < 0 → a ≠ b → (TJ7 a).2.1 ≠ (TJ7 b).2.1 := by decide +kernel
theorem tyJ7_ok : ∀ k, k < 0 → parseFieldDescriptor (TJ7 k).2.2.1 = some (tyJ7 k) := by decide +kernel
abbrev cJ7_fill_d0a16 : ByteArray := prog_22_method_101_code
def yJ7_fill_d0a16 : MethodName := ⟨RJ7, "fill", "([JJ)V"⟩
abbrev cJ7_fill_53178 : ByteArray := prog_22_method_103_code
def yJ7_fill_53178 : MethodName := ⟨RJ7, "fill", "([II)V"⟩
def RJ3 : String := "jdk/internal/util/Preconditions"
def TJ3 : u_T := fun k => match k with
  | _ => ("", "", "", false)
def tyJ3 : Nat → FieldType := fun k => match k with
  | _ => .int
abbrev wsJ30 : List Cond := u_ws RJ3 TJ3 0
theorem nmJ3 : ∀ a, a < 0 → ∀ b, b < 0 → a ≠ b → (TJ3 a).2.1 ≠ (TJ3 b).2.1 := by decide +kernel
theorem tyJ3_ok : ∀ k, k < 0 → parseFieldDescriptor (TJ3 k).2.2.1 = some (tyJ3 k) := by decide +kernel
abbrev cJ3_checkIndex_8e157 : ByteArray := prog_23_method_11_code
def yJ3_checkIndex_8e157 : MethodName := ⟨RJ3, "checkIndex", "(IILjava/util/function/BiFunction;)I"⟩
abbrev cJ3_checkFromToIndex_8c36e : ByteArray := prog_23_method_12_code
def yJ3_checkFromToIndex_8c36e : MethodName := ⟨RJ3, "checkFromToIndex", "(IIILjava/util/function/BiFunction;)I"⟩
def RL : String := "MeanRoadsLaw"
abbrev cL_law : ByteArray := code
def yL_law : MethodName := ⟨RL, "law", "([I)Z"⟩
