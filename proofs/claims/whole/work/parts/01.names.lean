-- ===== PART A: goes FIRST, ahead of the names: the tables' words, and 'selects' of the private methods out of them =====
/-- a private method of a class that the tables say can be made, by its rows of tables_1 -/
def lw_okq (q : MethodName × Nat) : Prop := (q.1.cls ≠ "java/lang/invoke/MethodHandle" ∧ q.1.cls ≠ "java/lang/invoke/VarHandle") ∧ Cond.instantiable q.1.cls q.2 ∈ tables_1 ∧ Cond.privateMethod q.1 ∈ tables_1 ∧ Cond.instanceMethod q.1 ∈ tables_1
theorem lw_p0 : lw_okq (⟨"FringeBench", "placeOf", "(II)I"⟩, 10) := ⟨⟨by decide +kernel, by decide +kernel⟩, List.mem_of_getElem? (i := 20) (by decide +kernel), List.mem_of_getElem? (i := 460) (by decide +kernel), List.mem_of_getElem? (i := 461) (by decide +kernel)⟩
theorem lw_p1 : lw_okq (⟨"FringeBench$Reader", "next", "()V"⟩, 13) := ⟨⟨by decide +kernel, by decide +kernel⟩, List.mem_of_getElem? (i := 150) (by decide +kernel), List.mem_of_getElem? (i := 473) (by decide +kernel), List.mem_of_getElem? (i := 474) (by decide +kernel)⟩
theorem lw_p2 : lw_okq (⟨"FringeBench$Reader", "readDigits", "()V"⟩, 13) := ⟨⟨by decide +kernel, by decide +kernel⟩, List.mem_of_getElem? (i := 150) (by decide +kernel), List.mem_of_getElem? (i := 483) (by decide +kernel), List.mem_of_getElem? (i := 484) (by decide +kernel)⟩
theorem lw_p3 : lw_okq (⟨"FringeBench$Reader", "readLine", "(I)Z"⟩, 13) := ⟨⟨by decide +kernel, by decide +kernel⟩, List.mem_of_getElem? (i := 150) (by decide +kernel), List.mem_of_getElem? (i := 487) (by decide +kernel), List.mem_of_getElem? (i := 488) (by decide +kernel)⟩
theorem lw_p4 : lw_okq (⟨"FringeBench$Reader", "lineOf", "(I)I"⟩, 13) := ⟨⟨by decide +kernel, by decide +kernel⟩, List.mem_of_getElem? (i := 150) (by decide +kernel), List.mem_of_getElem? (i := 491) (by decide +kernel), List.mem_of_getElem? (i := 492) (by decide +kernel)⟩
theorem lw_p5 : lw_okq (⟨"FringeBench$Reader", "isToken", "(Ljava/lang/String;)Z"⟩, 13) := ⟨⟨by decide +kernel, by decide +kernel⟩, List.mem_of_getElem? (i := 150) (by decide +kernel), List.mem_of_getElem? (i := 513) (by decide +kernel), List.mem_of_getElem? (i := 514) (by decide +kernel)⟩
theorem lw_p6 : lw_okq (⟨"FringeBench$Reader", "refuse", "()Z"⟩, 13) := ⟨⟨by decide +kernel, by decide +kernel⟩, List.mem_of_getElem? (i := 150) (by decide +kernel), List.mem_of_getElem? (i := 565) (by decide +kernel), List.mem_of_getElem? (i := 566) (by decide +kernel)⟩
theorem lw_p7 : lw_okq (⟨"FringeBench$Reader", "openLimit", "(I)V"⟩, 13) := ⟨⟨by decide +kernel, by decide +kernel⟩, List.mem_of_getElem? (i := 150) (by decide +kernel), List.mem_of_getElem? (i := 569) (by decide +kernel), List.mem_of_getElem? (i := 570) (by decide +kernel)⟩
theorem lw_p8 : lw_okq (⟨"FringeBench$Reader", "mark", "(I)V"⟩, 13) := ⟨⟨by decide +kernel, by decide +kernel⟩, List.mem_of_getElem? (i := 150) (by decide +kernel), List.mem_of_getElem? (i := 573) (by decide +kernel), List.mem_of_getElem? (i := 574) (by decide +kernel)⟩
theorem lw_p9 : lw_okq (⟨"FringeBench$Reader", "takeNumber", "(III)V"⟩, 13) := ⟨⟨by decide +kernel, by decide +kernel⟩, List.mem_of_getElem? (i := 150) (by decide +kernel), List.mem_of_getElem? (i := 583) (by decide +kernel), List.mem_of_getElem? (i := 584) (by decide +kernel)⟩
theorem lw_p10 : lw_okq (⟨"FringeBench$Reader", "takeSize", "(I)V"⟩, 13) := ⟨⟨by decide +kernel, by decide +kernel⟩, List.mem_of_getElem? (i := 150) (by decide +kernel), List.mem_of_getElem? (i := 587) (by decide +kernel), List.mem_of_getElem? (i := 588) (by decide +kernel)⟩
theorem lw_p11 : lw_okq (⟨"FringeBench$Reader", "isFrom", "(II)Z"⟩, 13) := ⟨⟨by decide +kernel, by decide +kernel⟩, List.mem_of_getElem? (i := 150) (by decide +kernel), List.mem_of_getElem? (i := 591) (by decide +kernel), List.mem_of_getElem? (i := 592) (by decide +kernel)⟩
theorem lw_p12 : lw_okq (⟨"FringeBench$Reader", "takeStep", "(I)V"⟩, 13) := ⟨⟨by decide +kernel, by decide +kernel⟩, List.mem_of_getElem? (i := 150) (by decide +kernel), List.mem_of_getElem? (i := 595) (by decide +kernel), List.mem_of_getElem? (i := 596) (by decide +kernel)⟩
theorem lw_p13 : lw_okq (⟨"FringeBench$Reader", "takePixel", "()Z"⟩, 13) := ⟨⟨by decide +kernel, by decide +kernel⟩, List.mem_of_getElem? (i := 150) (by decide +kernel), List.mem_of_getElem? (i := 599) (by decide +kernel), List.mem_of_getElem? (i := 600) (by decide +kernel)⟩
theorem lw_p14 : lw_okq (⟨"FringeBench$Reader", "pixelBehind", "(I)I"⟩, 13) := ⟨⟨by decide +kernel, by decide +kernel⟩, List.mem_of_getElem? (i := 150) (by decide +kernel), List.mem_of_getElem? (i := 603) (by decide +kernel), List.mem_of_getElem? (i := 604) (by decide +kernel)⟩
theorem lw_p15 : lw_okq (⟨"FringeBench$Reader", "takePhase", "(I)V"⟩, 13) := ⟨⟨by decide +kernel, by decide +kernel⟩, List.mem_of_getElem? (i := 150) (by decide +kernel), List.mem_of_getElem? (i := 607) (by decide +kernel), List.mem_of_getElem? (i := 608) (by decide +kernel)⟩
def lw_privs_1 : List (MethodName × Nat) := [(⟨"FringeBench", "placeOf", "(II)I"⟩, 10), (⟨"FringeBench$Reader", "next", "()V"⟩, 13), (⟨"FringeBench$Reader", "readDigits", "()V"⟩, 13), (⟨"FringeBench$Reader", "readLine", "(I)Z"⟩, 13), (⟨"FringeBench$Reader", "lineOf", "(I)I"⟩, 13), (⟨"FringeBench$Reader", "isToken", "(Ljava/lang/String;)Z"⟩, 13), (⟨"FringeBench$Reader", "refuse", "()Z"⟩, 13), (⟨"FringeBench$Reader", "openLimit", "(I)V"⟩, 13), (⟨"FringeBench$Reader", "mark", "(I)V"⟩, 13), (⟨"FringeBench$Reader", "takeNumber", "(III)V"⟩, 13), (⟨"FringeBench$Reader", "takeSize", "(I)V"⟩, 13), (⟨"FringeBench$Reader", "isFrom", "(II)Z"⟩, 13), (⟨"FringeBench$Reader", "takeStep", "(I)V"⟩, 13), (⟨"FringeBench$Reader", "takePixel", "()Z"⟩, 13), (⟨"FringeBench$Reader", "pixelBehind", "(I)I"⟩, 13), (⟨"FringeBench$Reader", "takePhase", "(I)V"⟩, 13)]
theorem lw_r1 : ∀ q ∈ lw_privs_1, lw_okq q := List.forall_mem_cons.mpr ⟨lw_p0, List.forall_mem_cons.mpr ⟨lw_p1, List.forall_mem_cons.mpr ⟨lw_p2, List.forall_mem_cons.mpr ⟨lw_p3, List.forall_mem_cons.mpr ⟨lw_p4, List.forall_mem_cons.mpr ⟨lw_p5, List.forall_mem_cons.mpr ⟨lw_p6, List.forall_mem_cons.mpr ⟨lw_p7, List.forall_mem_cons.mpr ⟨lw_p8, List.forall_mem_cons.mpr ⟨lw_p9, List.forall_mem_cons.mpr ⟨lw_p10, List.forall_mem_cons.mpr ⟨lw_p11, List.forall_mem_cons.mpr ⟨lw_p12, List.forall_mem_cons.mpr ⟨lw_p13, List.forall_mem_cons.mpr ⟨lw_p14, List.forall_mem_cons.mpr ⟨lw_p15, fun _ h => absurd h List.not_mem_nil⟩⟩⟩⟩⟩⟩⟩⟩⟩⟩⟩⟩⟩⟩⟩⟩
theorem lw_p16 : lw_okq (⟨"FringeBench$Reader", "takeWeight", "(I)V"⟩, 13) := ⟨⟨by decide +kernel, by decide +kernel⟩, List.mem_of_getElem? (i := 150) (by decide +kernel), List.mem_of_getElem? (i := 611) (by decide +kernel), List.mem_of_getElem? (i := 612) (by decide +kernel)⟩
theorem lw_p17 : lw_okq (⟨"FringeBench$Reader", "mentionsMissing", "()Z"⟩, 13) := ⟨⟨by decide +kernel, by decide +kernel⟩, List.mem_of_getElem? (i := 150) (by decide +kernel), List.mem_of_getElem? (i := 615) (by decide +kernel), List.mem_of_getElem? (i := 616) (by decide +kernel)⟩
theorem lw_p18 : lw_okq (⟨"FringeBench", "isPicture", "(I)Z"⟩, 10) := ⟨⟨by decide +kernel, by decide +kernel⟩, List.mem_of_getElem? (i := 20) (by decide +kernel), List.mem_of_getElem? (i := 666) (by decide +kernel), List.mem_of_getElem? (i := 667) (by decide +kernel)⟩
theorem lw_p19 : lw_okq (⟨"FringeBench", "heightsOf", "(I)LFringeBench$Heights;"⟩, 10) := ⟨⟨by decide +kernel, by decide +kernel⟩, List.mem_of_getElem? (i := 20) (by decide +kernel), List.mem_of_getElem? (i := 670) (by decide +kernel), List.mem_of_getElem? (i := 671) (by decide +kernel)⟩
theorem lw_p20 : lw_okq (⟨"FringeBench$Picture", "less", "(III)I"⟩, 7) := ⟨⟨by decide +kernel, by decide +kernel⟩, List.mem_of_getElem? (i := 35) (by decide +kernel), List.mem_of_getElem? (i := 684) (by decide +kernel), List.mem_of_getElem? (i := 685) (by decide +kernel)⟩
theorem lw_p21 : lw_okq (⟨"FringeBench$Scene", "nextToWalk", "()I"⟩, 11) := ⟨⟨by decide +kernel, by decide +kernel⟩, List.mem_of_getElem? (i := 211) (by decide +kernel), List.mem_of_getElem? (i := 708) (by decide +kernel), List.mem_of_getElem? (i := 709) (by decide +kernel)⟩
theorem lw_p22 : lw_okq (⟨"FringeBench$Scene", "leastWalkedBeside", "(I)I"⟩, 11) := ⟨⟨by decide +kernel, by decide +kernel⟩, List.mem_of_getElem? (i := 211) (by decide +kernel), List.mem_of_getElem? (i := 712) (by decide +kernel), List.mem_of_getElem? (i := 713) (by decide +kernel)⟩
theorem lw_p23 : lw_okq (⟨"FringeBench$Scene", "markNear", "(I)V"⟩, 11) := ⟨⟨by decide +kernel, by decide +kernel⟩, List.mem_of_getElem? (i := 211) (by decide +kernel), List.mem_of_getElem? (i := 724) (by decide +kernel), List.mem_of_getElem? (i := 725) (by decide +kernel)⟩
theorem lw_p24 : lw_okq (⟨"FringeBench$Heights", "join", "()V"⟩, 13) := ⟨⟨by decide +kernel, by decide +kernel⟩, List.mem_of_getElem? (i := 205) (by decide +kernel), List.mem_of_getElem? (i := 728) (by decide +kernel), List.mem_of_getElem? (i := 729) (by decide +kernel)⟩
theorem lw_p25 : lw_okq (⟨"FringeBench$Heights", "addJoint", "(II)V"⟩, 13) := ⟨⟨by decide +kernel, by decide +kernel⟩, List.mem_of_getElem? (i := 205) (by decide +kernel), List.mem_of_getElem? (i := 733) (by decide +kernel), List.mem_of_getElem? (i := 734) (by decide +kernel)⟩
theorem lw_p26 : lw_okq (⟨"FringeBench$Heights", "startFlow", "()V"⟩, 13) := ⟨⟨by decide +kernel, by decide +kernel⟩, List.mem_of_getElem? (i := 205) (by decide +kernel), List.mem_of_getElem? (i := 739) (by decide +kernel), List.mem_of_getElem? (i := 740) (by decide +kernel)⟩
theorem lw_p27 : lw_okq (⟨"FringeBench$Heights", "moveSurplus", "()Z"⟩, 13) := ⟨⟨by decide +kernel, by decide +kernel⟩, List.mem_of_getElem? (i := 205) (by decide +kernel), List.mem_of_getElem? (i := 744) (by decide +kernel), List.mem_of_getElem? (i := 745) (by decide +kernel)⟩
theorem lw_p28 : lw_okq (⟨"FringeBench$Heights", "spread", "(Z)V"⟩, 13) := ⟨⟨by decide +kernel, by decide +kernel⟩, List.mem_of_getElem? (i := 205) (by decide +kernel), List.mem_of_getElem? (i := 749) (by decide +kernel), List.mem_of_getElem? (i := 750) (by decide +kernel)⟩
theorem lw_p29 : lw_okq (⟨"FringeBench$Heights", "push", "(I)Z"⟩, 13) := ⟨⟨by decide +kernel, by decide +kernel⟩, List.mem_of_getElem? (i := 205) (by decide +kernel), List.mem_of_getElem? (i := 753) (by decide +kernel), List.mem_of_getElem? (i := 754) (by decide +kernel)⟩
theorem lw_p30 : lw_okq (⟨"FringeBench$Heights", "findTurns", "(Z)V"⟩, 13) := ⟨⟨by decide +kernel, by decide +kernel⟩, List.mem_of_getElem? (i := 205) (by decide +kernel), List.mem_of_getElem? (i := 757) (by decide +kernel), List.mem_of_getElem? (i := 758) (by decide +kernel)⟩
theorem lw_p31 : lw_okq (⟨"FringeBench$Scene", "hasFrame", "(IIII)Z"⟩, 11) := ⟨⟨by decide +kernel, by decide +kernel⟩, List.mem_of_getElem? (i := 211) (by decide +kernel), List.mem_of_getElem? (i := 773) (by decide +kernel), List.mem_of_getElem? (i := 774) (by decide +kernel)⟩
def lw_privs_2 : List (MethodName × Nat) := [(⟨"FringeBench$Reader", "takeWeight", "(I)V"⟩, 13), (⟨"FringeBench$Reader", "mentionsMissing", "()Z"⟩, 13), (⟨"FringeBench", "isPicture", "(I)Z"⟩, 10), (⟨"FringeBench", "heightsOf", "(I)LFringeBench$Heights;"⟩, 10), (⟨"FringeBench$Picture", "less", "(III)I"⟩, 7), (⟨"FringeBench$Scene", "nextToWalk", "()I"⟩, 11), (⟨"FringeBench$Scene", "leastWalkedBeside", "(I)I"⟩, 11), (⟨"FringeBench$Scene", "markNear", "(I)V"⟩, 11), (⟨"FringeBench$Heights", "join", "()V"⟩, 13), (⟨"FringeBench$Heights", "addJoint", "(II)V"⟩, 13), (⟨"FringeBench$Heights", "startFlow", "()V"⟩, 13), (⟨"FringeBench$Heights", "moveSurplus", "()Z"⟩, 13), (⟨"FringeBench$Heights", "spread", "(Z)V"⟩, 13), (⟨"FringeBench$Heights", "push", "(I)Z"⟩, 13), (⟨"FringeBench$Heights", "findTurns", "(Z)V"⟩, 13), (⟨"FringeBench$Scene", "hasFrame", "(IIII)Z"⟩, 11)]
theorem lw_r2 : ∀ q ∈ lw_privs_2, lw_okq q := List.forall_mem_cons.mpr ⟨lw_p16, List.forall_mem_cons.mpr ⟨lw_p17, List.forall_mem_cons.mpr ⟨lw_p18, List.forall_mem_cons.mpr ⟨lw_p19, List.forall_mem_cons.mpr ⟨lw_p20, List.forall_mem_cons.mpr ⟨lw_p21, List.forall_mem_cons.mpr ⟨lw_p22, List.forall_mem_cons.mpr ⟨lw_p23, List.forall_mem_cons.mpr ⟨lw_p24, List.forall_mem_cons.mpr ⟨lw_p25, List.forall_mem_cons.mpr ⟨lw_p26, List.forall_mem_cons.mpr ⟨lw_p27, List.forall_mem_cons.mpr ⟨lw_p28, List.forall_mem_cons.mpr ⟨lw_p29, List.forall_mem_cons.mpr ⟨lw_p30, List.forall_mem_cons.mpr ⟨lw_p31, fun _ h => absurd h List.not_mem_nil⟩⟩⟩⟩⟩⟩⟩⟩⟩⟩⟩⟩⟩⟩⟩⟩
theorem lw_p32 : lw_okq (⟨"FringeBench$Scene", "stepAround", "(III)I"⟩, 11) := ⟨⟨by decide +kernel, by decide +kernel⟩, List.mem_of_getElem? (i := 211) (by decide +kernel), List.mem_of_getElem? (i := 777) (by decide +kernel), List.mem_of_getElem? (i := 778) (by decide +kernel)⟩
theorem lw_p33 : lw_okq (⟨"FringeBench", "mendOf", "(ILFringeBench$Heights;)I"⟩, 10) := ⟨⟨by decide +kernel, by decide +kernel⟩, List.mem_of_getElem? (i := 20) (by decide +kernel), List.mem_of_getElem? (i := 797) (by decide +kernel), List.mem_of_getElem? (i := 798) (by decide +kernel)⟩
theorem lw_p34 : lw_okq (⟨"FringeBench", "costWithout", "(II)I"⟩, 10) := ⟨⟨by decide +kernel, by decide +kernel⟩, List.mem_of_getElem? (i := 20) (by decide +kernel), List.mem_of_getElem? (i := 801) (by decide +kernel), List.mem_of_getElem? (i := 802) (by decide +kernel)⟩
theorem lw_p35 : lw_okq (⟨"FringeBench", "supposedOf", "(I)LFringeBench$Heights;"⟩, 10) := ⟨⟨by decide +kernel, by decide +kernel⟩, List.mem_of_getElem? (i := 20) (by decide +kernel), List.mem_of_getElem? (i := 805) (by decide +kernel), List.mem_of_getElem? (i := 806) (by decide +kernel)⟩
theorem lw_p36 : lw_okq (⟨"FringeBench", "isPixel", "(II)Z"⟩, 10) := ⟨⟨by decide +kernel, by decide +kernel⟩, List.mem_of_getElem? (i := 20) (by decide +kernel), List.mem_of_getElem? (i := 823) (by decide +kernel), List.mem_of_getElem? (i := 824) (by decide +kernel)⟩
theorem lw_p37 : lw_okq (⟨"FringeBench", "isThere", "(II)Z"⟩, 10) := ⟨⟨by decide +kernel, by decide +kernel⟩, List.mem_of_getElem? (i := 20) (by decide +kernel), List.mem_of_getElem? (i := 834) (by decide +kernel), List.mem_of_getElem? (i := 835) (by decide +kernel)⟩
theorem lw_p38 : lw_okq (⟨"FringeBench$Pairing", "pairOne", "(I)V"⟩, 9) := ⟨⟨by decide +kernel, by decide +kernel⟩, List.mem_of_getElem? (i := 321) (by decide +kernel), List.mem_of_getElem? (i := 876) (by decide +kernel), List.mem_of_getElem? (i := 877) (by decide +kernel)⟩
theorem lw_p39 : lw_okq (⟨"FringeBench$Pairing", "edgesOutside", "(I)I"⟩, 9) := ⟨⟨by decide +kernel, by decide +kernel⟩, List.mem_of_getElem? (i := 321) (by decide +kernel), List.mem_of_getElem? (i := 881) (by decide +kernel), List.mem_of_getElem? (i := 882) (by decide +kernel)⟩
theorem lw_p40 : lw_okq (⟨"FringeBench", "isPart", "(II)Z"⟩, 10) := ⟨⟨by decide +kernel, by decide +kernel⟩, List.mem_of_getElem? (i := 20) (by decide +kernel), List.mem_of_getElem? (i := 908) (by decide +kernel), List.mem_of_getElem? (i := 909) (by decide +kernel)⟩
theorem lw_p41 : lw_okq (⟨"FringeBench$Plane", "clear", "()V"⟩, 10) := ⟨⟨by decide +kernel, by decide +kernel⟩, List.mem_of_getElem? (i := 355) (by decide +kernel), List.mem_of_getElem? (i := 940) (by decide +kernel), List.mem_of_getElem? (i := 941) (by decide +kernel)⟩
theorem lw_p42 : lw_okq (⟨"FringeBench$Plane", "add", "(JJJ)V"⟩, 10) := ⟨⟨by decide +kernel, by decide +kernel⟩, List.mem_of_getElem? (i := 355) (by decide +kernel), List.mem_of_getElem? (i := 945) (by decide +kernel), List.mem_of_getElem? (i := 946) (by decide +kernel)⟩
theorem lw_p43 : lw_okq (⟨"FringeBench$Scene", "pixelThere", "(I)I"⟩, 11) := ⟨⟨by decide +kernel, by decide +kernel⟩, List.mem_of_getElem? (i := 211) (by decide +kernel), List.mem_of_getElem? (i := 975) (by decide +kernel), List.mem_of_getElem? (i := 976) (by decide +kernel)⟩
theorem lw_p44 : lw_okq (⟨"FringeBench$Stitching", "meet", "(LFringeBench$Heights;ILFringeBench$Heights;I)V"⟩, 4) := ⟨⟨by decide +kernel, by decide +kernel⟩, List.mem_of_getElem? (i := 392) (by decide +kernel), List.mem_of_getElem? (i := 1008) (by decide +kernel), List.mem_of_getElem? (i := 1009) (by decide +kernel)⟩
theorem lw_p45 : lw_okq (⟨"FringeBench", "isTest", "(I)Z"⟩, 10) := ⟨⟨by decide +kernel, by decide +kernel⟩, List.mem_of_getElem? (i := 20) (by decide +kernel), List.mem_of_getElem? (i := 1039) (by decide +kernel), List.mem_of_getElem? (i := 1040) (by decide +kernel)⟩
theorem lw_p46 : lw_okq (⟨"FringeBenchModel", "fourBytes", "(I)V"⟩, 63) := ⟨⟨by decide +kernel, by decide +kernel⟩, List.mem_of_getElem? (i := 1056) (by decide +kernel), List.mem_of_getElem? (i := 1258) (by decide +kernel), List.mem_of_getElem? (i := 1259) (by decide +kernel)⟩
theorem lw_p47 : lw_okq (⟨"FringeBenchModel", "readText", "(I)Z"⟩, 63) := ⟨⟨by decide +kernel, by decide +kernel⟩, List.mem_of_getElem? (i := 1056) (by decide +kernel), List.mem_of_getElem? (i := 1273) (by decide +kernel), List.mem_of_getElem? (i := 1274) (by decide +kernel)⟩
def lw_privs_3 : List (MethodName × Nat) := [(⟨"FringeBench$Scene", "stepAround", "(III)I"⟩, 11), (⟨"FringeBench", "mendOf", "(ILFringeBench$Heights;)I"⟩, 10), (⟨"FringeBench", "costWithout", "(II)I"⟩, 10), (⟨"FringeBench", "supposedOf", "(I)LFringeBench$Heights;"⟩, 10), (⟨"FringeBench", "isPixel", "(II)Z"⟩, 10), (⟨"FringeBench", "isThere", "(II)Z"⟩, 10), (⟨"FringeBench$Pairing", "pairOne", "(I)V"⟩, 9), (⟨"FringeBench$Pairing", "edgesOutside", "(I)I"⟩, 9), (⟨"FringeBench", "isPart", "(II)Z"⟩, 10), (⟨"FringeBench$Plane", "clear", "()V"⟩, 10), (⟨"FringeBench$Plane", "add", "(JJJ)V"⟩, 10), (⟨"FringeBench$Scene", "pixelThere", "(I)I"⟩, 11), (⟨"FringeBench$Stitching", "meet", "(LFringeBench$Heights;ILFringeBench$Heights;I)V"⟩, 4), (⟨"FringeBench", "isTest", "(I)Z"⟩, 10), (⟨"FringeBenchModel", "fourBytes", "(I)V"⟩, 63), (⟨"FringeBenchModel", "readText", "(I)Z"⟩, 63)]
theorem lw_r3 : ∀ q ∈ lw_privs_3, lw_okq q := List.forall_mem_cons.mpr ⟨lw_p32, List.forall_mem_cons.mpr ⟨lw_p33, List.forall_mem_cons.mpr ⟨lw_p34, List.forall_mem_cons.mpr ⟨lw_p35, List.forall_mem_cons.mpr ⟨lw_p36, List.forall_mem_cons.mpr ⟨lw_p37, List.forall_mem_cons.mpr ⟨lw_p38, List.forall_mem_cons.mpr ⟨lw_p39, List.forall_mem_cons.mpr ⟨lw_p40, List.forall_mem_cons.mpr ⟨lw_p41, List.forall_mem_cons.mpr ⟨lw_p42, List.forall_mem_cons.mpr ⟨lw_p43, List.forall_mem_cons.mpr ⟨lw_p44, List.forall_mem_cons.mpr ⟨lw_p45, List.forall_mem_cons.mpr ⟨lw_p46, List.forall_mem_cons.mpr ⟨lw_p47, fun _ h => absurd h List.not_mem_nil⟩⟩⟩⟩⟩⟩⟩⟩⟩⟩⟩⟩⟩⟩⟩⟩
theorem lw_p48 : lw_okq (⟨"FringeBenchModel", "clear", "(I)V"⟩, 63) := ⟨⟨by decide +kernel, by decide +kernel⟩, List.mem_of_getElem? (i := 1056) (by decide +kernel), List.mem_of_getElem? (i := 1277) (by decide +kernel), List.mem_of_getElem? (i := 1278) (by decide +kernel)⟩
theorem lw_p49 : lw_okq (⟨"FringeBenchModel", "token", "()V"⟩, 63) := ⟨⟨by decide +kernel, by decide +kernel⟩, List.mem_of_getElem? (i := 1056) (by decide +kernel), List.mem_of_getElem? (i := 1281) (by decide +kernel), List.mem_of_getElem? (i := 1282) (by decide +kernel)⟩
theorem lw_p50 : lw_okq (⟨"FringeBenchModel", "see", "()I"⟩, 63) := ⟨⟨by decide +kernel, by decide +kernel⟩, List.mem_of_getElem? (i := 1056) (by decide +kernel), List.mem_of_getElem? (i := 1285) (by decide +kernel), List.mem_of_getElem? (i := 1286) (by decide +kernel)⟩
theorem lw_p51 : lw_okq (⟨"FringeBenchModel", "pictureLine", "(J)Z"⟩, 63) := ⟨⟨by decide +kernel, by decide +kernel⟩, List.mem_of_getElem? (i := 1056) (by decide +kernel), List.mem_of_getElem? (i := 1289) (by decide +kernel), List.mem_of_getElem? (i := 1290) (by decide +kernel)⟩
theorem lw_p52 : lw_okq (⟨"FringeBenchModel", "stops", "()Z"⟩, 63) := ⟨⟨by decide +kernel, by decide +kernel⟩, List.mem_of_getElem? (i := 1056) (by decide +kernel), List.mem_of_getElem? (i := 1299) (by decide +kernel), List.mem_of_getElem? (i := 1300) (by decide +kernel)⟩
theorem lw_p53 : lw_okq (⟨"FringeBenchModel", "into", "(III)Z"⟩, 63) := ⟨⟨by decide +kernel, by decide +kernel⟩, List.mem_of_getElem? (i := 1056) (by decide +kernel), List.mem_of_getElem? (i := 1303) (by decide +kernel), List.mem_of_getElem? (i := 1304) (by decide +kernel)⟩
theorem lw_p54 : lw_okq (⟨"FringeBenchModel", "take", "(II)Z"⟩, 63) := ⟨⟨by decide +kernel, by decide +kernel⟩, List.mem_of_getElem? (i := 1056) (by decide +kernel), List.mem_of_getElem? (i := 1307) (by decide +kernel), List.mem_of_getElem? (i := 1308) (by decide +kernel)⟩
theorem lw_p55 : lw_okq (⟨"FringeBenchModel", "later", "(II)V"⟩, 63) := ⟨⟨by decide +kernel, by decide +kernel⟩, List.mem_of_getElem? (i := 1056) (by decide +kernel), List.mem_of_getElem? (i := 1311) (by decide +kernel), List.mem_of_getElem? (i := 1312) (by decide +kernel)⟩
theorem lw_p56 : lw_okq (⟨"FringeBenchModel", "numbers", "(II)Z"⟩, 63) := ⟨⟨by decide +kernel, by decide +kernel⟩, List.mem_of_getElem? (i := 1056) (by decide +kernel), List.mem_of_getElem? (i := 1315) (by decide +kernel), List.mem_of_getElem? (i := 1316) (by decide +kernel)⟩
theorem lw_p57 : lw_okq (⟨"FringeBenchModel", "pixelNumber", "()Z"⟩, 63) := ⟨⟨by decide +kernel, by decide +kernel⟩, List.mem_of_getElem? (i := 1056) (by decide +kernel), List.mem_of_getElem? (i := 1319) (by decide +kernel), List.mem_of_getElem? (i := 1320) (by decide +kernel)⟩
theorem lw_p58 : lw_okq (⟨"FringeBenchModel", "testLine", "(JI)Z"⟩, 63) := ⟨⟨by decide +kernel, by decide +kernel⟩, List.mem_of_getElem? (i := 1056) (by decide +kernel), List.mem_of_getElem? (i := 1323) (by decide +kernel), List.mem_of_getElem? (i := 1324) (by decide +kernel)⟩
theorem lw_p59 : lw_okq (⟨"FringeBenchModel", "lay", "(I)Z"⟩, 63) := ⟨⟨by decide +kernel, by decide +kernel⟩, List.mem_of_getElem? (i := 1056) (by decide +kernel), List.mem_of_getElem? (i := 1341) (by decide +kernel), List.mem_of_getElem? (i := 1342) (by decide +kernel)⟩
theorem lw_p60 : lw_okq (⟨"FringeBenchModel", "hand", "(I)Z"⟩, 63) := ⟨⟨by decide +kernel, by decide +kernel⟩, List.mem_of_getElem? (i := 1056) (by decide +kernel), List.mem_of_getElem? (i := 1345) (by decide +kernel), List.mem_of_getElem? (i := 1346) (by decide +kernel)⟩
theorem lw_p61 : lw_okq (⟨"FringeBenchModel", "isPicture", "(I)Z"⟩, 63) := ⟨⟨by decide +kernel, by decide +kernel⟩, List.mem_of_getElem? (i := 1056) (by decide +kernel), List.mem_of_getElem? (i := 1349) (by decide +kernel), List.mem_of_getElem? (i := 1350) (by decide +kernel)⟩
theorem lw_p62 : lw_okq (⟨"FringeBenchModel", "findPhases", "()V"⟩, 63) := ⟨⟨by decide +kernel, by decide +kernel⟩, List.mem_of_getElem? (i := 1056) (by decide +kernel), List.mem_of_getElem? (i := 1353) (by decide +kernel), List.mem_of_getElem? (i := 1354) (by decide +kernel)⟩
theorem lw_p63 : lw_okq (⟨"FringeBenchModel", "phaseBySteps", "(I)I"⟩, 63) := ⟨⟨by decide +kernel, by decide +kernel⟩, List.mem_of_getElem? (i := 1056) (by decide +kernel), List.mem_of_getElem? (i := 1357) (by decide +kernel), List.mem_of_getElem? (i := 1358) (by decide +kernel)⟩
def lw_privs_4 : List (MethodName × Nat) := [(⟨"FringeBenchModel", "clear", "(I)V"⟩, 63), (⟨"FringeBenchModel", "token", "()V"⟩, 63), (⟨"FringeBenchModel", "see", "()I"⟩, 63), (⟨"FringeBenchModel", "pictureLine", "(J)Z"⟩, 63), (⟨"FringeBenchModel", "stops", "()Z"⟩, 63), (⟨"FringeBenchModel", "into", "(III)Z"⟩, 63), (⟨"FringeBenchModel", "take", "(II)Z"⟩, 63), (⟨"FringeBenchModel", "later", "(II)V"⟩, 63), (⟨"FringeBenchModel", "numbers", "(II)Z"⟩, 63), (⟨"FringeBenchModel", "pixelNumber", "()Z"⟩, 63), (⟨"FringeBenchModel", "testLine", "(JI)Z"⟩, 63), (⟨"FringeBenchModel", "lay", "(I)Z"⟩, 63), (⟨"FringeBenchModel", "hand", "(I)Z"⟩, 63), (⟨"FringeBenchModel", "isPicture", "(I)Z"⟩, 63), (⟨"FringeBenchModel", "findPhases", "()V"⟩, 63), (⟨"FringeBenchModel", "phaseBySteps", "(I)I"⟩, 63)]
theorem lw_r4 : ∀ q ∈ lw_privs_4, lw_okq q := List.forall_mem_cons.mpr ⟨lw_p48, List.forall_mem_cons.mpr ⟨lw_p49, List.forall_mem_cons.mpr ⟨lw_p50, List.forall_mem_cons.mpr ⟨lw_p51, List.forall_mem_cons.mpr ⟨lw_p52, List.forall_mem_cons.mpr ⟨lw_p53, List.forall_mem_cons.mpr ⟨lw_p54, List.forall_mem_cons.mpr ⟨lw_p55, List.forall_mem_cons.mpr ⟨lw_p56, List.forall_mem_cons.mpr ⟨lw_p57, List.forall_mem_cons.mpr ⟨lw_p58, List.forall_mem_cons.mpr ⟨lw_p59, List.forall_mem_cons.mpr ⟨lw_p60, List.forall_mem_cons.mpr ⟨lw_p61, List.forall_mem_cons.mpr ⟨lw_p62, List.forall_mem_cons.mpr ⟨lw_p63, fun _ h => absurd h List.not_mem_nil⟩⟩⟩⟩⟩⟩⟩⟩⟩⟩⟩⟩⟩⟩⟩⟩
theorem lw_p64 : lw_okq (⟨"FringeBenchModel", "contrast", "(I)I"⟩, 63) := ⟨⟨by decide +kernel, by decide +kernel⟩, List.mem_of_getElem? (i := 1056) (by decide +kernel), List.mem_of_getElem? (i := 1361) (by decide +kernel), List.mem_of_getElem? (i := 1362) (by decide +kernel)⟩
theorem lw_p65 : lw_okq (⟨"FringeBenchModel", "findTurns", "()V"⟩, 63) := ⟨⟨by decide +kernel, by decide +kernel⟩, List.mem_of_getElem? (i := 1056) (by decide +kernel), List.mem_of_getElem? (i := 1368) (by decide +kernel), List.mem_of_getElem? (i := 1369) (by decide +kernel)⟩
theorem lw_p66 : lw_okq (⟨"FringeBenchModel", "findParts", "(I)V"⟩, 63) := ⟨⟨by decide +kernel, by decide +kernel⟩, List.mem_of_getElem? (i := 1056) (by decide +kernel), List.mem_of_getElem? (i := 1372) (by decide +kernel), List.mem_of_getElem? (i := 1373) (by decide +kernel)⟩
theorem lw_p67 : lw_okq (⟨"FringeBenchModel", "areBeside", "(II)Z"⟩, 63) := ⟨⟨by decide +kernel, by decide +kernel⟩, List.mem_of_getElem? (i := 1056) (by decide +kernel), List.mem_of_getElem? (i := 1376) (by decide +kernel), List.mem_of_getElem? (i := 1377) (by decide +kernel)⟩
theorem lw_p68 : lw_okq (⟨"FringeBenchModel", "findCouples", "()V"⟩, 63) := ⟨⟨by decide +kernel, by decide +kernel⟩, List.mem_of_getElem? (i := 1056) (by decide +kernel), List.mem_of_getElem? (i := 1380) (by decide +kernel), List.mem_of_getElem? (i := 1381) (by decide +kernel)⟩
theorem lw_p69 : lw_okq (⟨"FringeBenchModel", "difference", "(II)I"⟩, 63) := ⟨⟨by decide +kernel, by decide +kernel⟩, List.mem_of_getElem? (i := 1056) (by decide +kernel), List.mem_of_getElem? (i := 1384) (by decide +kernel), List.mem_of_getElem? (i := 1385) (by decide +kernel)⟩
theorem lw_p70 : lw_okq (⟨"FringeBenchModel", "walk", "()V"⟩, 63) := ⟨⟨by decide +kernel, by decide +kernel⟩, List.mem_of_getElem? (i := 1056) (by decide +kernel), List.mem_of_getElem? (i := 1391) (by decide +kernel), List.mem_of_getElem? (i := 1392) (by decide +kernel)⟩
theorem lw_p71 : lw_okq (⟨"FringeBenchModel", "rootOf", "(I)I"⟩, 63) := ⟨⟨by decide +kernel, by decide +kernel⟩, List.mem_of_getElem? (i := 1056) (by decide +kernel), List.mem_of_getElem? (i := 1395) (by decide +kernel), List.mem_of_getElem? (i := 1396) (by decide +kernel)⟩
theorem lw_p72 : lw_okq (⟨"FringeBenchModel", "nextToWalk", "(I)I"⟩, 63) := ⟨⟨by decide +kernel, by decide +kernel⟩, List.mem_of_getElem? (i := 1056) (by decide +kernel), List.mem_of_getElem? (i := 1399) (by decide +kernel), List.mem_of_getElem? (i := 1400) (by decide +kernel)⟩
theorem lw_p73 : lw_okq (⟨"FringeBenchModel", "costNow", "()I"⟩, 63) := ⟨⟨by decide +kernel, by decide +kernel⟩, List.mem_of_getElem? (i := 1056) (by decide +kernel), List.mem_of_getElem? (i := 1403) (by decide +kernel), List.mem_of_getElem? (i := 1404) (by decide +kernel)⟩
theorem lw_p74 : lw_okq (⟨"FringeBenchModel", "leap", "(I)I"⟩, 63) := ⟨⟨by decide +kernel, by decide +kernel⟩, List.mem_of_getElem? (i := 1056) (by decide +kernel), List.mem_of_getElem? (i := 1407) (by decide +kernel), List.mem_of_getElem? (i := 1408) (by decide +kernel)⟩
theorem lw_p75 : lw_okq (⟨"FringeBenchModel", "goesIfLess", "(I)V"⟩, 63) := ⟨⟨by decide +kernel, by decide +kernel⟩, List.mem_of_getElem? (i := 1056) (by decide +kernel), List.mem_of_getElem? (i := 1411) (by decide +kernel), List.mem_of_getElem? (i := 1412) (by decide +kernel)⟩
theorem lw_p76 : lw_okq (⟨"FringeBenchModel", "goes", "(I)Z"⟩, 63) := ⟨⟨by decide +kernel, by decide +kernel⟩, List.mem_of_getElem? (i := 1056) (by decide +kernel), List.mem_of_getElem? (i := 1415) (by decide +kernel), List.mem_of_getElem? (i := 1416) (by decide +kernel)⟩
theorem lw_p77 : lw_okq (⟨"FringeBenchModel", "layNet", "(I)V"⟩, 63) := ⟨⟨by decide +kernel, by decide +kernel⟩, List.mem_of_getElem? (i := 1056) (by decide +kernel), List.mem_of_getElem? (i := 1419) (by decide +kernel), List.mem_of_getElem? (i := 1420) (by decide +kernel)⟩
theorem lw_p78 : lw_okq (⟨"FringeBenchModel", "addRoom", "(III)V"⟩, 63) := ⟨⟨by decide +kernel, by decide +kernel⟩, List.mem_of_getElem? (i := 1056) (by decide +kernel), List.mem_of_getElem? (i := 1424) (by decide +kernel), List.mem_of_getElem? (i := 1425) (by decide +kernel)⟩
theorem lw_p79 : lw_okq (⟨"FringeBenchModel", "charge", "(II)V"⟩, 63) := ⟨⟨by decide +kernel, by decide +kernel⟩, List.mem_of_getElem? (i := 1056) (by decide +kernel), List.mem_of_getElem? (i := 1428) (by decide +kernel), List.mem_of_getElem? (i := 1429) (by decide +kernel)⟩
def lw_privs_5 : List (MethodName × Nat) := [(⟨"FringeBenchModel", "contrast", "(I)I"⟩, 63), (⟨"FringeBenchModel", "findTurns", "()V"⟩, 63), (⟨"FringeBenchModel", "findParts", "(I)V"⟩, 63), (⟨"FringeBenchModel", "areBeside", "(II)Z"⟩, 63), (⟨"FringeBenchModel", "findCouples", "()V"⟩, 63), (⟨"FringeBenchModel", "difference", "(II)I"⟩, 63), (⟨"FringeBenchModel", "walk", "()V"⟩, 63), (⟨"FringeBenchModel", "rootOf", "(I)I"⟩, 63), (⟨"FringeBenchModel", "nextToWalk", "(I)I"⟩, 63), (⟨"FringeBenchModel", "costNow", "()I"⟩, 63), (⟨"FringeBenchModel", "leap", "(I)I"⟩, 63), (⟨"FringeBenchModel", "goesIfLess", "(I)V"⟩, 63), (⟨"FringeBenchModel", "goes", "(I)Z"⟩, 63), (⟨"FringeBenchModel", "layNet", "(I)V"⟩, 63), (⟨"FringeBenchModel", "addRoom", "(III)V"⟩, 63), (⟨"FringeBenchModel", "charge", "(II)V"⟩, 63)]
theorem lw_r5 : ∀ q ∈ lw_privs_5, lw_okq q := List.forall_mem_cons.mpr ⟨lw_p64, List.forall_mem_cons.mpr ⟨lw_p65, List.forall_mem_cons.mpr ⟨lw_p66, List.forall_mem_cons.mpr ⟨lw_p67, List.forall_mem_cons.mpr ⟨lw_p68, List.forall_mem_cons.mpr ⟨lw_p69, List.forall_mem_cons.mpr ⟨lw_p70, List.forall_mem_cons.mpr ⟨lw_p71, List.forall_mem_cons.mpr ⟨lw_p72, List.forall_mem_cons.mpr ⟨lw_p73, List.forall_mem_cons.mpr ⟨lw_p74, List.forall_mem_cons.mpr ⟨lw_p75, List.forall_mem_cons.mpr ⟨lw_p76, List.forall_mem_cons.mpr ⟨lw_p77, List.forall_mem_cons.mpr ⟨lw_p78, List.forall_mem_cons.mpr ⟨lw_p79, fun _ h => absurd h List.not_mem_nil⟩⟩⟩⟩⟩⟩⟩⟩⟩⟩⟩⟩⟩⟩⟩⟩
theorem lw_p80 : lw_okq (⟨"FringeBenchModel", "fill", "()V"⟩, 63) := ⟨⟨by decide +kernel, by decide +kernel⟩, List.mem_of_getElem? (i := 1056) (by decide +kernel), List.mem_of_getElem? (i := 1432) (by decide +kernel), List.mem_of_getElem? (i := 1433) (by decide +kernel)⟩
theorem lw_p81 : lw_okq (⟨"FringeBenchModel", "flood", "()V"⟩, 63) := ⟨⟨by decide +kernel, by decide +kernel⟩, List.mem_of_getElem? (i := 1056) (by decide +kernel), List.mem_of_getElem? (i := 1436) (by decide +kernel), List.mem_of_getElem? (i := 1437) (by decide +kernel)⟩
theorem lw_p82 : lw_okq (⟨"FringeBenchModel", "foursThat", "(I)I"⟩, 63) := ⟨⟨by decide +kernel, by decide +kernel⟩, List.mem_of_getElem? (i := 1056) (by decide +kernel), List.mem_of_getElem? (i := 1440) (by decide +kernel), List.mem_of_getElem? (i := 1441) (by decide +kernel)⟩
theorem lw_p83 : lw_okq (⟨"FringeBenchModel", "fourAt", "(II)I"⟩, 63) := ⟨⟨by decide +kernel, by decide +kernel⟩, List.mem_of_getElem? (i := 1056) (by decide +kernel), List.mem_of_getElem? (i := 1444) (by decide +kernel), List.mem_of_getElem? (i := 1445) (by decide +kernel)⟩
theorem lw_p84 : lw_okq (⟨"FringeBenchModel", "leapsThere", "()I"⟩, 63) := ⟨⟨by decide +kernel, by decide +kernel⟩, List.mem_of_getElem? (i := 1056) (by decide +kernel), List.mem_of_getElem? (i := 1448) (by decide +kernel), List.mem_of_getElem? (i := 1449) (by decide +kernel)⟩
theorem lw_p85 : lw_okq (⟨"FringeBenchModel", "wrong", "()I"⟩, 63) := ⟨⟨by decide +kernel, by decide +kernel⟩, List.mem_of_getElem? (i := 1056) (by decide +kernel), List.mem_of_getElem? (i := 1452) (by decide +kernel), List.mem_of_getElem? (i := 1453) (by decide +kernel)⟩
theorem lw_p86 : lw_okq (⟨"FringeBenchModel", "heightOf", "(I)I"⟩, 63) := ⟨⟨by decide +kernel, by decide +kernel⟩, List.mem_of_getElem? (i := 1056) (by decide +kernel), List.mem_of_getElem? (i := 1456) (by decide +kernel), List.mem_of_getElem? (i := 1457) (by decide +kernel)⟩
theorem lw_p87 : lw_okq (⟨"FringeBenchModel", "mend", "(I)I"⟩, 63) := ⟨⟨by decide +kernel, by decide +kernel⟩, List.mem_of_getElem? (i := 1056) (by decide +kernel), List.mem_of_getElem? (i := 1460) (by decide +kernel), List.mem_of_getElem? (i := 1461) (by decide +kernel)⟩
theorem lw_p88 : lw_okq (⟨"FringeBenchModel", "costOut", "(I)I"⟩, 63) := ⟨⟨by decide +kernel, by decide +kernel⟩, List.mem_of_getElem? (i := 1056) (by decide +kernel), List.mem_of_getElem? (i := 1464) (by decide +kernel), List.mem_of_getElem? (i := 1465) (by decide +kernel)⟩
theorem lw_p89 : lw_okq (⟨"FringeBenchModel", "rough", "()I"⟩, 63) := ⟨⟨by decide +kernel, by decide +kernel⟩, List.mem_of_getElem? (i := 1056) (by decide +kernel), List.mem_of_getElem? (i := 1468) (by decide +kernel), List.mem_of_getElem? (i := 1469) (by decide +kernel)⟩
theorem lw_p90 : lw_okq (⟨"FringeBenchModel", "sure", "()I"⟩, 63) := ⟨⟨by decide +kernel, by decide +kernel⟩, List.mem_of_getElem? (i := 1056) (by decide +kernel), List.mem_of_getElem? (i := 1472) (by decide +kernel), List.mem_of_getElem? (i := 1473) (by decide +kernel)⟩
theorem lw_p91 : lw_okq (⟨"FringeBenchModel", "isThere", "(I)Z"⟩, 63) := ⟨⟨by decide +kernel, by decide +kernel⟩, List.mem_of_getElem? (i := 1056) (by decide +kernel), List.mem_of_getElem? (i := 1484) (by decide +kernel), List.mem_of_getElem? (i := 1485) (by decide +kernel)⟩
theorem lw_p92 : lw_okq (⟨"FringeBenchModel", "sizeOf", "(I)I"⟩, 63) := ⟨⟨by decide +kernel, by decide +kernel⟩, List.mem_of_getElem? (i := 1056) (by decide +kernel), List.mem_of_getElem? (i := 1501) (by decide +kernel), List.mem_of_getElem? (i := 1502) (by decide +kernel)⟩
theorem lw_p93 : lw_okq (⟨"FringeBenchModel", "lowest", "(I)I"⟩, 63) := ⟨⟨by decide +kernel, by decide +kernel⟩, List.mem_of_getElem? (i := 1056) (by decide +kernel), List.mem_of_getElem? (i := 1505) (by decide +kernel), List.mem_of_getElem? (i := 1506) (by decide +kernel)⟩
theorem lw_p94 : lw_okq (⟨"FringeBenchModel", "highest", "(I)I"⟩, 63) := ⟨⟨by decide +kernel, by decide +kernel⟩, List.mem_of_getElem? (i := 1056) (by decide +kernel), List.mem_of_getElem? (i := 1509) (by decide +kernel), List.mem_of_getElem? (i := 1510) (by decide +kernel)⟩
theorem lw_p95 : lw_okq (⟨"FringeBenchModel", "findSums", "(I)V"⟩, 63) := ⟨⟨by decide +kernel, by decide +kernel⟩, List.mem_of_getElem? (i := 1056) (by decide +kernel), List.mem_of_getElem? (i := 1518) (by decide +kernel), List.mem_of_getElem? (i := 1519) (by decide +kernel)⟩
def lw_privs_6 : List (MethodName × Nat) := [(⟨"FringeBenchModel", "fill", "()V"⟩, 63), (⟨"FringeBenchModel", "flood", "()V"⟩, 63), (⟨"FringeBenchModel", "foursThat", "(I)I"⟩, 63), (⟨"FringeBenchModel", "fourAt", "(II)I"⟩, 63), (⟨"FringeBenchModel", "leapsThere", "()I"⟩, 63), (⟨"FringeBenchModel", "wrong", "()I"⟩, 63), (⟨"FringeBenchModel", "heightOf", "(I)I"⟩, 63), (⟨"FringeBenchModel", "mend", "(I)I"⟩, 63), (⟨"FringeBenchModel", "costOut", "(I)I"⟩, 63), (⟨"FringeBenchModel", "rough", "()I"⟩, 63), (⟨"FringeBenchModel", "sure", "()I"⟩, 63), (⟨"FringeBenchModel", "isThere", "(I)Z"⟩, 63), (⟨"FringeBenchModel", "sizeOf", "(I)I"⟩, 63), (⟨"FringeBenchModel", "lowest", "(I)I"⟩, 63), (⟨"FringeBenchModel", "highest", "(I)I"⟩, 63), (⟨"FringeBenchModel", "findSums", "(I)V"⟩, 63)]
theorem lw_r6 : ∀ q ∈ lw_privs_6, lw_okq q := List.forall_mem_cons.mpr ⟨lw_p80, List.forall_mem_cons.mpr ⟨lw_p81, List.forall_mem_cons.mpr ⟨lw_p82, List.forall_mem_cons.mpr ⟨lw_p83, List.forall_mem_cons.mpr ⟨lw_p84, List.forall_mem_cons.mpr ⟨lw_p85, List.forall_mem_cons.mpr ⟨lw_p86, List.forall_mem_cons.mpr ⟨lw_p87, List.forall_mem_cons.mpr ⟨lw_p88, List.forall_mem_cons.mpr ⟨lw_p89, List.forall_mem_cons.mpr ⟨lw_p90, List.forall_mem_cons.mpr ⟨lw_p91, List.forall_mem_cons.mpr ⟨lw_p92, List.forall_mem_cons.mpr ⟨lw_p93, List.forall_mem_cons.mpr ⟨lw_p94, List.forall_mem_cons.mpr ⟨lw_p95, fun _ h => absurd h List.not_mem_nil⟩⟩⟩⟩⟩⟩⟩⟩⟩⟩⟩⟩⟩⟩⟩⟩
theorem lw_p96 : lw_okq (⟨"FringeBenchModel", "aside", "(I)Z"⟩, 63) := ⟨⟨by decide +kernel, by decide +kernel⟩, List.mem_of_getElem? (i := 1056) (by decide +kernel), List.mem_of_getElem? (i := 1537) (by decide +kernel), List.mem_of_getElem? (i := 1538) (by decide +kernel)⟩
theorem lw_p97 : lw_okq (⟨"FringeBenchModel", "stitchBy", "(II)V"⟩, 63) := ⟨⟨by decide +kernel, by decide +kernel⟩, List.mem_of_getElem? (i := 1056) (by decide +kernel), List.mem_of_getElem? (i := 1541) (by decide +kernel), List.mem_of_getElem? (i := 1542) (by decide +kernel)⟩
theorem lw_p98 : lw_okq (⟨"FringeBenchModel", "wideOf", "(I)I"⟩, 63) := ⟨⟨by decide +kernel, by decide +kernel⟩, List.mem_of_getElem? (i := 1056) (by decide +kernel), List.mem_of_getElem? (i := 1553) (by decide +kernel), List.mem_of_getElem? (i := 1554) (by decide +kernel)⟩
theorem lw_p99 : lw_okq (⟨"FringeBenchModel", "sumOf", "(III)I"⟩, 63) := ⟨⟨by decide +kernel, by decide +kernel⟩, List.mem_of_getElem? (i := 1056) (by decide +kernel), List.mem_of_getElem? (i := 1557) (by decide +kernel), List.mem_of_getElem? (i := 1558) (by decide +kernel)⟩
theorem lw_p100 : lw_okq (⟨"FringeBenchModel", "draw", "(I)I"⟩, 63) := ⟨⟨by decide +kernel, by decide +kernel⟩, List.mem_of_getElem? (i := 1056) (by decide +kernel), List.mem_of_getElem? (i := 1565) (by decide +kernel), List.mem_of_getElem? (i := 1566) (by decide +kernel)⟩
theorem lw_p101 : lw_okq (⟨"FringeBenchModel", "thereAt", "(I)I"⟩, 63) := ⟨⟨by decide +kernel, by decide +kernel⟩, List.mem_of_getElem? (i := 1056) (by decide +kernel), List.mem_of_getElem? (i := 1570) (by decide +kernel), List.mem_of_getElem? (i := 1571) (by decide +kernel)⟩
theorem lw_p102 : lw_okq (⟨"FringeBenchModel", "more", "(II)V"⟩, 63) := ⟨⟨by decide +kernel, by decide +kernel⟩, List.mem_of_getElem? (i := 1056) (by decide +kernel), List.mem_of_getElem? (i := 1574) (by decide +kernel), List.mem_of_getElem? (i := 1575) (by decide +kernel)⟩
theorem lw_p103 : lw_okq (⟨"FringeBenchModel", "foursOff", "()I"⟩, 63) := ⟨⟨by decide +kernel, by decide +kernel⟩, List.mem_of_getElem? (i := 1056) (by decide +kernel), List.mem_of_getElem? (i := 1578) (by decide +kernel), List.mem_of_getElem? (i := 1579) (by decide +kernel)⟩
theorem lw_p104 : lw_okq (⟨"FringeBenchModel", "isTest", "(I)Z"⟩, 63) := ⟨⟨by decide +kernel, by decide +kernel⟩, List.mem_of_getElem? (i := 1056) (by decide +kernel), List.mem_of_getElem? (i := 1586) (by decide +kernel), List.mem_of_getElem? (i := 1587) (by decide +kernel)⟩
theorem lw_p105 : lw_okq (⟨"FringeBenchModel", "named", "(I)I"⟩, 63) := ⟨⟨by decide +kernel, by decide +kernel⟩, List.mem_of_getElem? (i := 1056) (by decide +kernel), List.mem_of_getElem? (i := 1594) (by decide +kernel), List.mem_of_getElem? (i := 1595) (by decide +kernel)⟩
theorem lw_p106 : lw_okq (⟨"FringeBenchModel", "greatestHigh", "()I"⟩, 63) := ⟨⟨by decide +kernel, by decide +kernel⟩, List.mem_of_getElem? (i := 1056) (by decide +kernel), List.mem_of_getElem? (i := 1598) (by decide +kernel), List.mem_of_getElem? (i := 1599) (by decide +kernel)⟩
theorem lw_p107 : lw_okq (⟨"FringeBenchModel", "payFor", "(I)V"⟩, 63) := ⟨⟨by decide +kernel, by decide +kernel⟩, List.mem_of_getElem? (i := 1056) (by decide +kernel), List.mem_of_getElem? (i := 1610) (by decide +kernel), List.mem_of_getElem? (i := 1611) (by decide +kernel)⟩
theorem lw_p108 : lw_okq (⟨"FringeBenchModel", "edgeOf", "(I)I"⟩, 63) := ⟨⟨by decide +kernel, by decide +kernel⟩, List.mem_of_getElem? (i := 1056) (by decide +kernel), List.mem_of_getElem? (i := 1614) (by decide +kernel), List.mem_of_getElem? (i := 1615) (by decide +kernel)⟩
theorem lw_p109 : lw_okq (⟨"FringeBenchModel", "apartOf", "(II)I"⟩, 63) := ⟨⟨by decide +kernel, by decide +kernel⟩, List.mem_of_getElem? (i := 1056) (by decide +kernel), List.mem_of_getElem? (i := 1618) (by decide +kernel), List.mem_of_getElem? (i := 1619) (by decide +kernel)⟩
theorem lw_p110 : lw_okq (⟨"FringeBenchModel", "copyAll", "(II)V"⟩, 63) := ⟨⟨by decide +kernel, by decide +kernel⟩, List.mem_of_getElem? (i := 1056) (by decide +kernel), List.mem_of_getElem? (i := 1653) (by decide +kernel), List.mem_of_getElem? (i := 1654) (by decide +kernel)⟩
def lw_privs_7 : List (MethodName × Nat) := [(⟨"FringeBenchModel", "aside", "(I)Z"⟩, 63), (⟨"FringeBenchModel", "stitchBy", "(II)V"⟩, 63), (⟨"FringeBenchModel", "wideOf", "(I)I"⟩, 63), (⟨"FringeBenchModel", "sumOf", "(III)I"⟩, 63), (⟨"FringeBenchModel", "draw", "(I)I"⟩, 63), (⟨"FringeBenchModel", "thereAt", "(I)I"⟩, 63), (⟨"FringeBenchModel", "more", "(II)V"⟩, 63), (⟨"FringeBenchModel", "foursOff", "()I"⟩, 63), (⟨"FringeBenchModel", "isTest", "(I)Z"⟩, 63), (⟨"FringeBenchModel", "named", "(I)I"⟩, 63), (⟨"FringeBenchModel", "greatestHigh", "()I"⟩, 63), (⟨"FringeBenchModel", "payFor", "(I)V"⟩, 63), (⟨"FringeBenchModel", "edgeOf", "(I)I"⟩, 63), (⟨"FringeBenchModel", "apartOf", "(II)I"⟩, 63), (⟨"FringeBenchModel", "copyAll", "(II)V"⟩, 63)]
theorem lw_r7 : ∀ q ∈ lw_privs_7, lw_okq q := List.forall_mem_cons.mpr ⟨lw_p96, List.forall_mem_cons.mpr ⟨lw_p97, List.forall_mem_cons.mpr ⟨lw_p98, List.forall_mem_cons.mpr ⟨lw_p99, List.forall_mem_cons.mpr ⟨lw_p100, List.forall_mem_cons.mpr ⟨lw_p101, List.forall_mem_cons.mpr ⟨lw_p102, List.forall_mem_cons.mpr ⟨lw_p103, List.forall_mem_cons.mpr ⟨lw_p104, List.forall_mem_cons.mpr ⟨lw_p105, List.forall_mem_cons.mpr ⟨lw_p106, List.forall_mem_cons.mpr ⟨lw_p107, List.forall_mem_cons.mpr ⟨lw_p108, List.forall_mem_cons.mpr ⟨lw_p109, List.forall_mem_cons.mpr ⟨lw_p110, fun _ h => absurd h List.not_mem_nil⟩⟩⟩⟩⟩⟩⟩⟩⟩⟩⟩⟩⟩⟩⟩
def lw_privs : List (MethodName × Nat) := lw_privs_1 ++ (lw_privs_2 ++ (lw_privs_3 ++ (lw_privs_4 ++ (lw_privs_5 ++ (lw_privs_6 ++ (lw_privs_7))))))
def lw_tbl : List Cond := k2_sels lw_privs ++ tables_1
theorem lw_privs_ok : ∀ q ∈ lw_privs, lw_okq q := by
  show ∀ q ∈ lw_privs_1 ++ (lw_privs_2 ++ (lw_privs_3 ++ (lw_privs_4 ++ (lw_privs_5 ++ (lw_privs_6 ++ (lw_privs_7)))))), lw_okq q
  exact List.forall_mem_append.mpr ⟨lw_r1, List.forall_mem_append.mpr ⟨lw_r2, List.forall_mem_append.mpr ⟨lw_r3, List.forall_mem_append.mpr ⟨lw_r4, List.forall_mem_append.mpr ⟨lw_r5, List.forall_mem_append.mpr ⟨lw_r6, lw_r7⟩⟩⟩⟩⟩⟩
-- ===== end of PART A; then your names; then what follows =====

def RX0 : String := "FringeBench$Heights"
def TX0 : u_T := fun k => match k with
  | 0 => ("FringeBench$Heights", "scene", "LFringeBench$Scene;", true)
  | 1 => ("FringeBench$Heights", "cost", "I", false)
  | 2 => ("FringeBench$Heights", "turns", "[I", true)
  | 3 => ("FringeBench$Heights", "most", "[I", true)
  | 4 => ("FringeBench$Heights", "joints", "I", false)
  | 5 => ("FringeBench$Heights", "from", "[I", true)
  | 6 => ("FringeBench$Heights", "to", "[I", true)
  | 7 => ("FringeBench$Heights", "jump", "[I", true)
  | 8 => ("FringeBench$Heights", "limit", "[I", true)
  | 9 => ("FringeBench$Heights", "flow", "[I", true)
  | 10 => ("FringeBench$Heights", "surplus", "[I", true)
  | 11 => ("FringeBench$Heights", "way", "[I", true)
  | _ => ("FringeBench$Heights", "by", "[I", true)
def tyX0 : Nat → FieldType := fun k => match k with
  | 0 => .object "FringeBench$Scene"
  | 1 => .int
  | 2 => .array .int
  | 3 => .array .int
  | 4 => .int
  | 5 => .array .int
  | 6 => .array .int
  | 7 => .array .int
  | 8 => .array .int
  | 9 => .array .int
  | 10 => .array .int
  | 11 => .array .int
  | _ => .array .int
abbrev wsX00 : List Cond := u_ws RX0 TX0 13
theorem nmX0 : ∀ a, a < 13 → ∀ b, b < 13 → a ≠ b → (TX0 a).2.1 ≠ (TX0 b).2.1 := by decide +kernel
theorem tyX0_ok : ∀ k, k < 13 → parseFieldDescriptor (TX0 k).2.2.1 = some (tyX0 k) := by decide +kernel
abbrev cX0_init : ByteArray := prog_2_method_1_code
def yX0_init : MethodName := ⟨RX0, "<init>", "()V"⟩
abbrev cX0_solve : ByteArray := prog_2_method_2_code
def yX0_solve : MethodName := ⟨RX0, "solve", "()V"⟩
abbrev cX0_findCost : ByteArray := prog_2_method_3_code
def yX0_findCost : MethodName := ⟨RX0, "findCost", "()I"⟩
abbrev cX0_join : ByteArray := prog_2_method_4_code
def yX0_join : MethodName := ⟨RX0, "join", "()V"⟩
abbrev cX0_addJoint : ByteArray := prog_2_method_5_code
def yX0_addJoint : MethodName := ⟨RX0, "addJoint", "(II)V"⟩
abbrev cX0_startFlow : ByteArray := prog_2_method_6_code
def yX0_startFlow : MethodName := ⟨RX0, "startFlow", "()V"⟩
abbrev cX0_moveSurplus : ByteArray := prog_2_method_7_code
def yX0_moveSurplus : MethodName := ⟨RX0, "moveSurplus", "()Z"⟩
abbrev cX0_spread : ByteArray := prog_2_method_8_code
def yX0_spread : MethodName := ⟨RX0, "spread", "(Z)V"⟩
abbrev cX0_push : ByteArray := prog_2_method_9_code
def yX0_push : MethodName := ⟨RX0, "push", "(I)Z"⟩
abbrev cX0_findTurns : ByteArray := prog_2_method_10_code
def yX0_findTurns : MethodName := ⟨RX0, "findTurns", "(Z)V"⟩
abbrev cX0_heightOf : ByteArray := prog_2_method_11_code
def yX0_heightOf : MethodName := ⟨RX0, "heightOf", "(I)I"⟩
abbrev cX0_mirroredSum : ByteArray := prog_2_method_12_code
def yX0_mirroredSum : MethodName := ⟨RX0, "mirroredSum", "(II)I"⟩
abbrev cX0_leapOf : ByteArray := prog_2_method_13_code
def yX0_leapOf : MethodName := ⟨RX0, "leapOf", "(II)I"⟩
abbrev cX0_countLeaps : ByteArray := prog_2_method_14_code
def yX0_countLeaps : MethodName := ⟨RX0, "countLeaps", "()I"⟩
abbrev cX0_countWrong : ByteArray := prog_2_method_15_code
def yX0_countWrong : MethodName := ⟨RX0, "countWrong", "()I"⟩
abbrev cX0_countSure : ByteArray := prog_2_method_16_code
def yX0_countSure : MethodName := ⟨RX0, "countSure", "()I"⟩
abbrev cX0_countAbove : ByteArray := prog_2_method_17_code
def yX0_countAbove : MethodName := ⟨RX0, "countAbove", "(I)I"⟩
abbrev cX0_countFringes : ByteArray := prog_2_method_18_code
def yX0_countFringes : MethodName := ⟨RX0, "countFringes", "(I)I"⟩
abbrev cX0_roughest : ByteArray := prog_2_method_19_code
def yX0_roughest : MethodName := ⟨RX0, "roughest", "()I"⟩
abbrev cX0_lowestOf : ByteArray := prog_2_method_20_code
def yX0_lowestOf : MethodName := ⟨RX0, "lowestOf", "(I)I"⟩
abbrev cX0_highestOf : ByteArray := prog_2_method_21_code
def yX0_highestOf : MethodName := ⟨RX0, "highestOf", "(I)I"⟩
abbrev cX0_greatestHigh : ByteArray := prog_2_method_22_code
def yX0_greatestHigh : MethodName := ⟨RX0, "greatestHigh", "()I"⟩
def RX1 : String := "FringeBench$Pairing"
def TX1 : u_T := fun k => match k with
  | 0 => ("FringeBench$Pairing", "few", "I", false)
  | 1 => ("FringeBench$Pairing", "fewX", "[I", true)
  | 2 => ("FringeBench$Pairing", "fewY", "[I", true)
  | 3 => ("FringeBench$Pairing", "fewEdge", "[I", true)
  | 4 => ("FringeBench$Pairing", "many", "I", false)
  | 5 => ("FringeBench$Pairing", "manyX", "[I", true)
  | 6 => ("FringeBench$Pairing", "manyY", "[I", true)
  | 7 => ("FringeBench$Pairing", "manyEdge", "[I", true)
  | _ => ("FringeBench$Pairing", "least", "[I", true)
def tyX1 : Nat → FieldType := fun k => match k with
  | 0 => .int
  | 1 => .array .int
  | 2 => .array .int
  | 3 => .array .int
  | 4 => .int
  | 5 => .array .int
  | 6 => .array .int
  | 7 => .array .int
  | _ => .array .int
abbrev wsX10 : List Cond := u_ws RX1 TX1 9
theorem nmX1 : ∀ a, a < 9 → ∀ b, b < 9 → a ≠ b → (TX1 a).2.1 ≠ (TX1 b).2.1 := by decide +kernel
theorem tyX1_ok : ∀ k, k < 9 → parseFieldDescriptor (TX1 k).2.2.1 = some (tyX1 k) := by decide +kernel
abbrev cX1_init : ByteArray := prog_3_method_1_code
def yX1_init : MethodName := ⟨RX1, "<init>", "()V"⟩
abbrev cX1_leastOf : ByteArray := prog_3_method_2_code
def yX1_leastOf : MethodName := ⟨RX1, "leastOf", "(LFringeBench$Scene;)I"⟩
abbrev cX1_gather : ByteArray := prog_3_method_3_code
def yX1_gather : MethodName := ⟨RX1, "gather", "(LFringeBench$Scene;I[I[I[I)I"⟩
abbrev cX1_pairOne : ByteArray := prog_3_method_4_code
def yX1_pairOne : MethodName := ⟨RX1, "pairOne", "(I)V"⟩
abbrev cX1_edgesOutside : ByteArray := prog_3_method_5_code
def yX1_edgesOutside : MethodName := ⟨RX1, "edgesOutside", "(I)I"⟩
def RX2 : String := "FringeBench$Picture"
def TX2 : u_T := fun k => match k with
  | 0 => ("FringeBench$Picture", "columns", "I", false)
  | 1 => ("FringeBench$Picture", "rows", "I", false)
  | 2 => ("FringeBench$Picture", "least", "I", false)
  | 3 => ("FringeBench$Picture", "steps", "[I", true)
  | 4 => ("FringeBench$Picture", "weights", "[I", true)
  | 5 => ("FringeBench$Picture", "phases", "[I", true)
  | _ => ("FringeBench$Picture", "holes", "[Z", true)
def tyX2 : Nat → FieldType := fun k => match k with
  | 0 => .int
  | 1 => .int
  | 2 => .int
  | 3 => .array .int
  | 4 => .array .int
  | 5 => .array .int
  | _ => .array .boolean
abbrev wsX20 : List Cond := u_ws RX2 TX2 7
theorem nmX2 : ∀ a, a < 7 → ∀ b, b < 7 → a ≠ b → (TX2 a).2.1 ≠ (TX2 b).2.1 := by decide +kernel
theorem tyX2_ok : ∀ k, k < 7 → parseFieldDescriptor (TX2 k).2.2.1 = some (tyX2 k) := by decide +kernel
abbrev cX2_init : ByteArray := prog_4_method_1_code
def yX2_init : MethodName := ⟨RX2, "<init>", "()V"⟩
abbrev cX2_clear : ByteArray := prog_4_method_2_code
def yX2_clear : MethodName := ⟨RX2, "clear", "()V"⟩
abbrev cX2_copy : ByteArray := prog_4_method_3_code
def yX2_copy : MethodName := ⟨RX2, "copy", "(LFringeBench$Picture;)V"⟩
abbrev cX2_size : ByteArray := prog_4_method_4_code
def yX2_size : MethodName := ⟨RX2, "size", "()I"⟩
abbrev cX2_less : ByteArray := prog_4_method_5_code
def yX2_less : MethodName := ⟨RX2, "less", "(III)I"⟩
abbrev cX2_contrastOf : ByteArray := prog_4_method_6_code
def yX2_contrastOf : MethodName := ⟨RX2, "contrastOf", "(I)I"⟩
abbrev cX2_phaseOf : ByteArray := prog_4_method_7_code
def yX2_phaseOf : MethodName := ⟨RX2, "phaseOf", "(II)I"⟩
def RX3 : String := "FringeBench$Plane"
def TX3 : u_T := fun k => match k with
  | 0 => ("FringeBench$Plane", "n", "J", false)
  | 1 => ("FringeBench$Plane", "x", "J", false)
  | 2 => ("FringeBench$Plane", "y", "J", false)
  | 3 => ("FringeBench$Plane", "xx", "J", false)
  | 4 => ("FringeBench$Plane", "xy", "J", false)
  | 5 => ("FringeBench$Plane", "yy", "J", false)
  | 6 => ("FringeBench$Plane", "z", "J", false)
  | 7 => ("FringeBench$Plane", "xz", "J", false)
  | 8 => ("FringeBench$Plane", "yz", "J", false)
  | _ => ("FringeBench$Plane", "zz", "J", false)
def tyX3 : Nat → FieldType := fun k => match k with
  | 0 => .long
  | 1 => .long
  | 2 => .long
  | 3 => .long
  | 4 => .long
  | 5 => .long
  | 6 => .long
  | 7 => .long
  | 8 => .long
  | _ => .long
abbrev wsX30 : List Cond := u_ws RX3 TX3 10
theorem nmX3 : ∀ a, a < 10 → ∀ b, b < 10 → a ≠ b → (TX3 a).2.1 ≠ (TX3 b).2.1 := by decide +kernel
theorem tyX3_ok : ∀ k, k < 10 → parseFieldDescriptor (TX3 k).2.2.1 = some (tyX3 k) := by decide +kernel
abbrev cX3_init : ByteArray := prog_5_method_1_code
def yX3_init : MethodName := ⟨RX3, "<init>", "()V"⟩
abbrev cX3_fit : ByteArray := prog_5_method_2_code
def yX3_fit : MethodName := ⟨RX3, "fit", "(LFringeBench$Heights;I)V"⟩
abbrev cX3_clear : ByteArray := prog_5_method_3_code
def yX3_clear : MethodName := ⟨RX3, "clear", "()V"⟩
abbrev cX3_add : ByteArray := prog_5_method_4_code
def yX3_add : MethodName := ⟨RX3, "add", "(JJJ)V"⟩
abbrev cX3_answer : ByteArray := prog_5_method_5_code
def yX3_answer : MethodName := ⟨RX3, "answer", "(I)J"⟩
def RX4 : String := "FringeBench$Reader"
def TX4 : u_T := fun k => match k with
  | 0 => ("FringeBench$Reader", "tape", "[B", true)
  | 1 => ("FringeBench$Reader", "length", "I", false)
  | 2 => ("FringeBench$Reader", "token", "I", false)
  | 3 => ("FringeBench$Reader", "start", "I", false)
  | 4 => ("FringeBench$Reader", "stop", "I", false)
  | 5 => ("FringeBench$Reader", "number", "I", false)
  | 6 => ("FringeBench$Reader", "which", "I", false)
  | 7 => ("FringeBench$Reader", "first", "I", false)
  | 8 => ("FringeBench$Reader", "mentioned", "[Z", true)
  | 9 => ("FringeBench$Reader", "told", "LFringeBench$Picture;", true)
  | 10 => ("FringeBench$Reader", "trial", "LFringeBench$Trial;", true)
  | 11 => ("FringeBench$Reader", "fault", "I", false)
  | _ => ("FringeBench$Reader", "place", "I", false)
def tyX4 : Nat → FieldType := fun k => match k with
  | 0 => .array .byte
  | 1 => .int
  | 2 => .int
  | 3 => .int
  | 4 => .int
  | 5 => .int
  | 6 => .int
  | 7 => .int
  | 8 => .array .boolean
  | 9 => .object "FringeBench$Picture"
  | 10 => .object "FringeBench$Trial"
  | 11 => .int
  | _ => .int
abbrev wsX40 : List Cond := u_ws RX4 TX4 13
theorem nmX4 : ∀ a, a < 13 → ∀ b, b < 13 → a ≠ b → (TX4 a).2.1 ≠ (TX4 b).2.1 := by decide +kernel
theorem tyX4_ok : ∀ k, k < 13 → parseFieldDescriptor (TX4 k).2.2.1 = some (tyX4 k) := by decide +kernel
abbrev cX4_init : ByteArray := prog_6_method_1_code
def yX4_init : MethodName := ⟨RX4, "<init>", "([B)V"⟩
abbrev cX4_read : ByteArray := prog_6_method_2_code
def yX4_read : MethodName := ⟨RX4, "read", "(II)V"⟩
abbrev cX4_mentionsMissing : ByteArray := prog_6_method_3_code
def yX4_mentionsMissing : MethodName := ⟨RX4, "mentionsMissing", "()Z"⟩
abbrev cX4_readLine : ByteArray := prog_6_method_4_code
def yX4_readLine : MethodName := ⟨RX4, "readLine", "(I)Z"⟩
abbrev cX4_refuse : ByteArray := prog_6_method_5_code
def yX4_refuse : MethodName := ⟨RX4, "refuse", "()Z"⟩
abbrev cX4_mark : ByteArray := prog_6_method_6_code
def yX4_mark : MethodName := ⟨RX4, "mark", "(I)V"⟩
abbrev cX4_next : ByteArray := prog_6_method_7_code
def yX4_next : MethodName := ⟨RX4, "next", "()V"⟩
abbrev cX4_readDigits : ByteArray := prog_6_method_8_code
def yX4_readDigits : MethodName := ⟨RX4, "readDigits", "()V"⟩
abbrev cX4_isLetter : ByteArray := prog_6_method_9_code
def yX4_isLetter : MethodName := ⟨RX4, "isLetter", "(B)Z"⟩
abbrev cX4_isDigit : ByteArray := prog_6_method_10_code
def yX4_isDigit : MethodName := ⟨RX4, "isDigit", "(B)Z"⟩
abbrev cX4_lineOf : ByteArray := prog_6_method_11_code
def yX4_lineOf : MethodName := ⟨RX4, "lineOf", "(I)I"⟩
abbrev cX4_isToken : ByteArray := prog_6_method_12_code
def yX4_isToken : MethodName := ⟨RX4, "isToken", "(Ljava/lang/String;)Z"⟩
abbrev cX4_pictureWord : ByteArray := prog_6_method_13_code
def yX4_pictureWord : MethodName := ⟨RX4, "pictureWord", "(I)Ljava/lang/String;"⟩
abbrev cX4_testWord : ByteArray := prog_6_method_14_code
def yX4_testWord : MethodName := ⟨RX4, "testWord", "(I)Ljava/lang/String;"⟩
abbrev cX4_fewestNumbers : ByteArray := prog_6_method_15_code
def yX4_fewestNumbers : MethodName := ⟨RX4, "fewestNumbers", "(II)I"⟩
abbrev cX4_mostNumbers : ByteArray := prog_6_method_16_code
def yX4_mostNumbers : MethodName := ⟨RX4, "mostNumbers", "(II)I"⟩
abbrev cX4_openLimit : ByteArray := prog_6_method_17_code
def yX4_openLimit : MethodName := ⟨RX4, "openLimit", "(I)V"⟩
abbrev cX4_takeNumber : ByteArray := prog_6_method_18_code
def yX4_takeNumber : MethodName := ⟨RX4, "takeNumber", "(III)V"⟩
abbrev cX4_isFrom : ByteArray := prog_6_method_19_code
def yX4_isFrom : MethodName := ⟨RX4, "isFrom", "(II)Z"⟩
abbrev cX4_takeSize : ByteArray := prog_6_method_20_code
def yX4_takeSize : MethodName := ⟨RX4, "takeSize", "(I)V"⟩
abbrev cX4_takePixel : ByteArray := prog_6_method_21_code
def yX4_takePixel : MethodName := ⟨RX4, "takePixel", "()Z"⟩
abbrev cX4_pixelBehind : ByteArray := prog_6_method_22_code
def yX4_pixelBehind : MethodName := ⟨RX4, "pixelBehind", "(I)I"⟩
abbrev cX4_takeStep : ByteArray := prog_6_method_23_code
def yX4_takeStep : MethodName := ⟨RX4, "takeStep", "(I)V"⟩
abbrev cX4_takePhase : ByteArray := prog_6_method_24_code
def yX4_takePhase : MethodName := ⟨RX4, "takePhase", "(I)V"⟩
abbrev cX4_takeWeight : ByteArray := prog_6_method_25_code
def yX4_takeWeight : MethodName := ⟨RX4, "takeWeight", "(I)V"⟩
def RX5 : String := "FringeBench$Scene"
def TX5 : u_T := fun k => match k with
  | 0 => ("FringeBench$Scene", "columns", "I", false)
  | 1 => ("FringeBench$Scene", "rows", "I", false)
  | 2 => ("FringeBench$Scene", "size", "I", false)
  | 3 => ("FringeBench$Scene", "there", "[Z", true)
  | 4 => ("FringeBench$Scene", "phases", "[I", true)
  | 5 => ("FringeBench$Scene", "weights", "[I", true)
  | 6 => ("FringeBench$Scene", "parts", "I", false)
  | 7 => ("FringeBench$Scene", "partOf", "[I", true)
  | 8 => ("FringeBench$Scene", "walked", "[I", true)
  | 9 => ("FringeBench$Scene", "isWalked", "[Z", true)
  | _ => ("FringeBench$Scene", "isNear", "[Z", true)
def tyX5 : Nat → FieldType := fun k => match k with
  | 0 => .int
  | 1 => .int
  | 2 => .int
  | 3 => .array .boolean
  | 4 => .array .int
  | 5 => .array .int
  | 6 => .int
  | 7 => .array .int
  | 8 => .array .int
  | 9 => .array .boolean
  | _ => .array .boolean
abbrev wsX50 : List Cond := u_ws RX5 TX5 11
theorem nmX5 : ∀ a, a < 11 → ∀ b, b < 11 → a ≠ b → (TX5 a).2.1 ≠ (TX5 b).2.1 := by decide +kernel
theorem tyX5_ok : ∀ k, k < 11 → parseFieldDescriptor (TX5 k).2.2.1 = some (tyX5 k) := by decide +kernel
abbrev cX5_init : ByteArray := prog_7_method_1_code
def yX5_init : MethodName := ⟨RX5, "<init>", "()V"⟩
abbrev cX5_take : ByteArray := prog_7_method_2_code
def yX5_take : MethodName := ⟨RX5, "take", "(LFringeBench$Picture;I)V"⟩
abbrev cX5_beside : ByteArray := prog_7_method_3_code
def yX5_beside : MethodName := ⟨RX5, "beside", "(II)I"⟩
abbrev cX5_areBeside : ByteArray := prog_7_method_4_code
def yX5_areBeside : MethodName := ⟨RX5, "areBeside", "(II)Z"⟩
abbrev cX5_difference : ByteArray := prog_7_method_5_code
def yX5_difference : MethodName := ⟨RX5, "difference", "(II)I"⟩
abbrev cX5_countThere : ByteArray := prog_7_method_6_code
def yX5_countThere : MethodName := ⟨RX5, "countThere", "()I"⟩
abbrev cX5_sumOfPhases : ByteArray := prog_7_method_7_code
def yX5_sumOfPhases : MethodName := ⟨RX5, "sumOfPhases", "()I"⟩
abbrev cX5_walk : ByteArray := prog_7_method_8_code
def yX5_walk : MethodName := ⟨RX5, "walk", "()V"⟩
abbrev cX5_nextToWalk : ByteArray := prog_7_method_9_code
def yX5_nextToWalk : MethodName := ⟨RX5, "nextToWalk", "()I"⟩
abbrev cX5_leastWalkedBeside : ByteArray := prog_7_method_10_code
def yX5_leastWalkedBeside : MethodName := ⟨RX5, "leastWalkedBeside", "(I)I"⟩
abbrev cX5_markNear : ByteArray := prog_7_method_11_code
def yX5_markNear : MethodName := ⟨RX5, "markNear", "(I)V"⟩
abbrev cX5_sizeOf : ByteArray := prog_7_method_12_code
def yX5_sizeOf : MethodName := ⟨RX5, "sizeOf", "(I)I"⟩
abbrev cX5_leastPixelOf : ByteArray := prog_7_method_13_code
def yX5_leastPixelOf : MethodName := ⟨RX5, "leastPixelOf", "(I)I"⟩
abbrev cX5_hasMirrored : ByteArray := prog_7_method_14_code
def yX5_hasMirrored : MethodName := ⟨RX5, "hasMirrored", "(II)Z"⟩
abbrev cX5_hasFrame : ByteArray := prog_7_method_15_code
def yX5_hasFrame : MethodName := ⟨RX5, "hasFrame", "(IIII)Z"⟩
abbrev cX5_around : ByteArray := prog_7_method_16_code
def yX5_around : MethodName := ⟨RX5, "around", "(IIII)I"⟩
abbrev cX5_stepAround : ByteArray := prog_7_method_17_code
def yX5_stepAround : MethodName := ⟨RX5, "stepAround", "(III)I"⟩
abbrev cX5_countFours : ByteArray := prog_7_method_18_code
def yX5_countFours : MethodName := ⟨RX5, "countFours", "(I)I"⟩
abbrev cX5_raise : ByteArray := prog_7_method_19_code
def yX5_raise : MethodName := ⟨RX5, "raise", "(I)Z"⟩
abbrev cX5_draw : ByteArray := prog_7_method_20_code
def yX5_draw : MethodName := ⟨RX5, "draw", "(II)V"⟩
abbrev cX5_pixelThere : ByteArray := prog_7_method_21_code
def yX5_pixelThere : MethodName := ⟨RX5, "pixelThere", "(I)I"⟩
def RX6 : String := "FringeBench$Stitching"
def TX6 : u_T := fun k => match k with
  | 0 => ("FringeBench$Stitching", "common", "I", false)
  | 1 => ("FringeBench$Stitching", "sum", "I", false)
  | 2 => ("FringeBench$Stitching", "least", "I", false)
  | _ => ("FringeBench$Stitching", "greatest", "I", false)
def tyX6 : Nat → FieldType := fun k => match k with
  | 0 => .int
  | 1 => .int
  | 2 => .int
  | _ => .int
abbrev wsX60 : List Cond := u_ws RX6 TX6 4
theorem nmX6 : ∀ a, a < 4 → ∀ b, b < 4 → a ≠ b → (TX6 a).2.1 ≠ (TX6 b).2.1 := by decide +kernel
theorem tyX6_ok : ∀ k, k < 4 → parseFieldDescriptor (TX6 k).2.2.1 = some (tyX6 k) := by decide +kernel
abbrev cX6_init : ByteArray := prog_8_method_1_code
def yX6_init : MethodName := ⟨RX6, "<init>", "()V"⟩
abbrev cX6_lay : ByteArray := prog_8_method_2_code
def yX6_lay : MethodName := ⟨RX6, "lay", "(LFringeBench$Heights;LFringeBench$Heights;II)V"⟩
abbrev cX6_meet : ByteArray := prog_8_method_3_code
def yX6_meet : MethodName := ⟨RX6, "meet", "(LFringeBench$Heights;ILFringeBench$Heights;I)V"⟩
abbrev cX6_apart : ByteArray := prog_8_method_4_code
def yX6_apart : MethodName := ⟨RX6, "apart", "()I"⟩
def RX7 : String := "FringeBench$Told"
def TX7 : u_T := fun k => match k with
  | 0 => ("FringeBench$Told", "tape", "[B", true)
  | 1 => ("FringeBench$Told", "length", "I", false)
  | 2 => ("FringeBench$Told", "pictures", "[LFringeBench$Picture;", true)
  | 3 => ("FringeBench$Told", "pictureCount", "I", false)
  | 4 => ("FringeBench$Told", "trials", "[LFringeBench$Trial;", true)
  | 5 => ("FringeBench$Told", "trialCount", "I", false)
  | 6 => ("FringeBench$Told", "fault", "I", false)
  | _ => ("FringeBench$Told", "place", "I", false)
def tyX7 : Nat → FieldType := fun k => match k with
  | 0 => .array .byte
  | 1 => .int
  | 2 => .array (.object "FringeBench$Picture")
  | 3 => .int
  | 4 => .array (.object "FringeBench$Trial")
  | 5 => .int
  | 6 => .int
  | _ => .int
abbrev wsX70 : List Cond := u_ws RX7 TX7 8
theorem nmX7 : ∀ a, a < 8 → ∀ b, b < 8 → a ≠ b → (TX7 a).2.1 ≠ (TX7 b).2.1 := by decide +kernel
theorem tyX7_ok : ∀ k, k < 8 → parseFieldDescriptor (TX7 k).2.2.1 = some (tyX7 k) := by decide +kernel
abbrev cX7_init : ByteArray := prog_9_method_1_code
def yX7_init : MethodName := ⟨RX7, "<init>", "()V"⟩
abbrev cX7_copy : ByteArray := prog_9_method_2_code
def yX7_copy : MethodName := ⟨RX7, "copy", "(LFringeBench$Told;)V"⟩
abbrev cX7_append : ByteArray := prog_9_method_3_code
def yX7_append : MethodName := ⟨RX7, "append", "(I)V"⟩
def RX8 : String := "FringeBench$Trial"
def TX8 : u_T := fun k => match k with
  | 0 => ("FringeBench$Trial", "limits", "I", false)
  | 1 => ("FringeBench$Trial", "kinds", "[I", true)
  | _ => ("FringeBench$Trial", "numbers", "[I", true)
def tyX8 : Nat → FieldType := fun k => match k with
  | 0 => .int
  | 1 => .array .int
  | _ => .array .int
abbrev wsX80 : List Cond := u_ws RX8 TX8 3
theorem nmX8 : ∀ a, a < 3 → ∀ b, b < 3 → a ≠ b → (TX8 a).2.1 ≠ (TX8 b).2.1 := by decide +kernel
theorem tyX8_ok : ∀ k, k < 3 → parseFieldDescriptor (TX8 k).2.2.1 = some (tyX8 k) := by decide +kernel
abbrev cX8_init : ByteArray := prog_10_method_1_code
def yX8_init : MethodName := ⟨RX8, "<init>", "()V"⟩
abbrev cX8_copy : ByteArray := prog_10_method_2_code
def yX8_copy : MethodName := ⟨RX8, "copy", "(LFringeBench$Trial;)V"⟩
def RX9 : String := "FringeBench"
def TX9 : u_T := fun k => match k with
  | 0 => ("FringeBench", "now", "LFringeBench$Told;", true)
  | 1 => ("FringeBench", "images", "[LFringeBench$Told;", true)
  | 2 => ("FringeBench", "imaged", "[Z", true)
  | 3 => ("FringeBench", "reader", "LFringeBench$Reader;", true)
  | 4 => ("FringeBench", "found", "[LFringeBench$Heights;", true)
  | 5 => ("FringeBench", "isFound", "[Z", true)
  | 6 => ("FringeBench", "supposed", "LFringeBench$Heights;", true)
  | 7 => ("FringeBench", "pairing", "LFringeBench$Pairing;", true)
  | 8 => ("FringeBench", "fitted", "LFringeBench$Plane;", true)
  | _ => ("FringeBench", "stitching", "LFringeBench$Stitching;", true)
def tyX9 : Nat → FieldType := fun k => match k with
  | 0 => .object "FringeBench$Told"
  | 1 => .array (.object "FringeBench$Told")
  | 2 => .array .boolean
  | 3 => .object "FringeBench$Reader"
  | 4 => .array (.object "FringeBench$Heights")
  | 5 => .array .boolean
  | 6 => .object "FringeBench$Heights"
  | 7 => .object "FringeBench$Pairing"
  | 8 => .object "FringeBench$Plane"
  | _ => .object "FringeBench$Stitching"
abbrev wsX90 : List Cond := u_ws RX9 TX9 10
theorem nmX9 : ∀ a, a < 10 → ∀ b, b < 10 → a ≠ b → (TX9 a).2.1 ≠ (TX9 b).2.1 := by decide +kernel
theorem tyX9_ok : ∀ k, k < 10 → parseFieldDescriptor (TX9 k).2.2.1 = some (tyX9 k) := by decide +kernel
abbrev cX9_init : ByteArray := prog_1_method_1_code
def yX9_init : MethodName := ⟨RX9, "<init>", "()V"⟩
abbrev cX9_feed : ByteArray := prog_1_method_2_code
def yX9_feed : MethodName := ⟨RX9, "feed", "(IIIII)I"⟩
abbrev cX9_end : ByteArray := prog_1_method_3_code
def yX9_end : MethodName := ⟨RX9, "end", "(I)I"⟩
abbrev cX9_text : ByteArray := prog_1_method_4_code
def yX9_text : MethodName := ⟨RX9, "text", "(II)I"⟩
abbrev cX9_placeOf : ByteArray := prog_1_method_5_code
def yX9_placeOf : MethodName := ⟨RX9, "placeOf", "(II)I"⟩
abbrev cX9_fault : ByteArray := prog_1_method_6_code
def yX9_fault : MethodName := ⟨RX9, "fault", "(I)I"⟩
abbrev cX9_count : ByteArray := prog_1_method_7_code
def yX9_count : MethodName := ⟨RX9, "count", "(I)I"⟩
abbrev cX9_image : ByteArray := prog_1_method_8_code
def yX9_image : MethodName := ⟨RX9, "image", "(I)Z"⟩
abbrev cX9_again : ByteArray := prog_1_method_9_code
def yX9_again : MethodName := ⟨RX9, "again", "(I)Z"⟩
abbrev cX9_wipe : ByteArray := prog_1_method_10_code
def yX9_wipe : MethodName := ⟨RX9, "wipe", "([Z)V"⟩
abbrev cX9_isPicture : ByteArray := prog_1_method_11_code
def yX9_isPicture : MethodName := ⟨RX9, "isPicture", "(I)Z"⟩
abbrev cX9_isPixel : ByteArray := prog_1_method_12_code
def yX9_isPixel : MethodName := ⟨RX9, "isPixel", "(II)Z"⟩
abbrev cX9_isThere : ByteArray := prog_1_method_13_code
def yX9_isThere : MethodName := ⟨RX9, "isThere", "(II)Z"⟩
abbrev cX9_isPart : ByteArray := prog_1_method_14_code
def yX9_isPart : MethodName := ⟨RX9, "isPart", "(II)Z"⟩
abbrev cX9_isTest : ByteArray := prog_1_method_15_code
def yX9_isTest : MethodName := ⟨RX9, "isTest", "(I)Z"⟩
abbrev cX9_heightsOf : ByteArray := prog_1_method_16_code
def yX9_heightsOf : MethodName := ⟨RX9, "heightsOf", "(I)LFringeBench$Heights;"⟩
abbrev cX9_supposedOf : ByteArray := prog_1_method_17_code
def yX9_supposedOf : MethodName := ⟨RX9, "supposedOf", "(I)LFringeBench$Heights;"⟩
abbrev cX9_picture : ByteArray := prog_1_method_18_code
def yX9_picture : MethodName := ⟨RX9, "picture", "(II)I"⟩
abbrev cX9_mendOf : ByteArray := prog_1_method_19_code
def yX9_mendOf : MethodName := ⟨RX9, "mendOf", "(ILFringeBench$Heights;)I"⟩
abbrev cX9_costWithout : ByteArray := prog_1_method_20_code
def yX9_costWithout : MethodName := ⟨RX9, "costWithout", "(II)I"⟩
abbrev cX9_pixel : ByteArray := prog_1_method_21_code
def yX9_pixel : MethodName := ⟨RX9, "pixel", "(III)I"⟩
abbrev cX9_height : ByteArray := prog_1_method_22_code
def yX9_height : MethodName := ⟨RX9, "height", "(III)I"⟩
abbrev cX9_differ : ByteArray := prog_1_method_23_code
def yX9_differ : MethodName := ⟨RX9, "differ", "(IIIZ)I"⟩
abbrev cX9_four : ByteArray := prog_1_method_24_code
def yX9_four : MethodName := ⟨RX9, "four", "(III)I"⟩
abbrev cX9_round : ByteArray := prog_1_method_25_code
def yX9_round : MethodName := ⟨RX9, "round", "(IIIII)I"⟩
abbrev cX9_paired : ByteArray := prog_1_method_26_code
def yX9_paired : MethodName := ⟨RX9, "paired", "(I)I"⟩
abbrev cX9_above : ByteArray := prog_1_method_27_code
def yX9_above : MethodName := ⟨RX9, "above", "(II)I"⟩
abbrev cX9_fringes : ByteArray := prog_1_method_28_code
def yX9_fringes : MethodName := ⟨RX9, "fringes", "(II)I"⟩
abbrev cX9_part : ByteArray := prog_1_method_29_code
def yX9_part : MethodName := ⟨RX9, "part", "(III)I"⟩
abbrev cX9_plane : ByteArray := prog_1_method_30_code
def yX9_plane : MethodName := ⟨RX9, "plane", "(III)J"⟩
abbrev cX9_out : ByteArray := prog_1_method_31_code
def yX9_out : MethodName := ⟨RX9, "out", "(IIZ)I"⟩
abbrev cX9_countMoved : ByteArray := prog_1_method_32_code
def yX9_countMoved : MethodName := ⟨RX9, "countMoved", "(LFringeBench$Heights;LFringeBench$Heights;)I"⟩
abbrev cX9_heavy : ByteArray := prog_1_method_33_code
def yX9_heavy : MethodName := ⟨RX9, "heavy", "(III)I"⟩
abbrev cX9_drawn : ByteArray := prog_1_method_34_code
def yX9_drawn : MethodName := ⟨RX9, "drawn", "(IIII)I"⟩
abbrev cX9_tough : ByteArray := prog_1_method_35_code
def yX9_tough : MethodName := ⟨RX9, "tough", "(II)I"⟩
abbrev cX9_dim : ByteArray := prog_1_method_36_code
def yX9_dim : MethodName := ⟨RX9, "dim", "(III)I"⟩
abbrev cX9_solid : ByteArray := prog_1_method_37_code
def yX9_solid : MethodName := ⟨RX9, "solid", "(II)I"⟩
abbrev cX9_stitch : ByteArray := prog_1_method_38_code
def yX9_stitch : MethodName := ⟨RX9, "stitch", "(IIIII)I"⟩
abbrev cX9_best : ByteArray := prog_1_method_39_code
def yX9_best : MethodName := ⟨RX9, "best", "(IIZ)I"⟩
abbrev cX9_flat : ByteArray := prog_1_method_40_code
def yX9_flat : MethodName := ⟨RX9, "flat", "(IIIIII)I"⟩
abbrev cX9_test : ByteArray := prog_1_method_41_code
def yX9_test : MethodName := ⟨RX9, "test", "(III)I"⟩
abbrev cX9_fails : ByteArray := prog_1_method_42_code
def yX9_fails : MethodName := ⟨RX9, "fails", "(IIZ)I"⟩
abbrev cX9_named : ByteArray := prog_1_method_43_code
def yX9_named : MethodName := ⟨RX9, "named", "(LFringeBench$Heights;I)I"⟩
def RX10 : String := "FringeBenchModel"
def TX10 : u_T := fun k => match k with
  | 0 => ("FringeBenchModel", "code", "I", false)
  | 1 => ("FringeBenchModel", "tape", "[B", true)
  | 2 => ("FringeBenchModel", "size", "[I", true)
  | 3 => ("FringeBenchModel", "fault", "[I", true)
  | 4 => ("FringeBenchModel", "faultPlace", "[I", true)
  | 5 => ("FringeBenchModel", "many", "[I", true)
  | 6 => ("FringeBenchModel", "pictures", "[I", true)
  | 7 => ("FringeBenchModel", "tests", "[I", true)
  | 8 => ("FringeBenchModel", "reached", "I", false)
  | 9 => ("FringeBenchModel", "length", "I", false)
  | 10 => ("FringeBenchModel", "begins", "I", false)
  | 11 => ("FringeBenchModel", "sort", "I", false)
  | 12 => ("FringeBenchModel", "value", "I", false)
  | 13 => ("FringeBenchModel", "word", "J", false)
  | 14 => ("FringeBenchModel", "wrongAt", "I", false)
  | 15 => ("FringeBenchModel", "laterFault", "I", false)
  | 16 => ("FringeBenchModel", "laterPlace", "I", false)
  | 17 => ("FringeBenchModel", "row", "[I", true)
  | 18 => ("FringeBenchModel", "read", "I", false)
  | 19 => ("FringeBenchModel", "greatest", "I", false)
  | 20 => ("FringeBenchModel", "wide", "I", false)
  | 21 => ("FringeBenchModel", "high", "I", false)
  | 22 => ("FringeBenchModel", "least", "I", false)
  | 23 => ("FringeBenchModel", "pixels", "I", false)
  | 24 => ("FringeBenchModel", "steps", "[I", true)
  | 25 => ("FringeBenchModel", "weight", "[I", true)
  | 26 => ("FringeBenchModel", "told", "[I", true)
  | 27 => ("FringeBenchModel", "hole", "[Z", true)
  | 28 => ("FringeBenchModel", "phase", "[I", true)
  | 29 => ("FringeBenchModel", "there", "[Z", true)
  | 30 => ("FringeBenchModel", "inAll", "I", false)
  | 31 => ("FringeBenchModel", "partOf", "[I", true)
  | 32 => ("FringeBenchModel", "parts", "I", false)
  | 33 => ("FringeBenchModel", "couples", "I", false)
  | 34 => ("FringeBenchModel", "one", "[I", true)
  | 35 => ("FringeBenchModel", "two", "[I", true)
  | 36 => ("FringeBenchModel", "offBy", "[I", true)
  | 37 => ("FringeBenchModel", "heavy", "[I", true)
  | 38 => ("FringeBenchModel", "turns", "[I", true)
  | 39 => ("FringeBenchModel", "mostTurns", "[I", true)
  | 40 => ("FringeBenchModel", "cost", "I", false)
  | 41 => ("FringeBenchModel", "room", "[I", true)
  | 42 => ("FringeBenchModel", "from", "[I", true)
  | 43 => ("FringeBenchModel", "line", "[I", true)
  | 44 => ("FringeBenchModel", "some", "Z", false)
  | 45 => ("FringeBenchModel", "before", "[I", true)
  | 46 => ("FringeBenchModel", "walked", "[I", true)
  | 47 => ("FringeBenchModel", "done", "[Z", true)
  | 48 => ("FringeBenchModel", "sums", "[J", true)
  | 49 => ("FringeBenchModel", "oldHeight", "[I", true)
  | 50 => ("FringeBenchModel", "otherWide", "I", false)
  | 51 => ("FringeBenchModel", "otherHigh", "I", false)
  | 52 => ("FringeBenchModel", "otherThere", "[Z", true)
  | 53 => ("FringeBenchModel", "otherHeight", "[I", true)
  | 54 => ("FringeBenchModel", "common", "I", false)
  | 55 => ("FringeBenchModel", "commonSum", "I", false)
  | 56 => ("FringeBenchModel", "commonApart", "I", false)
  | 57 => ("FringeBenchModel", "seed", "I", false)
  | 58 => ("FringeBenchModel", "few", "I", false)
  | 59 => ("FringeBenchModel", "fewAt", "[I", true)
  | 60 => ("FringeBenchModel", "paid", "[I", true)
  | 61 => ("FringeBenchModel", "oldOff", "[I", true)
  | _ => ("FringeBenchModel", "kept", "[Z", true)
def tyX10 : Nat → FieldType := fun k => match k with
  | 0 => .int
  | 1 => .array .byte
  | 2 => .array .int
  | 3 => .array .int
  | 4 => .array .int
  | 5 => .array .int
  | 6 => .array .int
  | 7 => .array .int
  | 8 => .int
  | 9 => .int
  | 10 => .int
  | 11 => .int
  | 12 => .int
  | 13 => .long
  | 14 => .int
  | 15 => .int
  | 16 => .int
  | 17 => .array .int
  | 18 => .int
  | 19 => .int
  | 20 => .int
  | 21 => .int
  | 22 => .int
  | 23 => .int
  | 24 => .array .int
  | 25 => .array .int
  | 26 => .array .int
  | 27 => .array .boolean
  | 28 => .array .int
  | 29 => .array .boolean
  | 30 => .int
  | 31 => .array .int
  | 32 => .int
  | 33 => .int
  | 34 => .array .int
  | 35 => .array .int
  | 36 => .array .int
  | 37 => .array .int
  | 38 => .array .int
  | 39 => .array .int
  | 40 => .int
  | 41 => .array .int
  | 42 => .array .int
  | 43 => .array .int
  | 44 => .boolean
  | 45 => .array .int
  | 46 => .array .int
  | 47 => .array .boolean
  | 48 => .array .long
  | 49 => .array .int
  | 50 => .int
  | 51 => .int
  | 52 => .array .boolean
  | 53 => .array .int
  | 54 => .int
  | 55 => .int
  | 56 => .int
  | 57 => .int
  | 58 => .int
  | 59 => .array .int
  | 60 => .array .int
  | 61 => .array .int
  | _ => .array .boolean
abbrev wsX100 : List Cond := u_ws RX10 TX10 63
theorem nmX10 : ∀ a, a < 63 → ∀ b, b < 63 → a ≠ b → (TX10 a).2.1 ≠ (TX10 b).2.1 := by decide +kernel
theorem tyX10_ok : ∀ k, k < 63 → parseFieldDescriptor (TX10 k).2.2.1 = some (tyX10 k) := by decide +kernel
abbrev cX10_init : ByteArray := prog_12_method_1_code
def yX10_init : MethodName := ⟨RX10, "<init>", "()V"⟩
abbrev cX10_in : ByteArray := prog_12_method_3_code
def yX10_in : MethodName := ⟨RX10, "in", "(III)Z"⟩
abbrev cX10_plain : ByteArray := prog_12_method_4_code
def yX10_plain : MethodName := ⟨RX10, "plain", "(I)I"⟩
abbrev cX10_lesser : ByteArray := prog_12_method_5_code
def yX10_lesser : MethodName := ⟨RX10, "lesser", "(II)I"⟩
abbrev cX10_copyRow : ByteArray := prog_12_method_6_code
def yX10_copyRow : MethodName := ⟨RX10, "copyRow", "([IIII)V"⟩
abbrev cX10_copyAll : ByteArray := prog_12_method_7_code
def yX10_copyAll : MethodName := ⟨RX10, "copyAll", "(II)V"⟩
abbrev cX10_isPicture : ByteArray := prog_12_method_8_code
def yX10_isPicture : MethodName := ⟨RX10, "isPicture", "(I)Z"⟩
abbrev cX10_isTest : ByteArray := prog_12_method_9_code
def yX10_isTest : MethodName := ⟨RX10, "isTest", "(I)Z"⟩
abbrev cX10_feed : ByteArray := prog_12_method_10_code
def yX10_feed : MethodName := ⟨RX10, "feed", "(IIIII)I"⟩
abbrev cX10_fourBytes : ByteArray := prog_12_method_11_code
def yX10_fourBytes : MethodName := ⟨RX10, "fourBytes", "(I)V"⟩
abbrev cX10_end : ByteArray := prog_12_method_12_code
def yX10_end : MethodName := ⟨RX10, "end", "(I)I"⟩
abbrev cX10_see : ByteArray := prog_12_method_13_code
def yX10_see : MethodName := ⟨RX10, "see", "()I"⟩
abbrev cX10_token : ByteArray := prog_12_method_14_code
def yX10_token : MethodName := ⟨RX10, "token", "()V"⟩
abbrev cX10_stops : ByteArray := prog_12_method_15_code
def yX10_stops : MethodName := ⟨RX10, "stops", "()Z"⟩
abbrev cX10_later : ByteArray := prog_12_method_16_code
def yX10_later : MethodName := ⟨RX10, "later", "(II)V"⟩
abbrev cX10_take : ByteArray := prog_12_method_17_code
def yX10_take : MethodName := ⟨RX10, "take", "(II)Z"⟩
abbrev cX10_into : ByteArray := prog_12_method_18_code
def yX10_into : MethodName := ⟨RX10, "into", "(III)Z"⟩
abbrev cX10_pixelNumber : ByteArray := prog_12_method_19_code
def yX10_pixelNumber : MethodName := ⟨RX10, "pixelNumber", "()Z"⟩
abbrev cX10_numbers : ByteArray := prog_12_method_20_code
def yX10_numbers : MethodName := ⟨RX10, "numbers", "(II)Z"⟩
abbrev cX10_pictureLine : ByteArray := prog_12_method_21_code
def yX10_pictureLine : MethodName := ⟨RX10, "pictureLine", "(J)Z"⟩
abbrev cX10_testLine : ByteArray := prog_12_method_22_code
def yX10_testLine : MethodName := ⟨RX10, "testLine", "(JI)Z"⟩
abbrev cX10_clear : ByteArray := prog_12_method_23_code
def yX10_clear : MethodName := ⟨RX10, "clear", "(I)V"⟩
abbrev cX10_readText : ByteArray := prog_12_method_24_code
def yX10_readText : MethodName := ⟨RX10, "readText", "(I)Z"⟩
abbrev cX10_text : ByteArray := prog_12_method_25_code
def yX10_text : MethodName := ⟨RX10, "text", "(II)I"⟩
abbrev cX10_fault : ByteArray := prog_12_method_26_code
def yX10_fault : MethodName := ⟨RX10, "fault", "(I)I"⟩
abbrev cX10_hand : ByteArray := prog_12_method_27_code
def yX10_hand : MethodName := ⟨RX10, "hand", "(I)Z"⟩
abbrev cX10_contrast : ByteArray := prog_12_method_28_code
def yX10_contrast : MethodName := ⟨RX10, "contrast", "(I)I"⟩
abbrev cX10_phaseBySteps : ByteArray := prog_12_method_29_code
def yX10_phaseBySteps : MethodName := ⟨RX10, "phaseBySteps", "(I)I"⟩
abbrev cX10_findPhases : ByteArray := prog_12_method_30_code
def yX10_findPhases : MethodName := ⟨RX10, "findPhases", "()V"⟩
abbrev cX10_areBeside : ByteArray := prog_12_method_31_code
def yX10_areBeside : MethodName := ⟨RX10, "areBeside", "(II)Z"⟩
abbrev cX10_difference : ByteArray := prog_12_method_32_code
def yX10_difference : MethodName := ⟨RX10, "difference", "(II)I"⟩
abbrev cX10_fourAt : ByteArray := prog_12_method_33_code
def yX10_fourAt : MethodName := ⟨RX10, "fourAt", "(II)I"⟩
abbrev cX10_foursThat : ByteArray := prog_12_method_34_code
def yX10_foursThat : MethodName := ⟨RX10, "foursThat", "(I)I"⟩
abbrev cX10_findParts : ByteArray := prog_12_method_35_code
def yX10_findParts : MethodName := ⟨RX10, "findParts", "(I)V"⟩
abbrev cX10_rootOf : ByteArray := prog_12_method_36_code
def yX10_rootOf : MethodName := ⟨RX10, "rootOf", "(I)I"⟩
abbrev cX10_findCouples : ByteArray := prog_12_method_37_code
def yX10_findCouples : MethodName := ⟨RX10, "findCouples", "()V"⟩
abbrev cX10_leap : ByteArray := prog_12_method_38_code
def yX10_leap : MethodName := ⟨RX10, "leap", "(I)I"⟩
abbrev cX10_costNow : ByteArray := prog_12_method_39_code
def yX10_costNow : MethodName := ⟨RX10, "costNow", "()I"⟩
abbrev cX10_addRoom : ByteArray := prog_12_method_40_code
def yX10_addRoom : MethodName := ⟨RX10, "addRoom", "(III)V"⟩
abbrev cX10_charge : ByteArray := prog_12_method_41_code
def yX10_charge : MethodName := ⟨RX10, "charge", "(II)V"⟩
abbrev cX10_layNet : ByteArray := prog_12_method_42_code
def yX10_layNet : MethodName := ⟨RX10, "layNet", "(I)V"⟩
abbrev cX10_flood : ByteArray := prog_12_method_43_code
def yX10_flood : MethodName := ⟨RX10, "flood", "()V"⟩
abbrev cX10_fill : ByteArray := prog_12_method_44_code
def yX10_fill : MethodName := ⟨RX10, "fill", "()V"⟩
abbrev cX10_goes : ByteArray := prog_12_method_45_code
def yX10_goes : MethodName := ⟨RX10, "goes", "(I)Z"⟩
abbrev cX10_findTurns : ByteArray := prog_12_method_46_code
def yX10_findTurns : MethodName := ⟨RX10, "findTurns", "()V"⟩
abbrev cX10_goesIfLess : ByteArray := prog_12_method_47_code
def yX10_goesIfLess : MethodName := ⟨RX10, "goesIfLess", "(I)V"⟩
abbrev cX10_heightOf : ByteArray := prog_12_method_48_code
def yX10_heightOf : MethodName := ⟨RX10, "heightOf", "(I)I"⟩
abbrev cX10_walk : ByteArray := prog_12_method_49_code
def yX10_walk : MethodName := ⟨RX10, "walk", "()V"⟩
abbrev cX10_nextToWalk : ByteArray := prog_12_method_50_code
def yX10_nextToWalk : MethodName := ⟨RX10, "nextToWalk", "(I)I"⟩
abbrev cX10_wrong : ByteArray := prog_12_method_51_code
def yX10_wrong : MethodName := ⟨RX10, "wrong", "()I"⟩
abbrev cX10_lay : ByteArray := prog_12_method_52_code
def yX10_lay : MethodName := ⟨RX10, "lay", "(I)Z"⟩
abbrev cX10_leapsThere : ByteArray := prog_12_method_53_code
def yX10_leapsThere : MethodName := ⟨RX10, "leapsThere", "()I"⟩
abbrev cX10_sure : ByteArray := prog_12_method_54_code
def yX10_sure : MethodName := ⟨RX10, "sure", "()I"⟩
abbrev cX10_rough : ByteArray := prog_12_method_55_code
def yX10_rough : MethodName := ⟨RX10, "rough", "()I"⟩
abbrev cX10_costOut : ByteArray := prog_12_method_56_code
def yX10_costOut : MethodName := ⟨RX10, "costOut", "(I)I"⟩
abbrev cX10_mend : ByteArray := prog_12_method_57_code
def yX10_mend : MethodName := ⟨RX10, "mend", "(I)I"⟩
abbrev cX10_picture : ByteArray := prog_12_method_58_code
def yX10_picture : MethodName := ⟨RX10, "picture", "(II)I"⟩
abbrev cX10_pixel : ByteArray := prog_12_method_59_code
def yX10_pixel : MethodName := ⟨RX10, "pixel", "(III)I"⟩
abbrev cX10_isThere : ByteArray := prog_12_method_60_code
def yX10_isThere : MethodName := ⟨RX10, "isThere", "(I)Z"⟩
abbrev cX10_height : ByteArray := prog_12_method_61_code
def yX10_height : MethodName := ⟨RX10, "height", "(III)I"⟩
abbrev cX10_differ : ByteArray := prog_12_method_62_code
def yX10_differ : MethodName := ⟨RX10, "differ", "(IIIZ)I"⟩
abbrev cX10_four : ByteArray := prog_12_method_63_code
def yX10_four : MethodName := ⟨RX10, "four", "(III)I"⟩
abbrev cX10_lowest : ByteArray := prog_12_method_64_code
def yX10_lowest : MethodName := ⟨RX10, "lowest", "(I)I"⟩
abbrev cX10_highest : ByteArray := prog_12_method_65_code
def yX10_highest : MethodName := ⟨RX10, "highest", "(I)I"⟩
abbrev cX10_sizeOf : ByteArray := prog_12_method_66_code
def yX10_sizeOf : MethodName := ⟨RX10, "sizeOf", "(I)I"⟩
abbrev cX10_part : ByteArray := prog_12_method_67_code
def yX10_part : MethodName := ⟨RX10, "part", "(III)I"⟩
abbrev cX10_findSums : ByteArray := prog_12_method_68_code
def yX10_findSums : MethodName := ⟨RX10, "findSums", "(I)V"⟩
abbrev cX10_volume : ByteArray := prog_12_method_69_code
def yX10_volume : MethodName := ⟨RX10, "volume", "(JJJJJJJJJ)J"⟩
abbrev cX10_plane : ByteArray := prog_12_method_70_code
def yX10_plane : MethodName := ⟨RX10, "plane", "(III)J"⟩
abbrev cX10_out : ByteArray := prog_12_method_71_code
def yX10_out : MethodName := ⟨RX10, "out", "(IIZ)I"⟩
abbrev cX10_heavy : ByteArray := prog_12_method_72_code
def yX10_heavy : MethodName := ⟨RX10, "heavy", "(III)I"⟩
abbrev cX10_aside : ByteArray := prog_12_method_73_code
def yX10_aside : MethodName := ⟨RX10, "aside", "(I)Z"⟩
abbrev cX10_stitchBy : ByteArray := prog_12_method_74_code
def yX10_stitchBy : MethodName := ⟨RX10, "stitchBy", "(II)V"⟩
abbrev cX10_stitch : ByteArray := prog_12_method_75_code
def yX10_stitch : MethodName := ⟨RX10, "stitch", "(IIIII)I"⟩
abbrev cX10_best : ByteArray := prog_12_method_76_code
def yX10_best : MethodName := ⟨RX10, "best", "(IIZ)I"⟩
abbrev cX10_sumOf : ByteArray := prog_12_method_77_code
def yX10_sumOf : MethodName := ⟨RX10, "sumOf", "(III)I"⟩
abbrev cX10_wideOf : ByteArray := prog_12_method_78_code
def yX10_wideOf : MethodName := ⟨RX10, "wideOf", "(I)I"⟩
abbrev cX10_flat : ByteArray := prog_12_method_79_code
def yX10_flat : MethodName := ⟨RX10, "flat", "(IIIIII)I"⟩
abbrev cX10_draw : ByteArray := prog_12_method_80_code
def yX10_draw : MethodName := ⟨RX10, "draw", "(I)I"⟩
abbrev cX10_thereAt : ByteArray := prog_12_method_81_code
def yX10_thereAt : MethodName := ⟨RX10, "thereAt", "(I)I"⟩
abbrev cX10_more : ByteArray := prog_12_method_82_code
def yX10_more : MethodName := ⟨RX10, "more", "(II)V"⟩
abbrev cX10_foursOff : ByteArray := prog_12_method_83_code
def yX10_foursOff : MethodName := ⟨RX10, "foursOff", "()I"⟩
abbrev cX10_drawn : ByteArray := prog_12_method_84_code
def yX10_drawn : MethodName := ⟨RX10, "drawn", "(IIII)I"⟩
abbrev cX10_test : ByteArray := prog_12_method_85_code
def yX10_test : MethodName := ⟨RX10, "test", "(III)I"⟩
abbrev cX10_greatestHigh : ByteArray := prog_12_method_86_code
def yX10_greatestHigh : MethodName := ⟨RX10, "greatestHigh", "()I"⟩
abbrev cX10_named : ByteArray := prog_12_method_87_code
def yX10_named : MethodName := ⟨RX10, "named", "(I)I"⟩
abbrev cX10_fails : ByteArray := prog_12_method_88_code
def yX10_fails : MethodName := ⟨RX10, "fails", "(IIZ)I"⟩
abbrev cX10_round : ByteArray := prog_12_method_89_code
def yX10_round : MethodName := ⟨RX10, "round", "(IIIII)I"⟩
abbrev cX10_edgeOf : ByteArray := prog_12_method_90_code
def yX10_edgeOf : MethodName := ⟨RX10, "edgeOf", "(I)I"⟩
abbrev cX10_apartOf : ByteArray := prog_12_method_91_code
def yX10_apartOf : MethodName := ⟨RX10, "apartOf", "(II)I"⟩
abbrev cX10_paired : ByteArray := prog_12_method_92_code
def yX10_paired : MethodName := ⟨RX10, "paired", "(I)I"⟩
abbrev cX10_payFor : ByteArray := prog_12_method_93_code
def yX10_payFor : MethodName := ⟨RX10, "payFor", "(I)V"⟩
abbrev cX10_above : ByteArray := prog_12_method_94_code
def yX10_above : MethodName := ⟨RX10, "above", "(II)I"⟩
abbrev cX10_floorOf : ByteArray := prog_12_method_95_code
def yX10_floorOf : MethodName := ⟨RX10, "floorOf", "(II)I"⟩
abbrev cX10_fringes : ByteArray := prog_12_method_96_code
def yX10_fringes : MethodName := ⟨RX10, "fringes", "(II)I"⟩
abbrev cX10_tough : ByteArray := prog_12_method_97_code
def yX10_tough : MethodName := ⟨RX10, "tough", "(II)I"⟩
abbrev cX10_dim : ByteArray := prog_12_method_98_code
def yX10_dim : MethodName := ⟨RX10, "dim", "(III)I"⟩
abbrev cX10_solid : ByteArray := prog_12_method_99_code
def yX10_solid : MethodName := ⟨RX10, "solid", "(II)I"⟩
abbrev cX10_count : ByteArray := prog_12_method_100_code
def yX10_count : MethodName := ⟨RX10, "count", "(I)I"⟩
abbrev cX10_image : ByteArray := prog_12_method_101_code
def yX10_image : MethodName := ⟨RX10, "image", "(I)Z"⟩
abbrev cX10_again : ByteArray := prog_12_method_102_code
def yX10_again : MethodName := ⟨RX10, "again", "(I)Z"⟩
def RJ9 : String := "java/lang/Math"
abbrev cJ9_floorDiv_7cf53 : ByteArray := prog_13_method_47_code
def yJ9_floorDiv_7cf53 : MethodName := ⟨RJ9, "floorDiv", "(II)I"⟩
abbrev cJ9_abs_0f7a4 : ByteArray := prog_13_method_59_code
def yJ9_abs_0f7a4 : MethodName := ⟨RJ9, "abs", "(I)I"⟩
abbrev cJ9_max_7cf53 : ByteArray := prog_13_method_65_code
def yJ9_max_7cf53 : MethodName := ⟨RJ9, "max", "(II)I"⟩
abbrev cJ9_min_7cf53 : ByteArray := prog_13_method_69_code
def yJ9_min_7cf53 : MethodName := ⟨RJ9, "min", "(II)I"⟩
def RJ0 : String := "java/lang/String"
abbrev cJ0_length_8abf5 : ByteArray := prog_14_method_54_code
def yJ0_length_8abf5 : MethodName := ⟨RJ0, "length", "()I"⟩
abbrev cJ0_charAt_5068e : ByteArray := prog_14_method_56_code
def yJ0_charAt_5068e : MethodName := ⟨RJ0, "charAt", "(I)C"⟩
abbrev cJ0_coder_7d493 : ByteArray := prog_14_method_152_code
def yJ0_coder_7d493 : MethodName := ⟨RJ0, "coder", "()B"⟩
abbrev cJ0_isLatin1_aae02 : ByteArray := prog_14_method_154_code
def yJ0_isLatin1_aae02 : MethodName := ⟨RJ0, "isLatin1", "()Z"⟩
abbrev cJ0_checkIndex_df160 : ByteArray := prog_14_method_155_code
def yJ0_checkIndex_df160 : MethodName := ⟨RJ0, "checkIndex", "(II)V"⟩
def RJ1 : String := "java/lang/StringLatin1"
abbrev cJ1_charAt_3b067 : ByteArray := prog_15_method_2_code
def yJ1_charAt_3b067 : MethodName := ⟨RJ1, "charAt", "([BI)C"⟩
def RJ2 : String := "java/lang/StringUTF16"
abbrev cJ2_getChar_3b067 : ByteArray := prog_16_method_5_code
def yJ2_getChar_3b067 : MethodName := ⟨RJ2, "getChar", "([BI)C"⟩
abbrev cJ2_length_9d52b : ByteArray := prog_16_method_6_code
def yJ2_length_9d52b : MethodName := ⟨RJ2, "length", "([B)I"⟩
abbrev cJ2_charAt_3b067 : ByteArray := prog_16_method_83_code
def yJ2_charAt_3b067 : MethodName := ⟨RJ2, "charAt", "([BI)C"⟩
abbrev cJ2_checkIndex_2214a : ByteArray := prog_16_method_91_code
def yJ2_checkIndex_2214a : MethodName := ⟨RJ2, "checkIndex", "(I[B)V"⟩
def RJ10 : String := "java/lang/System"
def RJ7 : String := "java/util/Arrays"
abbrev cJ7_fill_53178 : ByteArray := prog_18_method_103_code
def yJ7_fill_53178 : MethodName := ⟨RJ7, "fill", "([II)V"⟩
def RJ3 : String := "jdk/internal/util/Preconditions"
abbrev cJ3_checkIndex_8e157 : ByteArray := prog_19_method_11_code
def yJ3_checkIndex_8e157 : MethodName := ⟨RJ3, "checkIndex", "(IILjava/util/function/BiFunction;)I"⟩
def RL : String := "FringeBenchLaw"
abbrev vwCl : List vw_C := [(RX0, TX0, 13), (RX1, TX1, 9), (RX2, TX2, 7), (RX3, TX3, 10), (RX4, TX4, 13), (RX5, TX5, 11), (RX6, TX6, 4), (RX7, TX7, 8), (RX8, TX8, 3), (RX9, TX9, 10), (RX10, TX10, 63)]

/-- the words that last, of all that the tables give -/
def zGw : List Cond := lw_tbl.filter goodWord
theorem lw_ct1 {w : Cond} (i : Nat) (g : goodWord w = true) (h : tables_1_1[i]? = some w) : w ∈ zGw := List.mem_filter.mpr ⟨by have h := List.mem_of_getElem? h; exact List.mem_append_right _ (List.mem_append_left _ h), g⟩
theorem lw_ct2 {w : Cond} (i : Nat) (g : goodWord w = true) (h : tables_1_2[i]? = some w) : w ∈ zGw := List.mem_filter.mpr ⟨by have h := List.mem_of_getElem? h; exact List.mem_append_right _ (List.mem_append_right _ (List.mem_append_left _ h)), g⟩
theorem lw_ct3 {w : Cond} (i : Nat) (g : goodWord w = true) (h : tables_1_3[i]? = some w) : w ∈ zGw := List.mem_filter.mpr ⟨by have h := List.mem_of_getElem? h; exact List.mem_append_right _ (List.mem_append_right _ (List.mem_append_right _ (List.mem_append_left _ h))), g⟩
theorem lw_ct4 {w : Cond} (i : Nat) (g : goodWord w = true) (h : tables_1_4[i]? = some w) : w ∈ zGw := List.mem_filter.mpr ⟨by have h := List.mem_of_getElem? h; exact List.mem_append_right _ (List.mem_append_right _ (List.mem_append_right _ (List.mem_append_right _ (List.mem_append_left _ h)))), g⟩
theorem lw_ct5 {w : Cond} (i : Nat) (g : goodWord w = true) (h : tables_1_5[i]? = some w) : w ∈ zGw := List.mem_filter.mpr ⟨by have h := List.mem_of_getElem? h; exact List.mem_append_right _ (List.mem_append_right _ (List.mem_append_right _ (List.mem_append_right _ (List.mem_append_right _ (List.mem_append_left _ h))))), g⟩
theorem lw_ct6 {w : Cond} (i : Nat) (g : goodWord w = true) (h : tables_1_6[i]? = some w) : w ∈ zGw := List.mem_filter.mpr ⟨by have h := List.mem_of_getElem? h; exact List.mem_append_right _ (List.mem_append_right _ (List.mem_append_right _ (List.mem_append_right _ (List.mem_append_right _ (List.mem_append_right _ (List.mem_append_left _ h)))))), g⟩
theorem lw_ct7 {w : Cond} (i : Nat) (g : goodWord w = true) (h : tables_1_7[i]? = some w) : w ∈ zGw := List.mem_filter.mpr ⟨by have h := List.mem_of_getElem? h; exact List.mem_append_right _ (List.mem_append_right _ (List.mem_append_right _ (List.mem_append_right _ (List.mem_append_right _ (List.mem_append_right _ (List.mem_append_right _ (h))))))), g⟩
theorem lw_cp1 {q : MethodName × Nat} (i : Nat) (g : goodWord (Cond.selects q.1.cls q.1 q.1) = true) (h : lw_privs_1[i]? = some q) : Cond.selects q.1.cls q.1 q.1 ∈ zGw := List.mem_filter.mpr ⟨by have h := List.mem_of_getElem? h; exact List.mem_append_left _ (List.mem_map.mpr ⟨q, List.mem_append_left _ h, rfl⟩), g⟩
theorem lw_cp2 {q : MethodName × Nat} (i : Nat) (g : goodWord (Cond.selects q.1.cls q.1 q.1) = true) (h : lw_privs_2[i]? = some q) : Cond.selects q.1.cls q.1 q.1 ∈ zGw := List.mem_filter.mpr ⟨by have h := List.mem_of_getElem? h; exact List.mem_append_left _ (List.mem_map.mpr ⟨q, List.mem_append_right _ (List.mem_append_left _ h), rfl⟩), g⟩
theorem lw_cp3 {q : MethodName × Nat} (i : Nat) (g : goodWord (Cond.selects q.1.cls q.1 q.1) = true) (h : lw_privs_3[i]? = some q) : Cond.selects q.1.cls q.1 q.1 ∈ zGw := List.mem_filter.mpr ⟨by have h := List.mem_of_getElem? h; exact List.mem_append_left _ (List.mem_map.mpr ⟨q, List.mem_append_right _ (List.mem_append_right _ (List.mem_append_left _ h)), rfl⟩), g⟩
theorem lw_cp4 {q : MethodName × Nat} (i : Nat) (g : goodWord (Cond.selects q.1.cls q.1 q.1) = true) (h : lw_privs_4[i]? = some q) : Cond.selects q.1.cls q.1 q.1 ∈ zGw := List.mem_filter.mpr ⟨by have h := List.mem_of_getElem? h; exact List.mem_append_left _ (List.mem_map.mpr ⟨q, List.mem_append_right _ (List.mem_append_right _ (List.mem_append_right _ (List.mem_append_left _ h))), rfl⟩), g⟩
theorem lw_cp5 {q : MethodName × Nat} (i : Nat) (g : goodWord (Cond.selects q.1.cls q.1 q.1) = true) (h : lw_privs_5[i]? = some q) : Cond.selects q.1.cls q.1 q.1 ∈ zGw := List.mem_filter.mpr ⟨by have h := List.mem_of_getElem? h; exact List.mem_append_left _ (List.mem_map.mpr ⟨q, List.mem_append_right _ (List.mem_append_right _ (List.mem_append_right _ (List.mem_append_right _ (List.mem_append_left _ h)))), rfl⟩), g⟩
theorem lw_cp6 {q : MethodName × Nat} (i : Nat) (g : goodWord (Cond.selects q.1.cls q.1 q.1) = true) (h : lw_privs_6[i]? = some q) : Cond.selects q.1.cls q.1 q.1 ∈ zGw := List.mem_filter.mpr ⟨by have h := List.mem_of_getElem? h; exact List.mem_append_left _ (List.mem_map.mpr ⟨q, List.mem_append_right _ (List.mem_append_right _ (List.mem_append_right _ (List.mem_append_right _ (List.mem_append_right _ (List.mem_append_left _ h))))), rfl⟩), g⟩
theorem lw_cp7 {q : MethodName × Nat} (i : Nat) (g : goodWord (Cond.selects q.1.cls q.1 q.1) = true) (h : lw_privs_7[i]? = some q) : Cond.selects q.1.cls q.1 q.1 ∈ zGw := List.mem_filter.mpr ⟨by have h := List.mem_of_getElem? h; exact List.mem_append_left _ (List.mem_map.mpr ⟨q, List.mem_append_right _ (List.mem_append_right _ (List.mem_append_right _ (List.mem_append_right _ (List.mem_append_right _ (List.mem_append_right _ (h)))))), rfl⟩), g⟩
theorem inX0 : ∀ w ∈ u_ws RX0 TX0 13, w ∈ zGw := List.forall_mem_cons.mpr ⟨lw_ct2 53 rfl rfl, List.forall_mem_cons.mpr ⟨lw_ct2 55 rfl rfl, List.forall_mem_cons.mpr ⟨lw_ct2 57 rfl rfl, List.forall_mem_cons.mpr ⟨lw_ct2 59 rfl rfl, List.forall_mem_cons.mpr ⟨lw_ct2 61 rfl rfl, List.forall_mem_cons.mpr ⟨lw_ct2 63 rfl rfl, List.forall_mem_cons.mpr ⟨lw_ct2 65 rfl rfl, List.forall_mem_cons.mpr ⟨lw_ct2 67 rfl rfl, List.forall_mem_cons.mpr ⟨lw_ct2 69 rfl rfl, List.forall_mem_cons.mpr ⟨lw_ct2 71 rfl rfl, List.forall_mem_cons.mpr ⟨lw_ct2 73 rfl rfl, List.forall_mem_cons.mpr ⟨lw_ct2 75 rfl rfl, List.forall_mem_cons.mpr ⟨lw_ct2 77 rfl rfl, fun _ h => absurd h List.not_mem_nil⟩⟩⟩⟩⟩⟩⟩⟩⟩⟩⟩⟩⟩
theorem inX1 : ∀ w ∈ u_ws RX1 TX1 9, w ∈ zGw := List.forall_mem_cons.mpr ⟨lw_ct2 95 rfl rfl, List.forall_mem_cons.mpr ⟨lw_ct2 97 rfl rfl, List.forall_mem_cons.mpr ⟨lw_ct2 99 rfl rfl, List.forall_mem_cons.mpr ⟨lw_ct2 101 rfl rfl, List.forall_mem_cons.mpr ⟨lw_ct2 103 rfl rfl, List.forall_mem_cons.mpr ⟨lw_ct2 105 rfl rfl, List.forall_mem_cons.mpr ⟨lw_ct2 107 rfl rfl, List.forall_mem_cons.mpr ⟨lw_ct2 109 rfl rfl, List.forall_mem_cons.mpr ⟨lw_ct2 111 rfl rfl, fun _ h => absurd h List.not_mem_nil⟩⟩⟩⟩⟩⟩⟩⟩⟩
theorem inX2 : ∀ w ∈ u_ws RX2 TX2 7, w ∈ zGw := List.forall_mem_cons.mpr ⟨lw_ct1 74 rfl rfl, List.forall_mem_cons.mpr ⟨lw_ct1 76 rfl rfl, List.forall_mem_cons.mpr ⟨lw_ct1 78 rfl rfl, List.forall_mem_cons.mpr ⟨lw_ct1 80 rfl rfl, List.forall_mem_cons.mpr ⟨lw_ct1 82 rfl rfl, List.forall_mem_cons.mpr ⟨lw_ct1 84 rfl rfl, List.forall_mem_cons.mpr ⟨lw_ct1 86 rfl rfl, fun _ h => absurd h List.not_mem_nil⟩⟩⟩⟩⟩⟩⟩
theorem inX3 : ∀ w ∈ u_ws RX3 TX3 10, w ∈ zGw := List.forall_mem_cons.mpr ⟨lw_ct2 130 rfl rfl, List.forall_mem_cons.mpr ⟨lw_ct2 132 rfl rfl, List.forall_mem_cons.mpr ⟨lw_ct2 134 rfl rfl, List.forall_mem_cons.mpr ⟨lw_ct2 136 rfl rfl, List.forall_mem_cons.mpr ⟨lw_ct2 138 rfl rfl, List.forall_mem_cons.mpr ⟨lw_ct2 140 rfl rfl, List.forall_mem_cons.mpr ⟨lw_ct2 142 rfl rfl, List.forall_mem_cons.mpr ⟨lw_ct2 144 rfl rfl, List.forall_mem_cons.mpr ⟨lw_ct2 146 rfl rfl, List.forall_mem_cons.mpr ⟨lw_ct2 148 rfl rfl, fun _ h => absurd h List.not_mem_nil⟩⟩⟩⟩⟩⟩⟩⟩⟩⟩
theorem inX4 : ∀ w ∈ u_ws RX4 TX4 13, w ∈ zGw := List.forall_mem_cons.mpr ⟨lw_ct1 176 rfl rfl, List.forall_mem_cons.mpr ⟨lw_ct1 178 rfl rfl, List.forall_mem_cons.mpr ⟨lw_ct1 180 rfl rfl, List.forall_mem_cons.mpr ⟨lw_ct1 182 rfl rfl, List.forall_mem_cons.mpr ⟨lw_ct1 184 rfl rfl, List.forall_mem_cons.mpr ⟨lw_ct1 186 rfl rfl, List.forall_mem_cons.mpr ⟨lw_ct1 188 rfl rfl, List.forall_mem_cons.mpr ⟨lw_ct1 190 rfl rfl, List.forall_mem_cons.mpr ⟨lw_ct1 192 rfl rfl, List.forall_mem_cons.mpr ⟨lw_ct1 194 rfl rfl, List.forall_mem_cons.mpr ⟨lw_ct1 196 rfl rfl, List.forall_mem_cons.mpr ⟨lw_ct1 198 rfl rfl, List.forall_mem_cons.mpr ⟨lw_ct1 200 rfl rfl, fun _ h => absurd h List.not_mem_nil⟩⟩⟩⟩⟩⟩⟩⟩⟩⟩⟩⟩⟩
theorem inX5 : ∀ w ∈ u_ws RX5 TX5 11, w ∈ zGw := List.forall_mem_cons.mpr ⟨lw_ct2 11 rfl rfl, List.forall_mem_cons.mpr ⟨lw_ct2 13 rfl rfl, List.forall_mem_cons.mpr ⟨lw_ct2 15 rfl rfl, List.forall_mem_cons.mpr ⟨lw_ct2 17 rfl rfl, List.forall_mem_cons.mpr ⟨lw_ct2 19 rfl rfl, List.forall_mem_cons.mpr ⟨lw_ct2 21 rfl rfl, List.forall_mem_cons.mpr ⟨lw_ct2 23 rfl rfl, List.forall_mem_cons.mpr ⟨lw_ct2 25 rfl rfl, List.forall_mem_cons.mpr ⟨lw_ct2 27 rfl rfl, List.forall_mem_cons.mpr ⟨lw_ct2 29 rfl rfl, List.forall_mem_cons.mpr ⟨lw_ct2 31 rfl rfl, fun _ h => absurd h List.not_mem_nil⟩⟩⟩⟩⟩⟩⟩⟩⟩⟩⟩
theorem inX6 : ∀ w ∈ u_ws RX6 TX6 4, w ∈ zGw := List.forall_mem_cons.mpr ⟨lw_ct2 163 rfl rfl, List.forall_mem_cons.mpr ⟨lw_ct2 165 rfl rfl, List.forall_mem_cons.mpr ⟨lw_ct2 167 rfl rfl, List.forall_mem_cons.mpr ⟨lw_ct2 169 rfl rfl, fun _ h => absurd h List.not_mem_nil⟩⟩⟩⟩
theorem inX7 : ∀ w ∈ u_ws RX7 TX7 8, w ∈ zGw := List.forall_mem_cons.mpr ⟨lw_ct1 131 rfl rfl, List.forall_mem_cons.mpr ⟨lw_ct1 133 rfl rfl, List.forall_mem_cons.mpr ⟨lw_ct1 135 rfl rfl, List.forall_mem_cons.mpr ⟨lw_ct1 137 rfl rfl, List.forall_mem_cons.mpr ⟨lw_ct1 139 rfl rfl, List.forall_mem_cons.mpr ⟨lw_ct1 141 rfl rfl, List.forall_mem_cons.mpr ⟨lw_ct1 143 rfl rfl, List.forall_mem_cons.mpr ⟨lw_ct1 145 rfl rfl, fun _ h => absurd h List.not_mem_nil⟩⟩⟩⟩⟩⟩⟩⟩
theorem inX8 : ∀ w ∈ u_ws RX8 TX8 3, w ∈ zGw := List.forall_mem_cons.mpr ⟨lw_ct1 108 rfl rfl, List.forall_mem_cons.mpr ⟨lw_ct1 110 rfl rfl, List.forall_mem_cons.mpr ⟨lw_ct1 112 rfl rfl, fun _ h => absurd h List.not_mem_nil⟩⟩⟩
theorem inX9 : ∀ w ∈ u_ws RX9 TX9 10, w ∈ zGw := List.forall_mem_cons.mpr ⟨lw_ct2 182 rfl rfl, List.forall_mem_cons.mpr ⟨lw_ct2 184 rfl rfl, List.forall_mem_cons.mpr ⟨lw_ct2 186 rfl rfl, List.forall_mem_cons.mpr ⟨lw_ct2 188 rfl rfl, List.forall_mem_cons.mpr ⟨lw_ct2 190 rfl rfl, List.forall_mem_cons.mpr ⟨lw_ct2 192 rfl rfl, List.forall_mem_cons.mpr ⟨lw_ct2 194 rfl rfl, List.forall_mem_cons.mpr ⟨lw_ct2 196 rfl rfl, List.forall_mem_cons.mpr ⟨lw_ct2 198 rfl rfl, List.forall_mem_cons.mpr ⟨lw_ct2 200 rfl rfl, fun _ h => absurd h List.not_mem_nil⟩⟩⟩⟩⟩⟩⟩⟩⟩⟩
theorem inX10 : ∀ w ∈ u_ws RX10 TX10 63, w ∈ zGw := List.forall_mem_cons.mpr ⟨lw_ct5 165 rfl rfl, List.forall_mem_cons.mpr ⟨lw_ct5 167 rfl rfl, List.forall_mem_cons.mpr ⟨lw_ct5 169 rfl rfl, List.forall_mem_cons.mpr ⟨lw_ct5 171 rfl rfl, List.forall_mem_cons.mpr ⟨lw_ct5 173 rfl rfl, List.forall_mem_cons.mpr ⟨lw_ct5 175 rfl rfl, List.forall_mem_cons.mpr ⟨lw_ct5 177 rfl rfl, List.forall_mem_cons.mpr ⟨lw_ct5 179 rfl rfl, List.forall_mem_cons.mpr ⟨lw_ct5 181 rfl rfl, List.forall_mem_cons.mpr ⟨lw_ct5 183 rfl rfl, List.forall_mem_cons.mpr ⟨lw_ct5 185 rfl rfl, List.forall_mem_cons.mpr ⟨lw_ct5 187 rfl rfl, List.forall_mem_cons.mpr ⟨lw_ct5 189 rfl rfl, List.forall_mem_cons.mpr ⟨lw_ct5 191 rfl rfl, List.forall_mem_cons.mpr ⟨lw_ct5 193 rfl rfl, List.forall_mem_cons.mpr ⟨lw_ct5 195 rfl rfl, List.forall_mem_cons.mpr ⟨lw_ct5 197 rfl rfl, List.forall_mem_cons.mpr ⟨lw_ct5 199 rfl rfl, List.forall_mem_cons.mpr ⟨lw_ct5 201 rfl rfl, List.forall_mem_cons.mpr ⟨lw_ct5 203 rfl rfl, List.forall_mem_cons.mpr ⟨lw_ct5 205 rfl rfl, List.forall_mem_cons.mpr ⟨lw_ct5 207 rfl rfl, List.forall_mem_cons.mpr ⟨lw_ct5 209 rfl rfl, List.forall_mem_cons.mpr ⟨lw_ct5 211 rfl rfl, List.forall_mem_cons.mpr ⟨lw_ct5 213 rfl rfl, List.forall_mem_cons.mpr ⟨lw_ct5 215 rfl rfl, List.forall_mem_cons.mpr ⟨lw_ct5 217 rfl rfl, List.forall_mem_cons.mpr ⟨lw_ct5 219 rfl rfl, List.forall_mem_cons.mpr ⟨lw_ct5 221 rfl rfl, List.forall_mem_cons.mpr ⟨lw_ct5 223 rfl rfl, List.forall_mem_cons.mpr ⟨lw_ct5 225 rfl rfl, List.forall_mem_cons.mpr ⟨lw_ct5 227 rfl rfl, List.forall_mem_cons.mpr ⟨lw_ct5 229 rfl rfl, List.forall_mem_cons.mpr ⟨lw_ct5 231 rfl rfl, List.forall_mem_cons.mpr ⟨lw_ct5 233 rfl rfl, List.forall_mem_cons.mpr ⟨lw_ct5 235 rfl rfl, List.forall_mem_cons.mpr ⟨lw_ct5 237 rfl rfl, List.forall_mem_cons.mpr ⟨lw_ct5 239 rfl rfl, List.forall_mem_cons.mpr ⟨lw_ct6 1 rfl rfl, List.forall_mem_cons.mpr ⟨lw_ct6 3 rfl rfl, List.forall_mem_cons.mpr ⟨lw_ct6 5 rfl rfl, List.forall_mem_cons.mpr ⟨lw_ct6 7 rfl rfl, List.forall_mem_cons.mpr ⟨lw_ct6 9 rfl rfl, List.forall_mem_cons.mpr ⟨lw_ct6 11 rfl rfl, List.forall_mem_cons.mpr ⟨lw_ct6 13 rfl rfl, List.forall_mem_cons.mpr ⟨lw_ct6 15 rfl rfl, List.forall_mem_cons.mpr ⟨lw_ct6 17 rfl rfl, List.forall_mem_cons.mpr ⟨lw_ct6 19 rfl rfl, List.forall_mem_cons.mpr ⟨lw_ct6 21 rfl rfl, List.forall_mem_cons.mpr ⟨lw_ct6 23 rfl rfl, List.forall_mem_cons.mpr ⟨lw_ct6 25 rfl rfl, List.forall_mem_cons.mpr ⟨lw_ct6 27 rfl rfl, List.forall_mem_cons.mpr ⟨lw_ct6 29 rfl rfl, List.forall_mem_cons.mpr ⟨lw_ct6 31 rfl rfl, List.forall_mem_cons.mpr ⟨lw_ct6 33 rfl rfl, List.forall_mem_cons.mpr ⟨lw_ct6 35 rfl rfl, List.forall_mem_cons.mpr ⟨lw_ct6 37 rfl rfl, List.forall_mem_cons.mpr ⟨lw_ct6 39 rfl rfl, List.forall_mem_cons.mpr ⟨lw_ct6 41 rfl rfl, List.forall_mem_cons.mpr ⟨lw_ct6 43 rfl rfl, List.forall_mem_cons.mpr ⟨lw_ct6 45 rfl rfl, List.forall_mem_cons.mpr ⟨lw_ct6 47 rfl rfl, List.forall_mem_cons.mpr ⟨lw_ct6 49 rfl rfl, fun _ h => absurd h List.not_mem_nil⟩⟩⟩⟩⟩⟩⟩⟩⟩⟩⟩⟩⟩⟩⟩⟩⟩⟩⟩⟩⟩⟩⟩⟩⟩⟩⟩⟩⟩⟩⟩⟩⟩⟩⟩⟩⟩⟩⟩⟩⟩⟩⟩⟩⟩⟩⟩⟩⟩⟩⟩⟩⟩⟩⟩⟩⟩⟩⟩⟩⟩⟩⟩
