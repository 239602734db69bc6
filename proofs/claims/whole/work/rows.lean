section
-- ===== PART A: goes FIRST, ahead of the names: the tables' words, and 'selects' of the private methods out of them =====
/-- a private method of a class that the tables say can be made, by its rows of tables_1 -/
def lw_okq (q : MethodName × Nat) : Prop := (q.1.cls ≠ "java/lang/invoke/MethodHandle" ∧ q.1.cls ≠ "java/lang/invoke/VarHandle") ∧ Cond.instantiable q.1.cls q.2 ∈ tables_1 ∧ Cond.privateMethod q.1 ∈ tables_1 ∧ Cond.instanceMethod q.1 ∈ tables_1
theorem lw_p0 : lw_okq (⟨"LinkAuditor$Reader", "begin", "([CI)V"⟩, 3) := ⟨⟨by decide +kernel, by decide +kernel⟩, List.mem_of_getElem? (i := 24) (by decide +kernel), List.mem_of_getElem? (i := 391) (by decide +kernel), List.mem_of_getElem? (i := 392) (by decide +kernel)⟩
theorem lw_p1 : lw_okq (⟨"LinkAuditor$Reader", "takeLine", "()Z"⟩, 3) := ⟨⟨by decide +kernel, by decide +kernel⟩, List.mem_of_getElem? (i := 24) (by decide +kernel), List.mem_of_getElem? (i := 395) (by decide +kernel), List.mem_of_getElem? (i := 396) (by decide +kernel)⟩
theorem lw_p2 : lw_okq (⟨"LinkAuditor$Reader", "isNext", "(C)Z"⟩, 3) := ⟨⟨by decide +kernel, by decide +kernel⟩, List.mem_of_getElem? (i := 24) (by decide +kernel), List.mem_of_getElem? (i := 399) (by decide +kernel), List.mem_of_getElem? (i := 400) (by decide +kernel)⟩
theorem lw_p3 : lw_okq (⟨"LinkAuditor$Reader", "takeHeading", "()Z"⟩, 3) := ⟨⟨by decide +kernel, by decide +kernel⟩, List.mem_of_getElem? (i := 24) (by decide +kernel), List.mem_of_getElem? (i := 403) (by decide +kernel), List.mem_of_getElem? (i := 404) (by decide +kernel)⟩
theorem lw_p4 : lw_okq (⟨"LinkAuditor$Reader", "take", "(C)Z"⟩, 3) := ⟨⟨by decide +kernel, by decide +kernel⟩, List.mem_of_getElem? (i := 24) (by decide +kernel), List.mem_of_getElem? (i := 407) (by decide +kernel), List.mem_of_getElem? (i := 408) (by decide +kernel)⟩
theorem lw_p5 : lw_okq (⟨"LinkAuditor$Reader", "takeBetween", "(CC)Z"⟩, 3) := ⟨⟨by decide +kernel, by decide +kernel⟩, List.mem_of_getElem? (i := 24) (by decide +kernel), List.mem_of_getElem? (i := 411) (by decide +kernel), List.mem_of_getElem? (i := 412) (by decide +kernel)⟩
theorem lw_p6 : lw_okq (⟨"LinkAuditor$Reader", "takeName", "()Z"⟩, 3) := ⟨⟨by decide +kernel, by decide +kernel⟩, List.mem_of_getElem? (i := 24) (by decide +kernel), List.mem_of_getElem? (i := 415) (by decide +kernel), List.mem_of_getElem? (i := 416) (by decide +kernel)⟩
theorem lw_p7 : lw_okq (⟨"LinkAuditor$Reader", "takeInclude", "()Z"⟩, 3) := ⟨⟨by decide +kernel, by decide +kernel⟩, List.mem_of_getElem? (i := 24) (by decide +kernel), List.mem_of_getElem? (i := 419) (by decide +kernel), List.mem_of_getElem? (i := 420) (by decide +kernel)⟩
theorem lw_p8 : lw_okq (⟨"LinkAuditor$Reader", "takeElement", "()Z"⟩, 3) := ⟨⟨by decide +kernel, by decide +kernel⟩, List.mem_of_getElem? (i := 24) (by decide +kernel), List.mem_of_getElem? (i := 423) (by decide +kernel), List.mem_of_getElem? (i := 424) (by decide +kernel)⟩
theorem lw_p9 : lw_okq (⟨"LinkAuditor$Reader", "takeAnchor", "()Z"⟩, 3) := ⟨⟨by decide +kernel, by decide +kernel⟩, List.mem_of_getElem? (i := 24) (by decide +kernel), List.mem_of_getElem? (i := 427) (by decide +kernel), List.mem_of_getElem? (i := 428) (by decide +kernel)⟩
theorem lw_p10 : lw_okq (⟨"LinkAuditor$Reader", "takePlace", "()Z"⟩, 3) := ⟨⟨by decide +kernel, by decide +kernel⟩, List.mem_of_getElem? (i := 24) (by decide +kernel), List.mem_of_getElem? (i := 435) (by decide +kernel), List.mem_of_getElem? (i := 436) (by decide +kernel)⟩
theorem lw_p11 : lw_okq (⟨"LinkAuditor", "keepState", "()V"⟩, 9) := ⟨⟨by decide +kernel, by decide +kernel⟩, List.mem_of_getElem? (i := 14) (by decide +kernel), List.mem_of_getElem? (i := 446) (by decide +kernel), List.mem_of_getElem? (i := 447) (by decide +kernel)⟩
theorem lw_p12 : lw_okq (⟨"LinkAuditor$State", "dropEntry", "(I)V"⟩, 11) := ⟨⟨by decide +kernel, by decide +kernel⟩, List.mem_of_getElem? (i := 47) (by decide +kernel), List.mem_of_getElem? (i := 470) (by decide +kernel), List.mem_of_getElem? (i := 471) (by decide +kernel)⟩
theorem lw_p13 : lw_okq (⟨"LinkAuditor$Site", "readSource", "(I)V"⟩, 5) := ⟨⟨by decide +kernel, by decide +kernel⟩, List.mem_of_getElem? (i := 41) (by decide +kernel), List.mem_of_getElem? (i := 479) (by decide +kernel), List.mem_of_getElem? (i := 480) (by decide +kernel)⟩
theorem lw_p14 : lw_okq (⟨"LinkAuditor$Outline", "addLine", "([CII)V"⟩, 16) := ⟨⟨by decide +kernel, by decide +kernel⟩, List.mem_of_getElem? (i := 108) (by decide +kernel), List.mem_of_getElem? (i := 490) (by decide +kernel), List.mem_of_getElem? (i := 491) (by decide +kernel)⟩
theorem lw_p15 : lw_okq (⟨"LinkAuditor$Outline", "addHeading", "([CII)V"⟩, 16) := ⟨⟨by decide +kernel, by decide +kernel⟩, List.mem_of_getElem? (i := 108) (by decide +kernel), List.mem_of_getElem? (i := 494) (by decide +kernel), List.mem_of_getElem? (i := 495) (by decide +kernel)⟩
def lw_privs_1 : List (MethodName × Nat) := [(⟨"LinkAuditor$Reader", "begin", "([CI)V"⟩, 3), (⟨"LinkAuditor$Reader", "takeLine", "()Z"⟩, 3), (⟨"LinkAuditor$Reader", "isNext", "(C)Z"⟩, 3), (⟨"LinkAuditor$Reader", "takeHeading", "()Z"⟩, 3), (⟨"LinkAuditor$Reader", "take", "(C)Z"⟩, 3), (⟨"LinkAuditor$Reader", "takeBetween", "(CC)Z"⟩, 3), (⟨"LinkAuditor$Reader", "takeName", "()Z"⟩, 3), (⟨"LinkAuditor$Reader", "takeInclude", "()Z"⟩, 3), (⟨"LinkAuditor$Reader", "takeElement", "()Z"⟩, 3), (⟨"LinkAuditor$Reader", "takeAnchor", "()Z"⟩, 3), (⟨"LinkAuditor$Reader", "takePlace", "()Z"⟩, 3), (⟨"LinkAuditor", "keepState", "()V"⟩, 9), (⟨"LinkAuditor$State", "dropEntry", "(I)V"⟩, 11), (⟨"LinkAuditor$Site", "readSource", "(I)V"⟩, 5), (⟨"LinkAuditor$Outline", "addLine", "([CII)V"⟩, 16), (⟨"LinkAuditor$Outline", "addHeading", "([CII)V"⟩, 16)]
theorem lw_r1 : ∀ q ∈ lw_privs_1, lw_okq q := List.forall_mem_cons.mpr ⟨lw_p0, List.forall_mem_cons.mpr ⟨lw_p1, List.forall_mem_cons.mpr ⟨lw_p2, List.forall_mem_cons.mpr ⟨lw_p3, List.forall_mem_cons.mpr ⟨lw_p4, List.forall_mem_cons.mpr ⟨lw_p5, List.forall_mem_cons.mpr ⟨lw_p6, List.forall_mem_cons.mpr ⟨lw_p7, List.forall_mem_cons.mpr ⟨lw_p8, List.forall_mem_cons.mpr ⟨lw_p9, List.forall_mem_cons.mpr ⟨lw_p10, List.forall_mem_cons.mpr ⟨lw_p11, List.forall_mem_cons.mpr ⟨lw_p12, List.forall_mem_cons.mpr ⟨lw_p13, List.forall_mem_cons.mpr ⟨lw_p14, List.forall_mem_cons.mpr ⟨lw_p15, fun _ h => absurd h List.not_mem_nil⟩⟩⟩⟩⟩⟩⟩⟩⟩⟩⟩⟩⟩⟩⟩⟩
theorem lw_p16 : lw_okq (⟨"LinkAuditor$Outline", "addInclude", "([CII)V"⟩, 16) := ⟨⟨by decide +kernel, by decide +kernel⟩, List.mem_of_getElem? (i := 108) (by decide +kernel), List.mem_of_getElem? (i := 501) (by decide +kernel), List.mem_of_getElem? (i := 502) (by decide +kernel)⟩
theorem lw_p17 : lw_okq (⟨"LinkAuditor$Outline", "growSection", "([CII)V"⟩, 16) := ⟨⟨by decide +kernel, by decide +kernel⟩, List.mem_of_getElem? (i := 108) (by decide +kernel), List.mem_of_getElem? (i := 505) (by decide +kernel), List.mem_of_getElem? (i := 506) (by decide +kernel)⟩
theorem lw_p18 : lw_okq (⟨"LinkAuditor$Outline", "readLinks", "([CII)V"⟩, 16) := ⟨⟨by decide +kernel, by decide +kernel⟩, List.mem_of_getElem? (i := 108) (by decide +kernel), List.mem_of_getElem? (i := 510) (by decide +kernel), List.mem_of_getElem? (i := 511) (by decide +kernel)⟩
theorem lw_p19 : lw_okq (⟨"LinkAuditor$Site", "expandAll", "()V"⟩, 5) := ⟨⟨by decide +kernel, by decide +kernel⟩, List.mem_of_getElem? (i := 41) (by decide +kernel), List.mem_of_getElem? (i := 522) (by decide +kernel), List.mem_of_getElem? (i := 523) (by decide +kernel)⟩
theorem lw_p20 : lw_okq (⟨"LinkAuditor$Expansion", "addPage", "([LLinkAuditor$Outline;III)V"⟩, 10) := ⟨⟨by decide +kernel, by decide +kernel⟩, List.mem_of_getElem? (i := 188) (by decide +kernel), List.mem_of_getElem? (i := 530) (by decide +kernel), List.mem_of_getElem? (i := 531) (by decide +kernel)⟩
theorem lw_p21 : lw_okq (⟨"LinkAuditor$Expansion", "isReplaced", "([LLinkAuditor$Outline;I)Z"⟩, 10) := ⟨⟨by decide +kernel, by decide +kernel⟩, List.mem_of_getElem? (i := 188) (by decide +kernel), List.mem_of_getElem? (i := 534) (by decide +kernel), List.mem_of_getElem? (i := 535) (by decide +kernel)⟩
theorem lw_p22 : lw_okq (⟨"LinkAuditor$Expansion", "addHeading", "(JIII)V"⟩, 10) := ⟨⟨by decide +kernel, by decide +kernel⟩, List.mem_of_getElem? (i := 188) (by decide +kernel), List.mem_of_getElem? (i := 541) (by decide +kernel), List.mem_of_getElem? (i := 542) (by decide +kernel)⟩
theorem lw_p23 : lw_okq (⟨"LinkAuditor$Expansion", "headingsNamed", "(J)I"⟩, 10) := ⟨⟨by decide +kernel, by decide +kernel⟩, List.mem_of_getElem? (i := 188) (by decide +kernel), List.mem_of_getElem? (i := 545) (by decide +kernel), List.mem_of_getElem? (i := 546) (by decide +kernel)⟩
theorem lw_p24 : lw_okq (⟨"LinkAuditor", "isHeading", "(II)Z"⟩, 9) := ⟨⟨by decide +kernel, by decide +kernel⟩, List.mem_of_getElem? (i := 14) (by decide +kernel), List.mem_of_getElem? (i := 578) (by decide +kernel), List.mem_of_getElem? (i := 579) (by decide +kernel)⟩
theorem lw_p25 : lw_okq (⟨"LinkAuditor", "arrowInPad", "()I"⟩, 9) := ⟨⟨by decide +kernel, by decide +kernel⟩, List.mem_of_getElem? (i := 14) (by decide +kernel), List.mem_of_getElem? (i := 617) (by decide +kernel), List.mem_of_getElem? (i := 618) (by decide +kernel)⟩
theorem lw_p26 : lw_okq (⟨"LinkAuditor", "isRedirect", "(I)Z"⟩, 9) := ⟨⟨by decide +kernel, by decide +kernel⟩, List.mem_of_getElem? (i := 14) (by decide +kernel), List.mem_of_getElem? (i := 634) (by decide +kernel), List.mem_of_getElem? (i := 635) (by decide +kernel)⟩
theorem lw_p27 : lw_okq (⟨"LinkAuditor", "usesOf", "(I)I"⟩, 9) := ⟨⟨by decide +kernel, by decide +kernel⟩, List.mem_of_getElem? (i := 14) (by decide +kernel), List.mem_of_getElem? (i := 646) (by decide +kernel), List.mem_of_getElem? (i := 647) (by decide +kernel)⟩
theorem lw_p28 : lw_okq (⟨"LinkAuditor$Route", "wasHere", "()Z"⟩, 9) := ⟨⟨by decide +kernel, by decide +kernel⟩, List.mem_of_getElem? (i := 261) (by decide +kernel), List.mem_of_getElem? (i := 654) (by decide +kernel), List.mem_of_getElem? (i := 655) (by decide +kernel)⟩
theorem lw_p29 : lw_okq (⟨"LinkAuditor$Route", "isGood", "()Z"⟩, 9) := ⟨⟨by decide +kernel, by decide +kernel⟩, List.mem_of_getElem? (i := 261) (by decide +kernel), List.mem_of_getElem? (i := 658) (by decide +kernel), List.mem_of_getElem? (i := 659) (by decide +kernel)⟩
theorem lw_p30 : lw_okq (⟨"LinkAuditor$Route", "goOn", "()Z"⟩, 9) := ⟨⟨by decide +kernel, by decide +kernel⟩, List.mem_of_getElem? (i := 261) (by decide +kernel), List.mem_of_getElem? (i := 667) (by decide +kernel), List.mem_of_getElem? (i := 668) (by decide +kernel)⟩
theorem lw_p31 : lw_okq (⟨"LinkAuditor", "isLink", "(II)Z"⟩, 9) := ⟨⟨by decide +kernel, by decide +kernel⟩, List.mem_of_getElem? (i := 14) (by decide +kernel), List.mem_of_getElem? (i := 680) (by decide +kernel), List.mem_of_getElem? (i := 681) (by decide +kernel)⟩
def lw_privs_2 : List (MethodName × Nat) := [(⟨"LinkAuditor$Outline", "addInclude", "([CII)V"⟩, 16), (⟨"LinkAuditor$Outline", "growSection", "([CII)V"⟩, 16), (⟨"LinkAuditor$Outline", "readLinks", "([CII)V"⟩, 16), (⟨"LinkAuditor$Site", "expandAll", "()V"⟩, 5), (⟨"LinkAuditor$Expansion", "addPage", "([LLinkAuditor$Outline;III)V"⟩, 10), (⟨"LinkAuditor$Expansion", "isReplaced", "([LLinkAuditor$Outline;I)Z"⟩, 10), (⟨"LinkAuditor$Expansion", "addHeading", "(JIII)V"⟩, 10), (⟨"LinkAuditor$Expansion", "headingsNamed", "(J)I"⟩, 10), (⟨"LinkAuditor", "isHeading", "(II)Z"⟩, 9), (⟨"LinkAuditor", "arrowInPad", "()I"⟩, 9), (⟨"LinkAuditor", "isRedirect", "(I)Z"⟩, 9), (⟨"LinkAuditor", "usesOf", "(I)I"⟩, 9), (⟨"LinkAuditor$Route", "wasHere", "()Z"⟩, 9), (⟨"LinkAuditor$Route", "isGood", "()Z"⟩, 9), (⟨"LinkAuditor$Route", "goOn", "()Z"⟩, 9), (⟨"LinkAuditor", "isLink", "(II)Z"⟩, 9)]
theorem lw_r2 : ∀ q ∈ lw_privs_2, lw_okq q := List.forall_mem_cons.mpr ⟨lw_p16, List.forall_mem_cons.mpr ⟨lw_p17, List.forall_mem_cons.mpr ⟨lw_p18, List.forall_mem_cons.mpr ⟨lw_p19, List.forall_mem_cons.mpr ⟨lw_p20, List.forall_mem_cons.mpr ⟨lw_p21, List.forall_mem_cons.mpr ⟨lw_p22, List.forall_mem_cons.mpr ⟨lw_p23, List.forall_mem_cons.mpr ⟨lw_p24, List.forall_mem_cons.mpr ⟨lw_p25, List.forall_mem_cons.mpr ⟨lw_p26, List.forall_mem_cons.mpr ⟨lw_p27, List.forall_mem_cons.mpr ⟨lw_p28, List.forall_mem_cons.mpr ⟨lw_p29, List.forall_mem_cons.mpr ⟨lw_p30, List.forall_mem_cons.mpr ⟨lw_p31, fun _ h => absurd h List.not_mem_nil⟩⟩⟩⟩⟩⟩⟩⟩⟩⟩⟩⟩⟩⟩⟩⟩
theorem lw_p32 : lw_okq (⟨"LinkAuditor", "linksOfKinds", "(II)I"⟩, 9) := ⟨⟨by decide +kernel, by decide +kernel⟩, List.mem_of_getElem? (i := 14) (by decide +kernel), List.mem_of_getElem? (i := 688) (by decide +kernel), List.mem_of_getElem? (i := 689) (by decide +kernel)⟩
theorem lw_p33 : lw_okq (⟨"LinkAuditor", "reachedFrom", "(I)I"⟩, 9) := ⟨⟨by decide +kernel, by decide +kernel⟩, List.mem_of_getElem? (i := 14) (by decide +kernel), List.mem_of_getElem? (i := 696) (by decide +kernel), List.mem_of_getElem? (i := 697) (by decide +kernel)⟩
theorem lw_p34 : lw_okq (⟨"LinkAuditor", "neighboursOf", "(I)I"⟩, 9) := ⟨⟨by decide +kernel, by decide +kernel⟩, List.mem_of_getElem? (i := 14) (by decide +kernel), List.mem_of_getElem? (i := 700) (by decide +kernel), List.mem_of_getElem? (i := 701) (by decide +kernel)⟩
theorem lw_p35 : lw_okq (⟨"LinkAuditor", "isBroken", "(II)Z"⟩, 9) := ⟨⟨by decide +kernel, by decide +kernel⟩, List.mem_of_getElem? (i := 14) (by decide +kernel), List.mem_of_getElem? (i := 716) (by decide +kernel), List.mem_of_getElem? (i := 717) (by decide +kernel)⟩
theorem lw_p36 : lw_okq (⟨"LinkAuditor$Mender", "offer", "(IIIJ)V"⟩, 10) := ⟨⟨by decide +kernel, by decide +kernel⟩, List.mem_of_getElem? (i := 300) (by decide +kernel), List.mem_of_getElem? (i := 730) (by decide +kernel), List.mem_of_getElem? (i := 731) (by decide +kernel)⟩
theorem lw_p37 : lw_okq (⟨"LinkAuditor$Mender", "offerHeadings", "(III)V"⟩, 10) := ⟨⟨by decide +kernel, by decide +kernel⟩, List.mem_of_getElem? (i := 300) (by decide +kernel), List.mem_of_getElem? (i := 734) (by decide +kernel), List.mem_of_getElem? (i := 735) (by decide +kernel)⟩
theorem lw_p38 : lw_okq (⟨"LinkAuditor$Mender", "stepsTo", "(JI)I"⟩, 10) := ⟨⟨by decide +kernel, by decide +kernel⟩, List.mem_of_getElem? (i := 300) (by decide +kernel), List.mem_of_getElem? (i := 738) (by decide +kernel), List.mem_of_getElem? (i := 739) (by decide +kernel)⟩
theorem lw_p39 : lw_okq (⟨"LinkAuditor$Mender", "fillRow", "(II)I"⟩, 10) := ⟨⟨by decide +kernel, by decide +kernel⟩, List.mem_of_getElem? (i := 300) (by decide +kernel), List.mem_of_getElem? (i := 742) (by decide +kernel), List.mem_of_getElem? (i := 743) (by decide +kernel)⟩
theorem lw_p40 : lw_okq (⟨"LinkAuditor", "writePlace", "(IIIJZ)I"⟩, 9) := ⟨⟨by decide +kernel, by decide +kernel⟩, List.mem_of_getElem? (i := 14) (by decide +kernel), List.mem_of_getElem? (i := 753) (by decide +kernel), List.mem_of_getElem? (i := 754) (by decide +kernel)⟩
theorem lw_p41 : lw_okq (⟨"LinkAuditorModel", "faultOfPage", "()I"⟩, 46) := ⟨⟨by decide +kernel, by decide +kernel⟩, List.mem_of_getElem? (i := 787) (by decide +kernel), List.mem_of_getElem? (i := 948) (by decide +kernel), List.mem_of_getElem? (i := 949) (by decide +kernel)⟩
theorem lw_p42 : lw_okq (⟨"LinkAuditorModel", "readLine", "()Z"⟩, 46) := ⟨⟨by decide +kernel, by decide +kernel⟩, List.mem_of_getElem? (i := 787) (by decide +kernel), List.mem_of_getElem? (i := 952) (by decide +kernel), List.mem_of_getElem? (i := 953) (by decide +kernel)⟩
theorem lw_p43 : lw_okq (⟨"LinkAuditorModel", "next", "()I"⟩, 46) := ⟨⟨by decide +kernel, by decide +kernel⟩, List.mem_of_getElem? (i := 787) (by decide +kernel), List.mem_of_getElem? (i := 956) (by decide +kernel), List.mem_of_getElem? (i := 957) (by decide +kernel)⟩
theorem lw_p44 : lw_okq (⟨"LinkAuditorModel", "readHeading", "()Z"⟩, 46) := ⟨⟨by decide +kernel, by decide +kernel⟩, List.mem_of_getElem? (i := 787) (by decide +kernel), List.mem_of_getElem? (i := 960) (by decide +kernel), List.mem_of_getElem? (i := 961) (by decide +kernel)⟩
theorem lw_p45 : lw_okq (⟨"LinkAuditorModel", "isNext", "(I)Z"⟩, 46) := ⟨⟨by decide +kernel, by decide +kernel⟩, List.mem_of_getElem? (i := 787) (by decide +kernel), List.mem_of_getElem? (i := 964) (by decide +kernel), List.mem_of_getElem? (i := 965) (by decide +kernel)⟩
theorem lw_p46 : lw_okq (⟨"LinkAuditorModel", "readName", "()Z"⟩, 46) := ⟨⟨by decide +kernel, by decide +kernel⟩, List.mem_of_getElem? (i := 787) (by decide +kernel), List.mem_of_getElem? (i := 968) (by decide +kernel), List.mem_of_getElem? (i := 969) (by decide +kernel)⟩
theorem lw_p47 : lw_okq (⟨"LinkAuditorModel", "isSmallNext", "()Z"⟩, 46) := ⟨⟨by decide +kernel, by decide +kernel⟩, List.mem_of_getElem? (i := 787) (by decide +kernel), List.mem_of_getElem? (i := 972) (by decide +kernel), List.mem_of_getElem? (i := 973) (by decide +kernel)⟩
def lw_privs_3 : List (MethodName × Nat) := [(⟨"LinkAuditor", "linksOfKinds", "(II)I"⟩, 9), (⟨"LinkAuditor", "reachedFrom", "(I)I"⟩, 9), (⟨"LinkAuditor", "neighboursOf", "(I)I"⟩, 9), (⟨"LinkAuditor", "isBroken", "(II)Z"⟩, 9), (⟨"LinkAuditor$Mender", "offer", "(IIIJ)V"⟩, 10), (⟨"LinkAuditor$Mender", "offerHeadings", "(III)V"⟩, 10), (⟨"LinkAuditor$Mender", "stepsTo", "(JI)I"⟩, 10), (⟨"LinkAuditor$Mender", "fillRow", "(II)I"⟩, 10), (⟨"LinkAuditor", "writePlace", "(IIIJZ)I"⟩, 9), (⟨"LinkAuditorModel", "faultOfPage", "()I"⟩, 46), (⟨"LinkAuditorModel", "readLine", "()Z"⟩, 46), (⟨"LinkAuditorModel", "next", "()I"⟩, 46), (⟨"LinkAuditorModel", "readHeading", "()Z"⟩, 46), (⟨"LinkAuditorModel", "isNext", "(I)Z"⟩, 46), (⟨"LinkAuditorModel", "readName", "()Z"⟩, 46), (⟨"LinkAuditorModel", "isSmallNext", "()Z"⟩, 46)]
theorem lw_r3 : ∀ q ∈ lw_privs_3, lw_okq q := List.forall_mem_cons.mpr ⟨lw_p32, List.forall_mem_cons.mpr ⟨lw_p33, List.forall_mem_cons.mpr ⟨lw_p34, List.forall_mem_cons.mpr ⟨lw_p35, List.forall_mem_cons.mpr ⟨lw_p36, List.forall_mem_cons.mpr ⟨lw_p37, List.forall_mem_cons.mpr ⟨lw_p38, List.forall_mem_cons.mpr ⟨lw_p39, List.forall_mem_cons.mpr ⟨lw_p40, List.forall_mem_cons.mpr ⟨lw_p41, List.forall_mem_cons.mpr ⟨lw_p42, List.forall_mem_cons.mpr ⟨lw_p43, List.forall_mem_cons.mpr ⟨lw_p44, List.forall_mem_cons.mpr ⟨lw_p45, List.forall_mem_cons.mpr ⟨lw_p46, List.forall_mem_cons.mpr ⟨lw_p47, fun _ h => absurd h List.not_mem_nil⟩⟩⟩⟩⟩⟩⟩⟩⟩⟩⟩⟩⟩⟩⟩⟩
theorem lw_p48 : lw_okq (⟨"LinkAuditorModel", "isDigitNext", "()Z"⟩, 46) := ⟨⟨by decide +kernel, by decide +kernel⟩, List.mem_of_getElem? (i := 787) (by decide +kernel), List.mem_of_getElem? (i := 976) (by decide +kernel), List.mem_of_getElem? (i := 977) (by decide +kernel)⟩
theorem lw_p49 : lw_okq (⟨"LinkAuditorModel", "keepSign", "()V"⟩, 46) := ⟨⟨by decide +kernel, by decide +kernel⟩, List.mem_of_getElem? (i := 787) (by decide +kernel), List.mem_of_getElem? (i := 980) (by decide +kernel), List.mem_of_getElem? (i := 981) (by decide +kernel)⟩
theorem lw_p50 : lw_okq (⟨"LinkAuditorModel", "readInclude", "()Z"⟩, 46) := ⟨⟨by decide +kernel, by decide +kernel⟩, List.mem_of_getElem? (i := 787) (by decide +kernel), List.mem_of_getElem? (i := 984) (by decide +kernel), List.mem_of_getElem? (i := 985) (by decide +kernel)⟩
theorem lw_p51 : lw_okq (⟨"LinkAuditorModel", "readLetter", "()Z"⟩, 46) := ⟨⟨by decide +kernel, by decide +kernel⟩, List.mem_of_getElem? (i := 787) (by decide +kernel), List.mem_of_getElem? (i := 988) (by decide +kernel), List.mem_of_getElem? (i := 989) (by decide +kernel)⟩
theorem lw_p52 : lw_okq (⟨"LinkAuditorModel", "readElements", "()Z"⟩, 46) := ⟨⟨by decide +kernel, by decide +kernel⟩, List.mem_of_getElem? (i := 787) (by decide +kernel), List.mem_of_getElem? (i := 992) (by decide +kernel), List.mem_of_getElem? (i := 993) (by decide +kernel)⟩
theorem lw_p53 : lw_okq (⟨"LinkAuditorModel", "readElement", "()Z"⟩, 46) := ⟨⟨by decide +kernel, by decide +kernel⟩, List.mem_of_getElem? (i := 787) (by decide +kernel), List.mem_of_getElem? (i := 996) (by decide +kernel), List.mem_of_getElem? (i := 997) (by decide +kernel)⟩
theorem lw_p54 : lw_okq (⟨"LinkAuditorModel", "readAnchor", "()Z"⟩, 46) := ⟨⟨by decide +kernel, by decide +kernel⟩, List.mem_of_getElem? (i := 787) (by decide +kernel), List.mem_of_getElem? (i := 1000) (by decide +kernel), List.mem_of_getElem? (i := 1001) (by decide +kernel)⟩
theorem lw_p55 : lw_okq (⟨"LinkAuditorModel", "readPlace", "()Z"⟩, 46) := ⟨⟨by decide +kernel, by decide +kernel⟩, List.mem_of_getElem? (i := 787) (by decide +kernel), List.mem_of_getElem? (i := 1004) (by decide +kernel), List.mem_of_getElem? (i := 1005) (by decide +kernel)⟩
theorem lw_p56 : lw_okq (⟨"LinkAuditorModel", "faultOfRedirect", "()I"⟩, 46) := ⟨⟨by decide +kernel, by decide +kernel⟩, List.mem_of_getElem? (i := 787) (by decide +kernel), List.mem_of_getElem? (i := 1008) (by decide +kernel), List.mem_of_getElem? (i := 1009) (by decide +kernel)⟩
theorem lw_p57 : lw_okq (⟨"LinkAuditorModel", "readSide", "(I)Z"⟩, 46) := ⟨⟨by decide +kernel, by decide +kernel⟩, List.mem_of_getElem? (i := 787) (by decide +kernel), List.mem_of_getElem? (i := 1012) (by decide +kernel), List.mem_of_getElem? (i := 1013) (by decide +kernel)⟩
theorem lw_p58 : lw_okq (⟨"LinkAuditorModel", "putDown", "()V"⟩, 46) := ⟨⟨by decide +kernel, by decide +kernel⟩, List.mem_of_getElem? (i := 787) (by decide +kernel), List.mem_of_getElem? (i := 1027) (by decide +kernel), List.mem_of_getElem? (i := 1028) (by decide +kernel)⟩
theorem lw_p59 : lw_okq (⟨"LinkAuditorModel", "hasSource", "(I)Z"⟩, 46) := ⟨⟨by decide +kernel, by decide +kernel⟩, List.mem_of_getElem? (i := 787) (by decide +kernel), List.mem_of_getElem? (i := 1031) (by decide +kernel), List.mem_of_getElem? (i := 1032) (by decide +kernel)⟩
theorem lw_p60 : lw_okq (⟨"LinkAuditorModel", "size", "(I)I"⟩, 46) := ⟨⟨by decide +kernel, by decide +kernel⟩, List.mem_of_getElem? (i := 787) (by decide +kernel), List.mem_of_getElem? (i := 1035) (by decide +kernel), List.mem_of_getElem? (i := 1036) (by decide +kernel)⟩
theorem lw_p61 : lw_okq (⟨"LinkAuditorModel", "remember", "(I)V"⟩, 46) := ⟨⟨by decide +kernel, by decide +kernel⟩, List.mem_of_getElem? (i := 787) (by decide +kernel), List.mem_of_getElem? (i := 1039) (by decide +kernel), List.mem_of_getElem? (i := 1040) (by decide +kernel)⟩
theorem lw_p62 : lw_okq (⟨"LinkAuditorModel", "layAll", "()V"⟩, 46) := ⟨⟨by decide +kernel, by decide +kernel⟩, List.mem_of_getElem? (i := 787) (by decide +kernel), List.mem_of_getElem? (i := 1043) (by decide +kernel), List.mem_of_getElem? (i := 1044) (by decide +kernel)⟩
theorem lw_p63 : lw_okq (⟨"LinkAuditorModel", "layOwn", "(I)V"⟩, 46) := ⟨⟨by decide +kernel, by decide +kernel⟩, List.mem_of_getElem? (i := 787) (by decide +kernel), List.mem_of_getElem? (i := 1047) (by decide +kernel), List.mem_of_getElem? (i := 1048) (by decide +kernel)⟩
def lw_privs_4 : List (MethodName × Nat) := [(⟨"LinkAuditorModel", "isDigitNext", "()Z"⟩, 46), (⟨"LinkAuditorModel", "keepSign", "()V"⟩, 46), (⟨"LinkAuditorModel", "readInclude", "()Z"⟩, 46), (⟨"LinkAuditorModel", "readLetter", "()Z"⟩, 46), (⟨"LinkAuditorModel", "readElements", "()Z"⟩, 46), (⟨"LinkAuditorModel", "readElement", "()Z"⟩, 46), (⟨"LinkAuditorModel", "readAnchor", "()Z"⟩, 46), (⟨"LinkAuditorModel", "readPlace", "()Z"⟩, 46), (⟨"LinkAuditorModel", "faultOfRedirect", "()I"⟩, 46), (⟨"LinkAuditorModel", "readSide", "(I)Z"⟩, 46), (⟨"LinkAuditorModel", "putDown", "()V"⟩, 46), (⟨"LinkAuditorModel", "hasSource", "(I)Z"⟩, 46), (⟨"LinkAuditorModel", "size", "(I)I"⟩, 46), (⟨"LinkAuditorModel", "remember", "(I)V"⟩, 46), (⟨"LinkAuditorModel", "layAll", "()V"⟩, 46), (⟨"LinkAuditorModel", "layOwn", "(I)V"⟩, 46)]
theorem lw_r4 : ∀ q ∈ lw_privs_4, lw_okq q := List.forall_mem_cons.mpr ⟨lw_p48, List.forall_mem_cons.mpr ⟨lw_p49, List.forall_mem_cons.mpr ⟨lw_p50, List.forall_mem_cons.mpr ⟨lw_p51, List.forall_mem_cons.mpr ⟨lw_p52, List.forall_mem_cons.mpr ⟨lw_p53, List.forall_mem_cons.mpr ⟨lw_p54, List.forall_mem_cons.mpr ⟨lw_p55, List.forall_mem_cons.mpr ⟨lw_p56, List.forall_mem_cons.mpr ⟨lw_p57, List.forall_mem_cons.mpr ⟨lw_p58, List.forall_mem_cons.mpr ⟨lw_p59, List.forall_mem_cons.mpr ⟨lw_p60, List.forall_mem_cons.mpr ⟨lw_p61, List.forall_mem_cons.mpr ⟨lw_p62, List.forall_mem_cons.mpr ⟨lw_p63, fun _ h => absurd h List.not_mem_nil⟩⟩⟩⟩⟩⟩⟩⟩⟩⟩⟩⟩⟩⟩⟩⟩
theorem lw_p64 : lw_okq (⟨"LinkAuditorModel", "lineEnd", "(II)I"⟩, 46) := ⟨⟨by decide +kernel, by decide +kernel⟩, List.mem_of_getElem? (i := 787) (by decide +kernel), List.mem_of_getElem? (i := 1051) (by decide +kernel), List.mem_of_getElem? (i := 1052) (by decide +kernel)⟩
theorem lw_p65 : lw_okq (⟨"LinkAuditorModel", "sign", "(II)I"⟩, 46) := ⟨⟨by decide +kernel, by decide +kernel⟩, List.mem_of_getElem? (i := 787) (by decide +kernel), List.mem_of_getElem? (i := 1055) (by decide +kernel), List.mem_of_getElem? (i := 1056) (by decide +kernel)⟩
theorem lw_p66 : lw_okq (⟨"LinkAuditorModel", "digestLine", "(IIII)V"⟩, 46) := ⟨⟨by decide +kernel, by decide +kernel⟩, List.mem_of_getElem? (i := 787) (by decide +kernel), List.mem_of_getElem? (i := 1059) (by decide +kernel), List.mem_of_getElem? (i := 1060) (by decide +kernel)⟩
theorem lw_p67 : lw_okq (⟨"LinkAuditorModel", "layLinks", "(III)V"⟩, 46) := ⟨⟨by decide +kernel, by decide +kernel⟩, List.mem_of_getElem? (i := 787) (by decide +kernel), List.mem_of_getElem? (i := 1064) (by decide +kernel), List.mem_of_getElem? (i := 1065) (by decide +kernel)⟩
theorem lw_p68 : lw_okq (⟨"LinkAuditorModel", "keepLink", "(III)V"⟩, 46) := ⟨⟨by decide +kernel, by decide +kernel⟩, List.mem_of_getElem? (i := 787) (by decide +kernel), List.mem_of_getElem? (i := 1068) (by decide +kernel), List.mem_of_getElem? (i := 1069) (by decide +kernel)⟩
theorem lw_p69 : lw_okq (⟨"LinkAuditorModel", "keepAnchor", "(IIII)V"⟩, 46) := ⟨⟨by decide +kernel, by decide +kernel⟩, List.mem_of_getElem? (i := 787) (by decide +kernel), List.mem_of_getElem? (i := 1075) (by decide +kernel), List.mem_of_getElem? (i := 1076) (by decide +kernel)⟩
theorem lw_p70 : lw_okq (⟨"LinkAuditorModel", "layExpansion", "(I)V"⟩, 46) := ⟨⟨by decide +kernel, by decide +kernel⟩, List.mem_of_getElem? (i := 787) (by decide +kernel), List.mem_of_getElem? (i := 1079) (by decide +kernel), List.mem_of_getElem? (i := 1080) (by decide +kernel)⟩
theorem lw_p71 : lw_okq (⟨"LinkAuditorModel", "push", "(II)V"⟩, 46) := ⟨⟨by decide +kernel, by decide +kernel⟩, List.mem_of_getElem? (i := 787) (by decide +kernel), List.mem_of_getElem? (i := 1083) (by decide +kernel), List.mem_of_getElem? (i := 1084) (by decide +kernel)⟩
theorem lw_p72 : lw_okq (⟨"LinkAuditorModel", "keepHeading", "(IIIII)V"⟩, 46) := ⟨⟨by decide +kernel, by decide +kernel⟩, List.mem_of_getElem? (i := 787) (by decide +kernel), List.mem_of_getElem? (i := 1087) (by decide +kernel), List.mem_of_getElem? (i := 1088) (by decide +kernel)⟩
theorem lw_p73 : lw_okq (⟨"LinkAuditorModel", "namesakes", "(II)I"⟩, 46) := ⟨⟨by decide +kernel, by decide +kernel⟩, List.mem_of_getElem? (i := 787) (by decide +kernel), List.mem_of_getElem? (i := 1094) (by decide +kernel), List.mem_of_getElem? (i := 1095) (by decide +kernel)⟩
theorem lw_p74 : lw_okq (⟨"LinkAuditorModel", "appendSign", "(II)V"⟩, 46) := ⟨⟨by decide +kernel, by decide +kernel⟩, List.mem_of_getElem? (i := 787) (by decide +kernel), List.mem_of_getElem? (i := 1098) (by decide +kernel), List.mem_of_getElem? (i := 1099) (by decide +kernel)⟩
theorem lw_p75 : lw_okq (⟨"LinkAuditorModel", "forget", "(II)V"⟩, 46) := ⟨⟨by decide +kernel, by decide +kernel⟩, List.mem_of_getElem? (i := 787) (by decide +kernel), List.mem_of_getElem? (i := 1102) (by decide +kernel), List.mem_of_getElem? (i := 1103) (by decide +kernel)⟩
theorem lw_p76 : lw_okq (⟨"LinkAuditorModel", "areSameAnchors", "([II[II)Z"⟩, 46) := ⟨⟨by decide +kernel, by decide +kernel⟩, List.mem_of_getElem? (i := 787) (by decide +kernel), List.mem_of_getElem? (i := 1106) (by decide +kernel), List.mem_of_getElem? (i := 1107) (by decide +kernel)⟩
theorem lw_p77 : lw_okq (⟨"LinkAuditorModel", "dropEntry", "(I)V"⟩, 46) := ⟨⟨by decide +kernel, by decide +kernel⟩, List.mem_of_getElem? (i := 787) (by decide +kernel), List.mem_of_getElem? (i := 1110) (by decide +kernel), List.mem_of_getElem? (i := 1111) (by decide +kernel)⟩
theorem lw_p78 : lw_okq (⟨"LinkAuditorModel", "linesOf", "(I)I"⟩, 46) := ⟨⟨by decide +kernel, by decide +kernel⟩, List.mem_of_getElem? (i := 787) (by decide +kernel), List.mem_of_getElem? (i := 1114) (by decide +kernel), List.mem_of_getElem? (i := 1115) (by decide +kernel)⟩
theorem lw_p79 : lw_okq (⟨"LinkAuditorModel", "sources", "()I"⟩, 46) := ⟨⟨by decide +kernel, by decide +kernel⟩, List.mem_of_getElem? (i := 787) (by decide +kernel), List.mem_of_getElem? (i := 1122) (by decide +kernel), List.mem_of_getElem? (i := 1123) (by decide +kernel)⟩
def lw_privs_5 : List (MethodName × Nat) := [(⟨"LinkAuditorModel", "lineEnd", "(II)I"⟩, 46), (⟨"LinkAuditorModel", "sign", "(II)I"⟩, 46), (⟨"LinkAuditorModel", "digestLine", "(IIII)V"⟩, 46), (⟨"LinkAuditorModel", "layLinks", "(III)V"⟩, 46), (⟨"LinkAuditorModel", "keepLink", "(III)V"⟩, 46), (⟨"LinkAuditorModel", "keepAnchor", "(IIII)V"⟩, 46), (⟨"LinkAuditorModel", "layExpansion", "(I)V"⟩, 46), (⟨"LinkAuditorModel", "push", "(II)V"⟩, 46), (⟨"LinkAuditorModel", "keepHeading", "(IIIII)V"⟩, 46), (⟨"LinkAuditorModel", "namesakes", "(II)I"⟩, 46), (⟨"LinkAuditorModel", "appendSign", "(II)V"⟩, 46), (⟨"LinkAuditorModel", "forget", "(II)V"⟩, 46), (⟨"LinkAuditorModel", "areSameAnchors", "([II[II)Z"⟩, 46), (⟨"LinkAuditorModel", "dropEntry", "(I)V"⟩, 46), (⟨"LinkAuditorModel", "linesOf", "(I)I"⟩, 46), (⟨"LinkAuditorModel", "sources", "()I"⟩, 46)]
theorem lw_r5 : ∀ q ∈ lw_privs_5, lw_okq q := List.forall_mem_cons.mpr ⟨lw_p64, List.forall_mem_cons.mpr ⟨lw_p65, List.forall_mem_cons.mpr ⟨lw_p66, List.forall_mem_cons.mpr ⟨lw_p67, List.forall_mem_cons.mpr ⟨lw_p68, List.forall_mem_cons.mpr ⟨lw_p69, List.forall_mem_cons.mpr ⟨lw_p70, List.forall_mem_cons.mpr ⟨lw_p71, List.forall_mem_cons.mpr ⟨lw_p72, List.forall_mem_cons.mpr ⟨lw_p73, List.forall_mem_cons.mpr ⟨lw_p74, List.forall_mem_cons.mpr ⟨lw_p75, List.forall_mem_cons.mpr ⟨lw_p76, List.forall_mem_cons.mpr ⟨lw_p77, List.forall_mem_cons.mpr ⟨lw_p78, List.forall_mem_cons.mpr ⟨lw_p79, fun _ h => absurd h List.not_mem_nil⟩⟩⟩⟩⟩⟩⟩⟩⟩⟩⟩⟩⟩⟩⟩⟩
theorem lw_p80 : lw_okq (⟨"LinkAuditorModel", "isHeading", "(II)Z"⟩, 46) := ⟨⟨by decide +kernel, by decide +kernel⟩, List.mem_of_getElem? (i := 787) (by decide +kernel), List.mem_of_getElem? (i := 1138) (by decide +kernel), List.mem_of_getElem? (i := 1139) (by decide +kernel)⟩
theorem lw_p81 : lw_okq (⟨"LinkAuditorModel", "included", "(I)I"⟩, 46) := ⟨⟨by decide +kernel, by decide +kernel⟩, List.mem_of_getElem? (i := 787) (by decide +kernel), List.mem_of_getElem? (i := 1154) (by decide +kernel), List.mem_of_getElem? (i := 1155) (by decide +kernel)⟩
theorem lw_p82 : lw_okq (⟨"LinkAuditorModel", "areSamePlaces", "([II[II)Z"⟩, 46) := ⟨⟨by decide +kernel, by decide +kernel⟩, List.mem_of_getElem? (i := 787) (by decide +kernel), List.mem_of_getElem? (i := 1162) (by decide +kernel), List.mem_of_getElem? (i := 1163) (by decide +kernel)⟩
theorem lw_p83 : lw_okq (⟨"LinkAuditorModel", "turns", "()I"⟩, 46) := ⟨⟨by decide +kernel, by decide +kernel⟩, List.mem_of_getElem? (i := 787) (by decide +kernel), List.mem_of_getElem? (i := 1166) (by decide +kernel), List.mem_of_getElem? (i := 1167) (by decide +kernel)⟩
theorem lw_p84 : lw_okq (⟨"LinkAuditorModel", "turnAt", "(I)I"⟩, 46) := ⟨⟨by decide +kernel, by decide +kernel⟩, List.mem_of_getElem? (i := 787) (by decide +kernel), List.mem_of_getElem? (i := 1170) (by decide +kernel), List.mem_of_getElem? (i := 1171) (by decide +kernel)⟩
theorem lw_p85 : lw_okq (⟨"LinkAuditorModel", "isTurn", "(I)Z"⟩, 46) := ⟨⟨by decide +kernel, by decide +kernel⟩, List.mem_of_getElem? (i := 787) (by decide +kernel), List.mem_of_getElem? (i := 1178) (by decide +kernel), List.mem_of_getElem? (i := 1179) (by decide +kernel)⟩
theorem lw_p86 : lw_okq (⟨"LinkAuditorModel", "followedBy", "(I)I"⟩, 46) := ⟨⟨by decide +kernel, by decide +kernel⟩, List.mem_of_getElem? (i := 787) (by decide +kernel), List.mem_of_getElem? (i := 1186) (by decide +kernel), List.mem_of_getElem? (i := 1187) (by decide +kernel)⟩
theorem lw_p87 : lw_okq (⟨"LinkAuditorModel", "tallyOf", "(I)I"⟩, 46) := ⟨⟨by decide +kernel, by decide +kernel⟩, List.mem_of_getElem? (i := 787) (by decide +kernel), List.mem_of_getElem? (i := 1190) (by decide +kernel), List.mem_of_getElem? (i := 1191) (by decide +kernel)⟩
theorem lw_p88 : lw_okq (⟨"LinkAuditorModel", "resolve", "(II)V"⟩, 46) := ⟨⟨by decide +kernel, by decide +kernel⟩, List.mem_of_getElem? (i := 787) (by decide +kernel), List.mem_of_getElem? (i := 1194) (by decide +kernel), List.mem_of_getElem? (i := 1195) (by decide +kernel)⟩
theorem lw_p89 : lw_okq (⟨"LinkAuditorModel", "wasHere", "()Z"⟩, 46) := ⟨⟨by decide +kernel, by decide +kernel⟩, List.mem_of_getElem? (i := 787) (by decide +kernel), List.mem_of_getElem? (i := 1198) (by decide +kernel), List.mem_of_getElem? (i := 1199) (by decide +kernel)⟩
theorem lw_p90 : lw_okq (⟨"LinkAuditorModel", "isGood", "()Z"⟩, 46) := ⟨⟨by decide +kernel, by decide +kernel⟩, List.mem_of_getElem? (i := 787) (by decide +kernel), List.mem_of_getElem? (i := 1202) (by decide +kernel), List.mem_of_getElem? (i := 1203) (by decide +kernel)⟩
theorem lw_p91 : lw_okq (⟨"LinkAuditorModel", "headingWith", "(I[II)I"⟩, 46) := ⟨⟨by decide +kernel, by decide +kernel⟩, List.mem_of_getElem? (i := 787) (by decide +kernel), List.mem_of_getElem? (i := 1206) (by decide +kernel), List.mem_of_getElem? (i := 1207) (by decide +kernel)⟩
theorem lw_p92 : lw_okq (⟨"LinkAuditorModel", "turnFrom", "(Z)I"⟩, 46) := ⟨⟨by decide +kernel, by decide +kernel⟩, List.mem_of_getElem? (i := 787) (by decide +kernel), List.mem_of_getElem? (i := 1210) (by decide +kernel), List.mem_of_getElem? (i := 1211) (by decide +kernel)⟩
theorem lw_p93 : lw_okq (⟨"LinkAuditorModel", "go", "(IZ)V"⟩, 46) := ⟨⟨by decide +kernel, by decide +kernel⟩, List.mem_of_getElem? (i := 787) (by decide +kernel), List.mem_of_getElem? (i := 1214) (by decide +kernel), List.mem_of_getElem? (i := 1215) (by decide +kernel)⟩
theorem lw_p94 : lw_okq (⟨"LinkAuditorModel", "isLink", "(II)Z"⟩, 46) := ⟨⟨by decide +kernel, by decide +kernel⟩, List.mem_of_getElem? (i := 787) (by decide +kernel), List.mem_of_getElem? (i := 1222) (by decide +kernel), List.mem_of_getElem? (i := 1223) (by decide +kernel)⟩
theorem lw_p95 : lw_okq (⟨"LinkAuditorModel", "endsOf", "(I)I"⟩, 46) := ⟨⟨by decide +kernel, by decide +kernel⟩, List.mem_of_getElem? (i := 787) (by decide +kernel), List.mem_of_getElem? (i := 1234) (by decide +kernel), List.mem_of_getElem? (i := 1235) (by decide +kernel)⟩
def lw_privs_6 : List (MethodName × Nat) := [(⟨"LinkAuditorModel", "isHeading", "(II)Z"⟩, 46), (⟨"LinkAuditorModel", "included", "(I)I"⟩, 46), (⟨"LinkAuditorModel", "areSamePlaces", "([II[II)Z"⟩, 46), (⟨"LinkAuditorModel", "turns", "()I"⟩, 46), (⟨"LinkAuditorModel", "turnAt", "(I)I"⟩, 46), (⟨"LinkAuditorModel", "isTurn", "(I)Z"⟩, 46), (⟨"LinkAuditorModel", "followedBy", "(I)I"⟩, 46), (⟨"LinkAuditorModel", "tallyOf", "(I)I"⟩, 46), (⟨"LinkAuditorModel", "resolve", "(II)V"⟩, 46), (⟨"LinkAuditorModel", "wasHere", "()Z"⟩, 46), (⟨"LinkAuditorModel", "isGood", "()Z"⟩, 46), (⟨"LinkAuditorModel", "headingWith", "(I[II)I"⟩, 46), (⟨"LinkAuditorModel", "turnFrom", "(Z)I"⟩, 46), (⟨"LinkAuditorModel", "go", "(IZ)V"⟩, 46), (⟨"LinkAuditorModel", "isLink", "(II)Z"⟩, 46), (⟨"LinkAuditorModel", "endsOf", "(I)I"⟩, 46)]
theorem lw_r6 : ∀ q ∈ lw_privs_6, lw_okq q := List.forall_mem_cons.mpr ⟨lw_p80, List.forall_mem_cons.mpr ⟨lw_p81, List.forall_mem_cons.mpr ⟨lw_p82, List.forall_mem_cons.mpr ⟨lw_p83, List.forall_mem_cons.mpr ⟨lw_p84, List.forall_mem_cons.mpr ⟨lw_p85, List.forall_mem_cons.mpr ⟨lw_p86, List.forall_mem_cons.mpr ⟨lw_p87, List.forall_mem_cons.mpr ⟨lw_p88, List.forall_mem_cons.mpr ⟨lw_p89, List.forall_mem_cons.mpr ⟨lw_p90, List.forall_mem_cons.mpr ⟨lw_p91, List.forall_mem_cons.mpr ⟨lw_p92, List.forall_mem_cons.mpr ⟨lw_p93, List.forall_mem_cons.mpr ⟨lw_p94, List.forall_mem_cons.mpr ⟨lw_p95, fun _ h => absurd h List.not_mem_nil⟩⟩⟩⟩⟩⟩⟩⟩⟩⟩⟩⟩⟩⟩⟩⟩
theorem lw_p96 : lw_okq (⟨"LinkAuditorModel", "alike", "(I)I"⟩, 46) := ⟨⟨by decide +kernel, by decide +kernel⟩, List.mem_of_getElem? (i := 787) (by decide +kernel), List.mem_of_getElem? (i := 1242) (by decide +kernel), List.mem_of_getElem? (i := 1243) (by decide +kernel)⟩
theorem lw_p97 : lw_okq (⟨"LinkAuditorModel", "isBroken", "(II)Z"⟩, 46) := ⟨⟨by decide +kernel, by decide +kernel⟩, List.mem_of_getElem? (i := 787) (by decide +kernel), List.mem_of_getElem? (i := 1250) (by decide +kernel), List.mem_of_getElem? (i := 1251) (by decide +kernel)⟩
theorem lw_p98 : lw_okq (⟨"LinkAuditorModel", "layRepair", "(II)V"⟩, 46) := ⟨⟨by decide +kernel, by decide +kernel⟩, List.mem_of_getElem? (i := 787) (by decide +kernel), List.mem_of_getElem? (i := 1254) (by decide +kernel), List.mem_of_getElem? (i := 1255) (by decide +kernel)⟩
theorem lw_p99 : lw_okq (⟨"LinkAuditorModel", "remembered", "(II)I"⟩, 46) := ⟨⟨by decide +kernel, by decide +kernel⟩, List.mem_of_getElem? (i := 787) (by decide +kernel), List.mem_of_getElem? (i := 1258) (by decide +kernel), List.mem_of_getElem? (i := 1259) (by decide +kernel)⟩
theorem lw_p100 : lw_okq (⟨"LinkAuditorModel", "offer", "(III)V"⟩, 46) := ⟨⟨by decide +kernel, by decide +kernel⟩, List.mem_of_getElem? (i := 787) (by decide +kernel), List.mem_of_getElem? (i := 1262) (by decide +kernel), List.mem_of_getElem? (i := 1263) (by decide +kernel)⟩
theorem lw_p101 : lw_okq (⟨"LinkAuditorModel", "changes", "(II)I"⟩, 46) := ⟨⟨by decide +kernel, by decide +kernel⟩, List.mem_of_getElem? (i := 787) (by decide +kernel), List.mem_of_getElem? (i := 1266) (by decide +kernel), List.mem_of_getElem? (i := 1267) (by decide +kernel)⟩
theorem lw_p102 : lw_okq (⟨"LinkAuditorModel", "isSectionWith", "(III)Z"⟩, 46) := ⟨⟨by decide +kernel, by decide +kernel⟩, List.mem_of_getElem? (i := 787) (by decide +kernel), List.mem_of_getElem? (i := 1273) (by decide +kernel), List.mem_of_getElem? (i := 1274) (by decide +kernel)⟩
theorem lw_p103 : lw_okq (⟨"LinkAuditorModel", "layTarget", "(III)V"⟩, 46) := ⟨⟨by decide +kernel, by decide +kernel⟩, List.mem_of_getElem? (i := 787) (by decide +kernel), List.mem_of_getElem? (i := 1281) (by decide +kernel), List.mem_of_getElem? (i := 1282) (by decide +kernel)⟩
theorem lw_p104 : lw_okq (⟨"LinkAuditorModel", "say", "(I)V"⟩, 46) := ⟨⟨by decide +kernel, by decide +kernel⟩, List.mem_of_getElem? (i := 787) (by decide +kernel), List.mem_of_getElem? (i := 1285) (by decide +kernel), List.mem_of_getElem? (i := 1286) (by decide +kernel)⟩
theorem lw_p105 : lw_okq (⟨"LinkAuditorModel", "fitsTarget", "(II)Z"⟩, 46) := ⟨⟨by decide +kernel, by decide +kernel⟩, List.mem_of_getElem? (i := 787) (by decide +kernel), List.mem_of_getElem? (i := 1289) (by decide +kernel), List.mem_of_getElem? (i := 1290) (by decide +kernel)⟩
theorem lw_p106 : lw_okq (⟨"LinkAuditorModel", "writeTarget", "(II)V"⟩, 46) := ⟨⟨by decide +kernel, by decide +kernel⟩, List.mem_of_getElem? (i := 787) (by decide +kernel), List.mem_of_getElem? (i := 1293) (by decide +kernel), List.mem_of_getElem? (i := 1294) (by decide +kernel)⟩
theorem lw_p107 : lw_okq (⟨"LinkAuditorModel", "linksOfAll", "()I"⟩, 46) := ⟨⟨by decide +kernel, by decide +kernel⟩, List.mem_of_getElem? (i := 787) (by decide +kernel), List.mem_of_getElem? (i := 1309) (by decide +kernel), List.mem_of_getElem? (i := 1310) (by decide +kernel)⟩
def lw_privs_7 : List (MethodName × Nat) := [(⟨"LinkAuditorModel", "alike", "(I)I"⟩, 46), (⟨"LinkAuditorModel", "isBroken", "(II)Z"⟩, 46), (⟨"LinkAuditorModel", "layRepair", "(II)V"⟩, 46), (⟨"LinkAuditorModel", "remembered", "(II)I"⟩, 46), (⟨"LinkAuditorModel", "offer", "(III)V"⟩, 46), (⟨"LinkAuditorModel", "changes", "(II)I"⟩, 46), (⟨"LinkAuditorModel", "isSectionWith", "(III)Z"⟩, 46), (⟨"LinkAuditorModel", "layTarget", "(III)V"⟩, 46), (⟨"LinkAuditorModel", "say", "(I)V"⟩, 46), (⟨"LinkAuditorModel", "fitsTarget", "(II)Z"⟩, 46), (⟨"LinkAuditorModel", "writeTarget", "(II)V"⟩, 46), (⟨"LinkAuditorModel", "linksOfAll", "()I"⟩, 46)]
theorem lw_r7 : ∀ q ∈ lw_privs_7, lw_okq q := List.forall_mem_cons.mpr ⟨lw_p96, List.forall_mem_cons.mpr ⟨lw_p97, List.forall_mem_cons.mpr ⟨lw_p98, List.forall_mem_cons.mpr ⟨lw_p99, List.forall_mem_cons.mpr ⟨lw_p100, List.forall_mem_cons.mpr ⟨lw_p101, List.forall_mem_cons.mpr ⟨lw_p102, List.forall_mem_cons.mpr ⟨lw_p103, List.forall_mem_cons.mpr ⟨lw_p104, List.forall_mem_cons.mpr ⟨lw_p105, List.forall_mem_cons.mpr ⟨lw_p106, List.forall_mem_cons.mpr ⟨lw_p107, fun _ h => absurd h List.not_mem_nil⟩⟩⟩⟩⟩⟩⟩⟩⟩⟩⟩⟩
def lw_privs : List (MethodName × Nat) := lw_privs_1 ++ (lw_privs_2 ++ (lw_privs_3 ++ (lw_privs_4 ++ (lw_privs_5 ++ (lw_privs_6 ++ (lw_privs_7))))))
def lw_tbl : List Cond := k2_sels lw_privs ++ tables_1
theorem lw_privs_ok : ∀ q ∈ lw_privs, lw_okq q := by
  show ∀ q ∈ lw_privs_1 ++ (lw_privs_2 ++ (lw_privs_3 ++ (lw_privs_4 ++ (lw_privs_5 ++ (lw_privs_6 ++ (lw_privs_7)))))), lw_okq q
  exact List.forall_mem_append.mpr ⟨lw_r1, List.forall_mem_append.mpr ⟨lw_r2, List.forall_mem_append.mpr ⟨lw_r3, List.forall_mem_append.mpr ⟨lw_r4, List.forall_mem_append.mpr ⟨lw_r5, List.forall_mem_append.mpr ⟨lw_r6, lw_r7⟩⟩⟩⟩⟩⟩
end
section
def RX0 : String := "LinkAuditor$Anchors"
def TX0 : u_T := fun k => match k with
  | _ => ("", "", "", false)
def tyX0 : Nat → FieldType := fun k => match k with
  | _ => .int
theorem nmX0 : ∀ a, a < 0 → ∀ b, b < 0 → a ≠ b → (TX0 a).2.1 ≠ (TX0 b).2.1 := by decide +kernel
theorem tyX0_ok : ∀ k, k < 0 → parseFieldDescriptor (TX0 k).2.2.1 = some (tyX0 k) := by decide +kernel
def RX1 : String := "LinkAuditor$Expansion"
def TX1 : u_T := fun k => match k with
  | 0 => ("LinkAuditor$Expansion", "lines", "I", false)
  | 1 => ("LinkAuditor$Expansion", "origins", "I", false)
  | 2 => ("LinkAuditor$Expansion", "headings", "I", false)
  | 3 => ("LinkAuditor$Expansion", "level", "[I", true)
  | 4 => ("LinkAuditor$Expansion", "origin", "[I", true)
  | 5 => ("LinkAuditor$Expansion", "anchor", "[J", true)
  | 6 => ("LinkAuditor$Expansion", "sectionOf", "[I", true)
  | 7 => ("LinkAuditor$Expansion", "headingOf", "[I", true)
  | 8 => ("LinkAuditor$Expansion", "replaced", "I", false)
  | _ => ("LinkAuditor$Expansion", "underWay", "I", false)
def tyX1 : Nat → FieldType := fun k => match k with
  | 0 => .int
  | 1 => .int
  | 2 => .int
  | 3 => .array .int
  | 4 => .array .int
  | 5 => .array .long
  | 6 => .array .int
  | 7 => .array .int
  | 8 => .int
  | _ => .int
theorem nmX1 : ∀ a, a < 10 → ∀ b, b < 10 → a ≠ b → (TX1 a).2.1 ≠ (TX1 b).2.1 := by decide +kernel
theorem tyX1_ok : ∀ k, k < 10 → parseFieldDescriptor (TX1 k).2.2.1 = some (tyX1 k) := by decide +kernel
def RX2 : String := "LinkAuditor$Mender"
def TX2 : u_T := fun k => match k with
  | 0 => ("LinkAuditor$Mender", "site", "LLinkAuditor$Site;", true)
  | 1 => ("LinkAuditor$Mender", "cost", "I", false)
  | 2 => ("LinkAuditor$Mender", "page", "I", false)
  | 3 => ("LinkAuditor$Mender", "heading", "I", false)
  | 4 => ("LinkAuditor$Mender", "anchor", "J", false)
  | 5 => ("LinkAuditor$Mender", "wanted", "J", false)
  | 6 => ("LinkAuditor$Mender", "wantedText", "[C", true)
  | 7 => ("LinkAuditor$Mender", "wantedLength", "I", false)
  | 8 => ("LinkAuditor$Mender", "triedText", "[C", true)
  | _ => ("LinkAuditor$Mender", "row", "[I", true)
def tyX2 : Nat → FieldType := fun k => match k with
  | 0 => .object "LinkAuditor$Site"
  | 1 => .int
  | 2 => .int
  | 3 => .int
  | 4 => .long
  | 5 => .long
  | 6 => .array .char
  | 7 => .int
  | 8 => .array .char
  | _ => .array .int
theorem nmX2 : ∀ a, a < 10 → ∀ b, b < 10 → a ≠ b → (TX2 a).2.1 ≠ (TX2 b).2.1 := by decide +kernel
theorem tyX2_ok : ∀ k, k < 10 → parseFieldDescriptor (TX2 k).2.2.1 = some (tyX2 k) := by decide +kernel
def RX3 : String := "LinkAuditor$Outline"
def TX3 : u_T := fun k => match k with
  | 0 => ("LinkAuditor$Outline", "own", "I", true)
  | 1 => ("LinkAuditor$Outline", "lines", "I", false)
  | 2 => ("LinkAuditor$Outline", "kind", "[I", true)
  | 3 => ("LinkAuditor$Outline", "name", "[J", true)
  | 4 => ("LinkAuditor$Outline", "target", "[I", true)
  | 5 => ("LinkAuditor$Outline", "shift", "[I", true)
  | 6 => ("LinkAuditor$Outline", "includes", "I", false)
  | 7 => ("LinkAuditor$Outline", "included", "I", false)
  | 8 => ("LinkAuditor$Outline", "links", "I", false)
  | 9 => ("LinkAuditor$Outline", "linkPage", "[I", true)
  | 10 => ("LinkAuditor$Outline", "linkAnchor", "[J", true)
  | 11 => ("LinkAuditor$Outline", "linkFrom", "[I", true)
  | 12 => ("LinkAuditor$Outline", "linkTo", "[I", true)
  | 13 => ("LinkAuditor$Outline", "sections", "I", false)
  | 14 => ("LinkAuditor$Outline", "sectionLines", "[I", true)
  | _ => ("LinkAuditor$Outline", "digest", "[I", true)
def tyX3 : Nat → FieldType := fun k => match k with
  | 0 => .int
  | 1 => .int
  | 2 => .array .int
  | 3 => .array .long
  | 4 => .array .int
  | 5 => .array .int
  | 6 => .int
  | 7 => .int
  | 8 => .int
  | 9 => .array .int
  | 10 => .array .long
  | 11 => .array .int
  | 12 => .array .int
  | 13 => .int
  | 14 => .array .int
  | _ => .array .int
theorem nmX3 : ∀ a, a < 16 → ∀ b, b < 16 → a ≠ b → (TX3 a).2.1 ≠ (TX3 b).2.1 := by decide +kernel
theorem tyX3_ok : ∀ k, k < 16 → parseFieldDescriptor (TX3 k).2.2.1 = some (tyX3 k) := by decide +kernel
def RX4 : String := "LinkAuditor$Reader"
def TX4 : u_T := fun k => match k with
  | 0 => ("LinkAuditor$Reader", "text", "[C", false)
  | 1 => ("LinkAuditor$Reader", "length", "I", false)
  | _ => ("LinkAuditor$Reader", "at", "I", false)
def tyX4 : Nat → FieldType := fun k => match k with
  | 0 => .array .char
  | 1 => .int
  | _ => .int
theorem nmX4 : ∀ a, a < 3 → ∀ b, b < 3 → a ≠ b → (TX4 a).2.1 ≠ (TX4 b).2.1 := by decide +kernel
theorem tyX4_ok : ∀ k, k < 3 → parseFieldDescriptor (TX4 k).2.2.1 = some (tyX4 k) := by decide +kernel
def RX5 : String := "LinkAuditor$Route"
def TX5 : u_T := fun k => match k with
  | 0 => ("LinkAuditor$Route", "site", "LLinkAuditor$Site;", true)
  | 1 => ("LinkAuditor$Route", "kind", "I", false)
  | 2 => ("LinkAuditor$Route", "page", "I", false)
  | 3 => ("LinkAuditor$Route", "anchor", "J", false)
  | 4 => ("LinkAuditor$Route", "heading", "I", false)
  | 5 => ("LinkAuditor$Route", "followed", "I", false)
  | 6 => ("LinkAuditor$Route", "pageAt", "[I", true)
  | 7 => ("LinkAuditor$Route", "anchorAt", "[J", true)
  | _ => ("LinkAuditor$Route", "redirectAt", "[I", true)
def tyX5 : Nat → FieldType := fun k => match k with
  | 0 => .object "LinkAuditor$Site"
  | 1 => .int
  | 2 => .int
  | 3 => .long
  | 4 => .int
  | 5 => .int
  | 6 => .array .int
  | 7 => .array .long
  | _ => .array .int
theorem nmX5 : ∀ a, a < 9 → ∀ b, b < 9 → a ≠ b → (TX5 a).2.1 ≠ (TX5 b).2.1 := by decide +kernel
theorem tyX5_ok : ∀ k, k < 9 → parseFieldDescriptor (TX5 k).2.2.1 = some (tyX5 k) := by decide +kernel
def RX6 : String := "LinkAuditor$Site"
def TX6 : u_T := fun k => match k with
  | 0 => ("LinkAuditor$Site", "now", "LLinkAuditor$State;", true)
  | 1 => ("LinkAuditor$Site", "outlines", "[LLinkAuditor$Outline;", true)
  | 2 => ("LinkAuditor$Site", "expansions", "[LLinkAuditor$Expansion;", true)
  | 3 => ("LinkAuditor$Site", "target", "[C", true)
  | _ => ("LinkAuditor$Site", "targetLength", "I", false)
def tyX6 : Nat → FieldType := fun k => match k with
  | 0 => .object "LinkAuditor$State"
  | 1 => .array (.object "LinkAuditor$Outline")
  | 2 => .array (.object "LinkAuditor$Expansion")
  | 3 => .array .char
  | _ => .int
theorem nmX6 : ∀ a, a < 5 → ∀ b, b < 5 → a ≠ b → (TX6 a).2.1 ≠ (TX6 b).2.1 := by decide +kernel
theorem tyX6_ok : ∀ k, k < 5 → parseFieldDescriptor (TX6 k).2.2.1 = some (tyX6 k) := by decide +kernel
def RX7 : String := "LinkAuditor$State"
def TX7 : u_T := fun k => match k with
  | 0 => ("LinkAuditor$State", "text", "[C", true)
  | 1 => ("LinkAuditor$State", "length", "[I", true)
  | 2 => ("LinkAuditor$State", "redirects", "I", false)
  | 3 => ("LinkAuditor$State", "fromPage", "[I", true)
  | 4 => ("LinkAuditor$State", "fromAnchor", "[J", true)
  | 5 => ("LinkAuditor$State", "toPage", "[I", true)
  | 6 => ("LinkAuditor$State", "toAnchor", "[J", true)
  | 7 => ("LinkAuditor$State", "entries", "I", false)
  | 8 => ("LinkAuditor$State", "entryPage", "[I", true)
  | 9 => ("LinkAuditor$State", "entryAnchor", "[J", true)
  | _ => ("LinkAuditor$State", "entryDigest", "[I", true)
def tyX7 : Nat → FieldType := fun k => match k with
  | 0 => .array .char
  | 1 => .array .int
  | 2 => .int
  | 3 => .array .int
  | 4 => .array .long
  | 5 => .array .int
  | 6 => .array .long
  | 7 => .int
  | 8 => .array .int
  | 9 => .array .long
  | _ => .array .int
theorem nmX7 : ∀ a, a < 11 → ∀ b, b < 11 → a ≠ b → (TX7 a).2.1 ≠ (TX7 b).2.1 := by decide +kernel
theorem tyX7_ok : ∀ k, k < 11 → parseFieldDescriptor (TX7 k).2.2.1 = some (tyX7 k) := by decide +kernel
def RX8 : String := "LinkAuditor"
def TX8 : u_T := fun k => match k with
  | 0 => ("LinkAuditor", "pad", "[C", true)
  | 1 => ("LinkAuditor", "padLength", "I", false)
  | 2 => ("LinkAuditor", "reader", "LLinkAuditor$Reader;", true)
  | 3 => ("LinkAuditor", "site", "LLinkAuditor$Site;", true)
  | 4 => ("LinkAuditor", "route", "LLinkAuditor$Route;", true)
  | 5 => ("LinkAuditor", "mender", "LLinkAuditor$Mender;", true)
  | 6 => ("LinkAuditor", "history", "[LLinkAuditor$State;", true)
  | 7 => ("LinkAuditor", "changes", "I", false)
  | _ => ("LinkAuditor", "spelling", "[C", true)
def tyX8 : Nat → FieldType := fun k => match k with
  | 0 => .array .char
  | 1 => .int
  | 2 => .object "LinkAuditor$Reader"
  | 3 => .object "LinkAuditor$Site"
  | 4 => .object "LinkAuditor$Route"
  | 5 => .object "LinkAuditor$Mender"
  | 6 => .array (.object "LinkAuditor$State")
  | 7 => .int
  | _ => .array .char
theorem nmX8 : ∀ a, a < 9 → ∀ b, b < 9 → a ≠ b → (TX8 a).2.1 ≠ (TX8 b).2.1 := by decide +kernel
theorem tyX8_ok : ∀ k, k < 9 → parseFieldDescriptor (TX8 k).2.2.1 = some (tyX8 k) := by decide +kernel
def RX9 : String := "LinkAuditorModel"
def TX9 : u_T := fun k => match k with
  | 0 => ("LinkAuditorModel", "pad", "[I", true)
  | 1 => ("LinkAuditorModel", "padMany", "I", false)
  | 2 => ("LinkAuditorModel", "all", "[I", true)
  | 3 => ("LinkAuditorModel", "undone", "[I", true)
  | 4 => ("LinkAuditorModel", "undos", "I", false)
  | 5 => ("LinkAuditorModel", "isLaid", "Z", false)
  | 6 => ("LinkAuditorModel", "at", "I", false)
  | 7 => ("LinkAuditorModel", "read", "[I", true)
  | 8 => ("LinkAuditorModel", "turn", "[I", true)
  | 9 => ("LinkAuditorModel", "lineMany", "[I", true)
  | 10 => ("LinkAuditorModel", "linePages", "[I", true)
  | 11 => ("LinkAuditorModel", "headingMany", "[I", true)
  | 12 => ("LinkAuditorModel", "headingLevel", "[I", true)
  | 13 => ("LinkAuditorModel", "headingPage", "[I", true)
  | 14 => ("LinkAuditorModel", "headingParts", "[I", true)
  | 15 => ("LinkAuditorModel", "anchors", "[I", true)
  | 16 => ("LinkAuditorModel", "names", "[I", true)
  | 17 => ("LinkAuditorModel", "sectionMany", "[I", true)
  | 18 => ("LinkAuditorModel", "sectionDigest", "[I", true)
  | 19 => ("LinkAuditorModel", "sectionHeading", "[I", true)
  | 20 => ("LinkAuditorModel", "sectionLines", "[I", true)
  | 21 => ("LinkAuditorModel", "includeMany", "[I", true)
  | 22 => ("LinkAuditorModel", "includes", "[I", true)
  | 23 => ("LinkAuditorModel", "linkMany", "[I", true)
  | 24 => ("LinkAuditorModel", "linkFrom", "[I", true)
  | 25 => ("LinkAuditorModel", "linkTo", "[I", true)
  | 26 => ("LinkAuditorModel", "linkPage", "[I", true)
  | 27 => ("LinkAuditorModel", "pilePage", "[I", true)
  | 28 => ("LinkAuditorModel", "pileAt", "[I", true)
  | 29 => ("LinkAuditorModel", "pileAdd", "[I", true)
  | 30 => ("LinkAuditorModel", "piled", "I", false)
  | 31 => ("LinkAuditorModel", "under", "I", false)
  | 32 => ("LinkAuditorModel", "counters", "[I", true)
  | 33 => ("LinkAuditorModel", "ownHeadings", "I", false)
  | 34 => ("LinkAuditorModel", "way", "[I", true)
  | 35 => ("LinkAuditorModel", "steps", "I", false)
  | 36 => ("LinkAuditorModel", "how", "I", false)
  | 37 => ("LinkAuditorModel", "endHeading", "I", false)
  | 38 => ("LinkAuditorModel", "followed", "[I", true)
  | 39 => ("LinkAuditorModel", "best", "I", false)
  | 40 => ("LinkAuditorModel", "bestPage", "I", false)
  | 41 => ("LinkAuditorModel", "bestHeading", "I", false)
  | 42 => ("LinkAuditorModel", "edits", "[I", true)
  | 43 => ("LinkAuditorModel", "target", "[I", true)
  | 44 => ("LinkAuditorModel", "targetMany", "I", false)
  | _ => ("LinkAuditorModel", "rest", "[I", true)
def tyX9 : Nat → FieldType := fun k => match k with
  | 0 => .array .int
  | 1 => .int
  | 2 => .array .int
  | 3 => .array .int
  | 4 => .int
  | 5 => .boolean
  | 6 => .int
  | 7 => .array .int
  | 8 => .array .int
  | 9 => .array .int
  | 10 => .array .int
  | 11 => .array .int
  | 12 => .array .int
  | 13 => .array .int
  | 14 => .array .int
  | 15 => .array .int
  | 16 => .array .int
  | 17 => .array .int
  | 18 => .array .int
  | 19 => .array .int
  | 20 => .array .int
  | 21 => .array .int
  | 22 => .array .int
  | 23 => .array .int
  | 24 => .array .int
  | 25 => .array .int
  | 26 => .array .int
  | 27 => .array .int
  | 28 => .array .int
  | 29 => .array .int
  | 30 => .int
  | 31 => .int
  | 32 => .array .int
  | 33 => .int
  | 34 => .array .int
  | 35 => .int
  | 36 => .int
  | 37 => .int
  | 38 => .array .int
  | 39 => .int
  | 40 => .int
  | 41 => .int
  | 42 => .array .int
  | 43 => .array .int
  | 44 => .int
  | _ => .array .int
theorem nmX9 : ∀ a, a < 46 → ∀ b, b < 46 → a ≠ b → (TX9 a).2.1 ≠ (TX9 b).2.1 := by decide +kernel
theorem tyX9_ok : ∀ k, k < 46 → parseFieldDescriptor (TX9 k).2.2.1 = some (tyX9 k) := by decide +kernel
theorem iX1 : ∀ w ∈ u_ws RX1 TX1 10, w ∈ lw_tbl := by decide +kernel
theorem iX2 : ∀ w ∈ u_ws RX2 TX2 10, w ∈ lw_tbl := by decide +kernel
theorem iX3 : ∀ w ∈ u_ws RX3 TX3 16, w ∈ lw_tbl := by decide +kernel
theorem iX4 : ∀ w ∈ u_ws RX4 TX4 3, w ∈ lw_tbl := by decide +kernel
theorem iX5 : ∀ w ∈ u_ws RX5 TX5 9, w ∈ lw_tbl := by decide +kernel
theorem iX6 : ∀ w ∈ u_ws RX6 TX6 5, w ∈ lw_tbl := by decide +kernel
theorem iX7 : ∀ w ∈ u_ws RX7 TX7 11, w ∈ lw_tbl := by decide +kernel
theorem iX8 : ∀ w ∈ u_ws RX8 TX8 9, w ∈ lw_tbl := by decide +kernel
theorem iX9 : ∀ w ∈ u_ws RX9 TX9 46, w ∈ lw_tbl := by decide +kernel
abbrev clsL : List vw_C := [(RX0, TX0, 0), (RX1, TX1, 10), (RX2, TX2, 10), (RX3, TX3, 16), (RX4, TX4, 3), (RX5, TX5, 9), (RX6, TX6, 5), (RX7, TX7, 11), (RX8, TX8, 9), (RX9, TX9, 46)]
abbrev cX0_nameIn : ByteArray := prog_2_method_2_code
def yX0_nameIn : MethodName := ⟨RX0, "nameIn", "([CII)J"⟩
def tb_0 : List (Nat × Instr × Nat) := [(0, .lconst 0, 1), (1, .lstore_n 3, 1), (2, .iload_n 1, 1), (3, .istore 5, 2), (5, .iload 5, 2), (7, .iload_n 2, 1), (8, .if_icmp .ge 47, 3), (11, .aload_n 0, 1), (12, .iload 5, 2), (14, .caload, 1), (15, .istore 6, 2), (17, .lload_n 3, 1), (18, .bipush 6, 2), (20, .lshl, 1), (21, .iload 6, 2), (23, .bipush 97, 2), (25, .if_icmp .lt 13, 3), (28, .iload 6, 2), (30, .bipush 97, 2), (32, .isub, 1), (33, .iconst 1, 1), (34, .iadd, 1), (35, .goto 11, 3), (38, .iload 6, 2), (40, .bipush 48, 2), (42, .isub, 1), (43, .bipush 27, 2), (45, .iadd, 1), (46, .i2l, 1), (47, .lor, 1), (48, .lstore_n 3, 1), (49, .iinc 5 1, 3), (52, .goto (-47), 3), (55, .lload_n 3, 1), (56, .lreturn, 1)]
abbrev cX0_numbered : ByteArray := prog_2_method_3_code
def yX0_numbered : MethodName := ⟨RX0, "numbered", "(JI)J"⟩
def tb_1 : List (Nat × Instr × Nat) := [(0, .lload_n 0, 1), (1, .bipush 7, 2), (3, .lshl, 1), (4, .iload_n 2, 1), (5, .i2l, 1), (6, .lor, 1), (7, .lreturn, 1)]
abbrev cX0_nameOf : ByteArray := prog_2_method_4_code
def yX0_nameOf : MethodName := ⟨RX0, "nameOf", "(J)J"⟩
def tb_2 : List (Nat × Instr × Nat) := [(0, .lload_n 0, 1), (1, .bipush 7, 2), (3, .lushr, 1), (4, .lreturn, 1)]
abbrev cX0_placeAnchor : ByteArray := prog_2_method_5_code
def yX0_placeAnchor : MethodName := ⟨RX0, "placeAnchor", "([CII)J"⟩
def tb_3 : List (Nat × Instr × Nat) := [(0, .aload_n 0, 1), (1, .iload_n 1, 1), (2, .iload_n 2, 1), (3, .bipush 35, 2), (5, .invokestatic 9, 3), (8, .istore_n 3, 1), (9, .iload_n 3, 1), (10, .iload_n 2, 1), (11, .if_icmp .lt 5, 3), (14, .lconst 0, 1), (15, .lreturn, 1), (16, .aload_n 0, 1), (17, .iload_n 3, 1), (18, .iload_n 2, 1), (19, .bipush 45, 2), (21, .invokestatic 9, 3), (24, .istore 4, 2), (26, .iconst 0, 1), (27, .istore 5, 2), (29, .iload 4, 2), (31, .iconst 1, 1), (32, .iadd, 1), (33, .istore 6, 2), (35, .iload 6, 2), (37, .iload_n 2, 1), (38, .if_icmp .ge 24, 3), (41, .iload 5, 2), (43, .bipush 10, 2), (45, .imul, 1), (46, .aload_n 0, 1), (47, .iload 6, 2), (49, .caload, 1), (50, .bipush 48, 2), (52, .isub, 1), (53, .iadd, 1), (54, .istore 5, 2), (56, .iinc 6 1, 3), (59, .goto (-24), 3), (62, .aload_n 0, 1), (63, .iload_n 3, 1), (64, .iconst 1, 1), (65, .iadd, 1), (66, .iload 4, 2), (68, .invokestatic 15, 3), (71, .iload 5, 2), (73, .invokestatic 19, 3), (76, .lreturn, 1)]
abbrev cX0_indexOf : ByteArray := prog_2_method_6_code
def yX0_indexOf : MethodName := ⟨RX0, "indexOf", "([CIIC)I"⟩
def tb_4 : List (Nat × Instr × Nat) := [(0, .iload_n 1, 1), (1, .istore 4, 2), (3, .iload 4, 2), (5, .iload_n 2, 1), (6, .if_icmp .ge 17, 3), (9, .aload_n 0, 1), (10, .iload 4, 2), (12, .caload, 1), (13, .iload_n 3, 1), (14, .if_icmp .eq 9, 3), (17, .iinc 4 1, 3), (20, .goto (-17), 3), (23, .iload 4, 2), (25, .ireturn, 1)]
abbrev cX0_spell : ByteArray := prog_2_method_7_code
def yX0_spell : MethodName := ⟨RX0, "spell", "(J[CI)I"⟩
def tb_5 : List (Nat × Instr × Nat) := [(0, .lload_n 0, 1), (1, .invokestatic 23, 3), (4, .lstore 4, 2), (6, .iconst 0, 1), (7, .istore 6, 2), (9, .iload 6, 2), (11, .bipush 8, 2), (13, .if_icmp .ge 22, 3), (16, .lload 4, 2), (18, .bipush 6, 2), (20, .iload 6, 2), (22, .imul, 1), (23, .lushr, 1), (24, .lconst 0, 1), (25, .lcmp, 1), (26, .ifCond .eq 9, 3), (29, .iinc 6 1, 3), (32, .goto (-23), 3), (35, .iload_n 3, 1), (36, .istore 7, 2), (38, .iload 6, 2), (40, .iconst 1, 1), (41, .isub, 1), (42, .istore 8, 2), (44, .iload 8, 2), (46, .ifCond .lt 57, 3), (49, .lload 4, 2), (51, .bipush 6, 2), (53, .iload 8, 2), (55, .imul, 1), (56, .lushr, 1), (57, .ldc2_w 27, 3), (60, .land, 1), (61, .l2i, 1), (62, .istore 9, 2), (64, .aload_n 2, 1), (65, .iload 7, 2), (67, .iload 9, 2), (69, .bipush 26, 2), (71, .if_icmp .gt 13, 3), (74, .bipush 97, 2), (76, .iload 9, 2), (78, .iadd, 1), (79, .iconst 1, 1), (80, .isub, 1), (81, .goto 11, 3), (84, .bipush 48, 2), (86, .iload 9, 2), (88, .iadd, 1), (89, .bipush 27, 2), (91, .isub, 1), (92, .i2c, 1), (93, .castore, 1), (94, .iinc 7 1, 3), (97, .iinc 8 (-1), 3), (100, .goto (-56), 3), (103, .iload 7, 2), (105, .iload_n 3, 1), (106, .isub, 1), (107, .lload_n 0, 1), (108, .ldc2_w 29, 3), (111, .land, 1), (112, .l2i, 1), (113, .aload_n 2, 1), (114, .iload 7, 2), (116, .invokestatic 31, 3), (119, .iadd, 1), (120, .ireturn, 1)]
abbrev cX0_spellNumber : ByteArray := prog_2_method_8_code
def yX0_spellNumber : MethodName := ⟨RX0, "spellNumber", "(I[CI)I"⟩
def tb_6 : List (Nat × Instr × Nat) := [(0, .iload_n 0, 1), (1, .ifCond .ne 5, 3), (4, .iconst 0, 1), (5, .ireturn, 1), (6, .iload_n 2, 1), (7, .istore_n 3, 1), (8, .aload_n 1, 1), (9, .iload_n 3, 1), (10, .bipush 45, 2), (12, .castore, 1), (13, .iinc 3 1, 3), (16, .iload_n 0, 1), (17, .bipush 10, 2), (19, .if_icmp .lt 17, 3), (22, .aload_n 1, 1), (23, .iload_n 3, 1), (24, .bipush 48, 2), (26, .iload_n 0, 1), (27, .bipush 10, 2), (29, .idiv, 1), (30, .iadd, 1), (31, .i2c, 1), (32, .castore, 1), (33, .iinc 3 1, 3), (36, .aload_n 1, 1), (37, .iload_n 3, 1), (38, .bipush 48, 2), (40, .iload_n 0, 1), (41, .bipush 10, 2), (43, .irem, 1), (44, .iadd, 1), (45, .i2c, 1), (46, .castore, 1), (47, .iload_n 3, 1), (48, .iconst 1, 1), (49, .iadd, 1), (50, .iload_n 2, 1), (51, .isub, 1), (52, .ireturn, 1)]
abbrev cX1_init : ByteArray := prog_3_method_1_code
def yX1_init : MethodName := ⟨RX1, "<init>", "()V"⟩
def tb_7 : List (Nat × Instr × Nat) := [(0, .aload_n 0, 1), (1, .invokespecial 3, 3), (4, .aload_n 0, 1), (5, .iconst 0, 1), (6, .putfield 9, 3), (9, .aload_n 0, 1), (10, .iconst 0, 1), (11, .putfield 15, 3), (14, .aload_n 0, 1), (15, .iconst 0, 1), (16, .putfield 18, 3), (19, .aload_n 0, 1), (20, .bipush 100, 2), (22, .newarray .int, 2), (24, .putfield 21, 3), (27, .aload_n 0, 1), (28, .bipush 100, 2), (30, .newarray .int, 2), (32, .putfield 25, 3), (35, .aload_n 0, 1), (36, .bipush 100, 2), (38, .newarray .long, 2), (40, .putfield 28, 3), (43, .aload_n 0, 1), (44, .bipush 100, 2), (46, .newarray .int, 2), (48, .putfield 32, 3), (51, .aload_n 0, 1), (52, .bipush 53, 2), (54, .newarray .int, 2), (56, .putfield 35, 3), (59, .aload_n 0, 1), (60, .iconst 0, 1), (61, .putfield 38, 3), (64, .aload_n 0, 1), (65, .iconst 0, 1), (66, .putfield 41, 3), (69, .return_, 1)]
abbrev cX1_build : ByteArray := prog_3_method_2_code
def yX1_build : MethodName := ⟨RX1, "build", "([LLinkAuditor$Outline;I)V"⟩
def tb_8 : List (Nat × Instr × Nat) := [(0, .aload_n 0, 1), (1, .iconst 0, 1), (2, .putfield 9, 3), (5, .aload_n 0, 1), (6, .iconst 0, 1), (7, .putfield 15, 3), (10, .aload_n 0, 1), (11, .iconst 0, 1), (12, .putfield 18, 3), (15, .aload_n 0, 1), (16, .iconst 0, 1), (17, .putfield 38, 3), (20, .aload_n 0, 1), (21, .iconst 0, 1), (22, .putfield 41, 3), (25, .iconst 0, 1), (26, .istore_n 3, 1), (27, .iload_n 3, 1), (28, .aload_n 1, 1), (29, .iload_n 2, 1), (30, .aaload, 1), (31, .getfield 44, 3), (34, .if_icmp .ge 17, 3), (37, .aload_n 0, 1), (38, .getfield 35, 3), (41, .iload_n 3, 1), (42, .bipush (-6), 2), (44, .iastore, 1), (45, .iinc 3 1, 3), (48, .goto (-21), 3), (51, .aload_n 0, 1), (52, .aload_n 1, 1), (53, .iload_n 2, 1), (54, .iconst 0, 1), (55, .iconst 0, 1), (56, .invokevirtual 49, 3), (59, .return_, 1)]
abbrev cX1_addPage : ByteArray := prog_3_method_3_code
def yX1_addPage : MethodName := ⟨RX1, "addPage", "([LLinkAuditor$Outline;III)V"⟩
def tb_9 : List (Nat × Instr × Nat) := [(0, .iload 4, 2), (2, .bipush 12, 2), (4, .if_icmp .lt 4, 3), (7, .return_, 1), (8, .aload_n 1, 1), (9, .iload_n 2, 1), (10, .aaload, 1), (11, .astore 5, 2), (13, .iconst 0, 1), (14, .istore 6, 2), (16, .aload_n 0, 1), (17, .dup, 1), (18, .getfield 41, 3), (21, .iconst 1, 1), (22, .iload_n 2, 1), (23, .ishl, 1), (24, .ior, 1), (25, .putfield 41, 3), (28, .iconst 0, 1), (29, .istore 7, 2), (31, .iload 7, 2), (33, .aload 5, 2), (35, .getfield 53, 3), (38, .if_icmp .ge 149, 3), (41, .aload_n 0, 1), (42, .getfield 9, 3), (45, .bipush 100, 2), (47, .if_icmp .ge 140, 3), (50, .aload 5, 2), (52, .getfield 54, 3), (55, .iload 7, 2), (57, .iaload, 1), (58, .istore 8, 2), (60, .iload 8, 2), (62, .iconst (-1), 1), (63, .if_icmp .ne 59, 3), (66, .aload_n 0, 1), (67, .aload_n 1, 1), (68, .aload 5, 2), (70, .getfield 57, 3), (73, .iload 7, 2), (75, .iaload, 1), (76, .invokevirtual 60, 3), (79, .ifCond .eq 102, 3), (82, .aload_n 0, 1), (83, .dup, 1), (84, .getfield 38, 3), (87, .iconst 1, 1), (88, .iadd, 1), (89, .putfield 38, 3), (92, .aload_n 0, 1), (93, .aload_n 1, 1), (94, .aload 5, 2), (96, .getfield 57, 3), (99, .iload 7, 2), (101, .iaload, 1), (102, .iload_n 3, 1), (103, .aload 5, 2), (105, .getfield 64, 3), (108, .iload 7, 2), (110, .iaload, 1), (111, .iadd, 1), (112, .iload 4, 2), (114, .iconst 1, 1), (115, .iadd, 1), (116, .invokevirtual 49, 3), (119, .goto 62, 3), (122, .aload_n 0, 1), (123, .dup, 1), (124, .getfield 9, 3), (127, .iconst 1, 1), (128, .iadd, 1), (129, .putfield 9, 3), (132, .aload_n 0, 1), (133, .dup, 1), (134, .getfield 15, 3), (137, .iconst 1, 1), (138, .iload_n 2, 1), (139, .ishl, 1), (140, .ior, 1), (141, .putfield 15, 3), (144, .iload 8, 2), (146, .ifCond .eq 35, 3), (149, .aload_n 0, 1), (150, .aload 5, 2), (152, .getfield 67, 3), (155, .iload 7, 2), (157, .laload, 1), (158, .iload 8, 2), (160, .iload_n 3, 1), (161, .iadd, 1), (162, .iload_n 2, 1), (163, .iload 4, 2), (165, .ifCond .ne 8, 3), (168, .iload 6, 2), (170, .goto 5, 3), (173, .bipush (-6), 2), (175, .invokevirtual 70, 3), (178, .iinc 6 1, 3), (181, .iinc 7 1, 3), (184, .goto (-153), 3), (187, .aload_n 0, 1), (188, .dup, 1), (189, .getfield 41, 3), (192, .iconst 1, 1), (193, .iload_n 2, 1), (194, .ishl, 1), (195, .iconst (-1), 1), (196, .ixor, 1), (197, .iand, 1), (198, .putfield 41, 3), (201, .return_, 1)]
abbrev cX1_isReplaced : ByteArray := prog_3_method_4_code
def yX1_isReplaced : MethodName := ⟨RX1, "isReplaced", "([LLinkAuditor$Outline;I)Z"⟩
def tb_10 : List (Nat × Instr × Nat) := [(0, .aload_n 0, 1), (1, .getfield 38, 3), (4, .sipush 200, 3), (7, .if_icmp .ge 27, 3), (10, .aload_n 1, 1), (11, .iload_n 2, 1), (12, .aaload, 1), (13, .getfield 53, 3), (16, .ifCond .le 18, 3), (19, .aload_n 0, 1), (20, .getfield 41, 3), (23, .iload_n 2, 1), (24, .invokestatic 74, 3), (27, .ifCond .ne 7, 3), (30, .iconst 1, 1), (31, .goto 4, 3), (34, .iconst 0, 1), (35, .ireturn, 1)]
abbrev cX1_addHeading : ByteArray := prog_3_method_5_code
def yX1_addHeading : MethodName := ⟨RX1, "addHeading", "(JIII)V"⟩
def tb_11 : List (Nat × Instr × Nat) := [(0, .aload_n 0, 1), (1, .getfield 18, 3), (4, .bipush 100, 2), (6, .if_icmp .lt 4, 3), (9, .return_, 1), (10, .aload_n 0, 1), (11, .getfield 21, 3), (14, .aload_n 0, 1), (15, .getfield 18, 3), (18, .iload_n 3, 1), (19, .iastore, 1), (20, .aload_n 0, 1), (21, .getfield 25, 3), (24, .aload_n 0, 1), (25, .getfield 18, 3), (28, .iload 4, 2), (30, .iastore, 1), (31, .aload_n 0, 1), (32, .getfield 28, 3), (35, .aload_n 0, 1), (36, .getfield 18, 3), (39, .lload_n 1, 1), (40, .aload_n 0, 1), (41, .lload_n 1, 1), (42, .invokevirtual 78, 3), (45, .invokestatic 82, 3), (48, .lastore, 1), (49, .aload_n 0, 1), (50, .getfield 32, 3), (53, .aload_n 0, 1), (54, .getfield 18, 3), (57, .iload 5, 2), (59, .iastore, 1), (60, .iload 5, 2), (62, .ifCond .lt 21, 3), (65, .iload 5, 2), (67, .bipush 53, 2), (69, .if_icmp .ge 14, 3), (72, .aload_n 0, 1), (73, .getfield 35, 3), (76, .iload 5, 2), (78, .aload_n 0, 1), (79, .getfield 18, 3), (82, .iastore, 1), (83, .aload_n 0, 1), (84, .dup, 1), (85, .getfield 18, 3), (88, .iconst 1, 1), (89, .iadd, 1), (90, .putfield 18, 3), (93, .return_, 1)]
abbrev cX1_headingsNamed : ByteArray := prog_3_method_6_code
def yX1_headingsNamed : MethodName := ⟨RX1, "headingsNamed", "(J)I"⟩
def tb_12 : List (Nat × Instr × Nat) := [(0, .iconst 0, 1), (1, .istore_n 3, 1), (2, .iconst 0, 1), (3, .istore 4, 2), (5, .iload 4, 2), (7, .aload_n 0, 1), (8, .getfield 18, 3), (11, .if_icmp .ge 27, 3), (14, .aload_n 0, 1), (15, .getfield 28, 3), (18, .iload 4, 2), (20, .laload, 1), (21, .invokestatic 88, 3), (24, .lload_n 1, 1), (25, .lcmp, 1), (26, .ifCond .ne 6, 3), (29, .iinc 3 1, 3), (32, .iinc 4 1, 3), (35, .goto (-30), 3), (38, .iload_n 3, 1), (39, .ireturn, 1)]
abbrev cX1_headingWith : ByteArray := prog_3_method_7_code
def yX1_headingWith : MethodName := ⟨RX1, "headingWith", "(J)I"⟩
def tb_13 : List (Nat × Instr × Nat) := [(0, .iconst 0, 1), (1, .istore_n 3, 1), (2, .iload_n 3, 1), (3, .aload_n 0, 1), (4, .getfield 18, 3), (7, .if_icmp .ge 22, 3), (10, .aload_n 0, 1), (11, .getfield 28, 3), (14, .iload_n 3, 1), (15, .laload, 1), (16, .lload_n 1, 1), (17, .lcmp, 1), (18, .ifCond .ne 5, 3), (21, .iload_n 3, 1), (22, .ireturn, 1), (23, .iinc 3 1, 3), (26, .goto (-24), 3), (29, .bipush (-6), 2), (31, .ireturn, 1)]
abbrev cX1_partOf : ByteArray := prog_3_method_8_code
def yX1_partOf : MethodName := ⟨RX1, "partOf", "(II)I"⟩
def tb_14 : List (Nat × Instr × Nat) := [(0, .iconst 0, 1), (1, .istore_n 3, 1), (2, .iload_n 1, 1), (3, .istore 4, 2), (5, .iload 4, 2), (7, .ifCond .lt 34, 3), (10, .aload_n 0, 1), (11, .getfield 21, 3), (14, .iload 4, 2), (16, .iaload, 1), (17, .iload_n 2, 1), (18, .if_icmp .lt 23, 3), (21, .aload_n 0, 1), (22, .getfield 21, 3), (25, .iload 4, 2), (27, .iaload, 1), (28, .iload_n 2, 1), (29, .if_icmp .ne 6, 3), (32, .iinc 3 1, 3), (35, .iinc 4 (-1), 3), (38, .goto (-33), 3), (41, .iload_n 3, 1), (42, .ireturn, 1)]
abbrev cX2_init : ByteArray := prog_4_method_1_code
def yX2_init : MethodName := ⟨RX2, "<init>", "(LLinkAuditor$Site;)V"⟩
def tb_15 : List (Nat × Instr × Nat) := [(0, .aload_n 0, 1), (1, .invokespecial 3, 3), (4, .aload_n 0, 1), (5, .sipush 1000, 3), (8, .putfield 11, 3), (11, .aload_n 0, 1), (12, .iconst 0, 1), (13, .putfield 15, 3), (16, .aload_n 0, 1), (17, .bipush (-6), 2), (19, .putfield 18, 3), (22, .aload_n 0, 1), (23, .lconst 0, 1), (24, .putfield 21, 3), (27, .aload_n 0, 1), (28, .lconst 0, 1), (29, .putfield 25, 3), (32, .aload_n 0, 1), (33, .bipush 11, 2), (35, .newarray .char, 2), (37, .putfield 28, 3), (40, .aload_n 0, 1), (41, .iconst 0, 1), (42, .putfield 32, 3), (45, .aload_n 0, 1), (46, .bipush 11, 2), (48, .newarray .char, 2), (50, .putfield 35, 3), (53, .aload_n 0, 1), (54, .bipush 12, 2), (56, .newarray .int, 2), (58, .putfield 38, 3), (61, .aload_n 0, 1), (62, .aload_n 1, 1), (63, .putfield 42, 3), (66, .return_, 1)]
abbrev cX2_find : ByteArray := prog_4_method_2_code
def yX2_find : MethodName := ⟨RX2, "find", "(LLinkAuditor$Outline;I)V"⟩
def tb_16 : List (Nat × Instr × Nat) := [(0, .aload_n 1, 1), (1, .getfield 46, 3), (4, .iload_n 2, 1), (5, .iaload, 1), (6, .istore_n 3, 1), (7, .aload_n 0, 1), (8, .aload_n 1, 1), (9, .getfield 51, 3), (12, .iload_n 2, 1), (13, .laload, 1), (14, .putfield 25, 3), (17, .aload_n 0, 1), (18, .aload_n 0, 1), (19, .getfield 25, 3), (22, .aload_n 0, 1), (23, .getfield 28, 3), (26, .iconst 0, 1), (27, .invokestatic 55, 3), (30, .putfield 32, 3), (33, .aload_n 0, 1), (34, .sipush 1000, 3), (37, .putfield 11, 3), (40, .aload_n 0, 1), (41, .iload_n 3, 1), (42, .putfield 15, 3), (45, .aload_n 0, 1), (46, .bipush (-6), 2), (48, .putfield 18, 3), (51, .aload_n 0, 1), (52, .lconst 0, 1), (53, .putfield 21, 3), (56, .aload_n 0, 1), (57, .getfield 42, 3), (60, .getfield 61, 3), (63, .iload_n 3, 1), (64, .aload_n 0, 1), (65, .getfield 25, 3), (68, .invokevirtual 67, 3), (71, .istore 4, 2), (73, .iload 4, 2), (75, .bipush (-6), 2), (77, .if_icmp .ne 7, 3), (80, .iconst (-1), 1), (81, .goto 16, 3), (84, .aload_n 0, 1), (85, .getfield 42, 3), (88, .getfield 61, 3), (91, .getfield 73, 3), (94, .iload 4, 2), (96, .iaload, 1), (97, .istore 5, 2), (99, .iconst 0, 1), (100, .istore 6, 2), (102, .iload 6, 2), (104, .bipush 12, 2), (106, .if_icmp .ge 94, 3), (109, .aload_n 0, 1), (110, .getfield 42, 3), (113, .getfield 61, 3), (116, .iload 6, 2), (118, .invokevirtual 76, 3), (121, .ifCond .ne 6, 3), (124, .goto 70, 3), (127, .aload_n 0, 1), (128, .getfield 25, 3), (131, .lconst 0, 1), (132, .lcmp, 1), (133, .ifCond .ne 24, 3), (136, .aload_n 0, 1), (137, .iconst 4, 1), (138, .iload 6, 2), (140, .iload_n 3, 1), (141, .isub, 1), (142, .invokestatic 80, 3), (145, .iadd, 1), (146, .iload 6, 2), (148, .bipush (-6), 2), (150, .lconst 0, 1), (151, .invokevirtual 86, 3), (154, .goto 40, 3), (157, .iload 6, 2), (159, .iload_n 3, 1), (160, .if_icmp .ne 7, 3), (163, .iconst 0, 1), (164, .goto 4, 3), (167, .iconst 4, 1), (168, .istore 7, 2), (170, .aload_n 0, 1), (171, .bipush 6, 2), (173, .iload 7, 2), (175, .iadd, 1), (176, .iload 6, 2), (178, .bipush (-6), 2), (180, .lconst 0, 1), (181, .invokevirtual 86, 3), (184, .aload_n 0, 1), (185, .iload 6, 2), (187, .iload 7, 2), (189, .iload 5, 2), (191, .invokevirtual 90, 3), (194, .iinc 6 1, 3), (197, .goto (-95), 3), (200, .return_, 1)]
abbrev cX2_offerHeadings : ByteArray := prog_4_method_3_code
def yX2_offerHeadings : MethodName := ⟨RX2, "offerHeadings", "(III)V"⟩
def tb_17 : List (Nat × Instr × Nat) := [(0, .aload_n 0, 1), (1, .getfield 42, 3), (4, .getfield 94, 3), (7, .iload_n 1, 1), (8, .aaload, 1), (9, .astore 4, 2), (11, .iconst 0, 1), (12, .istore 5, 2), (14, .iload 5, 2), (16, .aload 4, 2), (18, .getfield 98, 3), (21, .if_icmp .ge 109, 3), (24, .aload 4, 2), (26, .getfield 103, 3), (29, .iload 5, 2), (31, .laload, 1), (32, .lstore 6, 2), (34, .aload 4, 2), (36, .getfield 105, 3), (39, .iload 5, 2), (41, .iaload, 1), (42, .istore 8, 2), (44, .iload 8, 2), (46, .bipush (-6), 2), (48, .if_icmp .eq 35, 3), (51, .aload_n 0, 1), (52, .getfield 42, 3), (55, .getfield 108, 3), (58, .iload_n 1, 1), (59, .aaload, 1), (60, .getfield 112, 3), (63, .iload 8, 2), (65, .iaload, 1), (66, .iload_n 3, 1), (67, .if_icmp .ne 16, 3), (70, .aload_n 0, 1), (71, .iconst 1, 1), (72, .iload_n 1, 1), (73, .iload 5, 2), (75, .lload 6, 2), (77, .invokevirtual 86, 3), (80, .goto 44, 3), (83, .iload_n 2, 1), (84, .aload_n 0, 1), (85, .getfield 11, 3), (88, .if_icmp .ge 36, 3), (91, .aload_n 0, 1), (92, .getfield 11, 3), (95, .iload_n 2, 1), (96, .isub, 1), (97, .iconst 1, 1), (98, .iadd, 1), (99, .iconst 2, 1), (100, .idiv, 1), (101, .istore 9, 2), (103, .aload_n 0, 1), (104, .iconst 2, 1), (105, .aload_n 0, 1), (106, .lload 6, 2), (108, .iload 9, 2), (110, .invokevirtual 115, 3), (113, .imul, 1), (114, .iload_n 2, 1), (115, .iadd, 1), (116, .iload_n 1, 1), (117, .iload 5, 2), (119, .lload 6, 2), (121, .invokevirtual 86, 3), (124, .iinc 5 1, 3), (127, .goto (-113), 3), (130, .return_, 1)]
abbrev cX2_offer : ByteArray := prog_4_method_4_code
def yX2_offer : MethodName := ⟨RX2, "offer", "(IIIJ)V"⟩
def tb_18 : List (Nat × Instr × Nat) := [(0, .iload_n 1, 1), (1, .aload_n 0, 1), (2, .getfield 11, 3), (5, .if_icmp .ge 24, 3), (8, .aload_n 0, 1), (9, .iload_n 1, 1), (10, .putfield 11, 3), (13, .aload_n 0, 1), (14, .iload_n 2, 1), (15, .putfield 15, 3), (18, .aload_n 0, 1), (19, .iload_n 3, 1), (20, .putfield 18, 3), (23, .aload_n 0, 1), (24, .lload 4, 2), (26, .putfield 21, 3), (29, .return_, 1)]
abbrev cX2_stepsTo : ByteArray := prog_4_method_5_code
def yX2_stepsTo : MethodName := ⟨RX2, "stepsTo", "(JI)I"⟩
def tb_19 : List (Nat × Instr × Nat) := [(0, .lload_n 1, 1), (1, .aload_n 0, 1), (2, .getfield 25, 3), (5, .lcmp, 1), (6, .ifCond .ne 5, 3), (9, .iconst 0, 1), (10, .ireturn, 1), (11, .iload_n 3, 1), (12, .iconst 1, 1), (13, .if_icmp .gt 5, 3), (16, .iload_n 3, 1), (17, .ireturn, 1), (18, .lload_n 1, 1), (19, .aload_n 0, 1), (20, .getfield 35, 3), (23, .iconst 0, 1), (24, .invokestatic 55, 3), (27, .istore 4, 2), (29, .aload_n 0, 1), (30, .getfield 32, 3), (33, .iload 4, 2), (35, .isub, 1), (36, .invokestatic 80, 3), (39, .iload_n 3, 1), (40, .if_icmp .lt 5, 3), (43, .iload_n 3, 1), (44, .ireturn, 1), (45, .iconst 0, 1), (46, .istore 5, 2), (48, .iload 5, 2), (50, .iload 4, 2), (52, .if_icmp .gt 18, 3), (55, .aload_n 0, 1), (56, .getfield 38, 3), (59, .iload 5, 2), (61, .iload 5, 2), (63, .iastore, 1), (64, .iinc 5 1, 3), (67, .goto (-19), 3), (70, .iconst 1, 1), (71, .istore 5, 2), (73, .iload 5, 2), (75, .aload_n 0, 1), (76, .getfield 32, 3), (79, .if_icmp .gt 23, 3), (82, .aload_n 0, 1), (83, .iload 5, 2), (85, .iload 4, 2), (87, .invokevirtual 119, 3), (90, .iload_n 3, 1), (91, .if_icmp .lt 5, 3), (94, .iload_n 3, 1), (95, .ireturn, 1), (96, .iinc 5 1, 3), (99, .goto (-26), 3), (102, .aload_n 0, 1), (103, .getfield 38, 3), (106, .iload 4, 2), (108, .iaload, 1), (109, .ireturn, 1)]
abbrev cX2_fillRow : ByteArray := prog_4_method_6_code
def yX2_fillRow : MethodName := ⟨RX2, "fillRow", "(II)I"⟩
def tb_20 : List (Nat × Instr × Nat) := [(0, .aload_n 0, 1), (1, .getfield 38, 3), (4, .iconst 0, 1), (5, .iaload, 1), (6, .istore_n 3, 1), (7, .aload_n 0, 1), (8, .getfield 38, 3), (11, .iconst 0, 1), (12, .iload_n 1, 1), (13, .iastore, 1), (14, .iload_n 1, 1), (15, .istore 4, 2), (17, .iconst 1, 1), (18, .istore 5, 2), (20, .iload 5, 2), (22, .iload_n 2, 1), (23, .if_icmp .gt 87, 3), (26, .iload_n 3, 1), (27, .aload_n 0, 1), (28, .getfield 28, 3), (31, .iload_n 1, 1), (32, .iconst 1, 1), (33, .isub, 1), (34, .caload, 1), (35, .aload_n 0, 1), (36, .getfield 35, 3), (39, .iload 5, 2), (41, .iconst 1, 1), (42, .isub, 1), (43, .caload, 1), (44, .if_icmp .ne 7, 3), (47, .iconst 0, 1), (48, .goto 4, 3), (51, .iconst 1, 1), (52, .iadd, 1), (53, .istore 6, 2), (55, .aload_n 0, 1), (56, .getfield 38, 3), (59, .iload 5, 2), (61, .iaload, 1), (62, .istore_n 3, 1), (63, .aload_n 0, 1), (64, .getfield 38, 3), (67, .iload 5, 2), (69, .iload 6, 2), (71, .iconst 1, 1), (72, .iload_n 3, 1), (73, .aload_n 0, 1), (74, .getfield 38, 3), (77, .iload 5, 2), (79, .iconst 1, 1), (80, .isub, 1), (81, .iaload, 1), (82, .invokestatic 123, 3), (85, .iadd, 1), (86, .invokestatic 123, 3), (89, .iastore, 1), (90, .iload 4, 2), (92, .aload_n 0, 1), (93, .getfield 38, 3), (96, .iload 5, 2), (98, .iaload, 1), (99, .invokestatic 123, 3), (102, .istore 4, 2), (104, .iinc 5 1, 3), (107, .goto (-87), 3), (110, .iload 4, 2), (112, .ireturn, 1)]
abbrev cX3_init : ByteArray := prog_5_method_1_code
def yX3_init : MethodName := ⟨RX3, "<init>", "(I)V"⟩
def tb_21 : List (Nat × Instr × Nat) := [(0, .aload_n 0, 1), (1, .invokespecial 3, 3), (4, .aload_n 0, 1), (5, .iconst 0, 1), (6, .putfield 9, 3), (9, .aload_n 0, 1), (10, .bipush 80, 2), (12, .newarray .int, 2), (14, .putfield 15, 3), (17, .aload_n 0, 1), (18, .bipush 80, 2), (20, .newarray .long, 2), (22, .putfield 19, 3), (25, .aload_n 0, 1), (26, .bipush 80, 2), (28, .newarray .int, 2), (30, .putfield 23, 3), (33, .aload_n 0, 1), (34, .bipush 80, 2), (36, .newarray .int, 2), (38, .putfield 26, 3), (41, .aload_n 0, 1), (42, .iconst 0, 1), (43, .putfield 29, 3), (46, .aload_n 0, 1), (47, .iconst 0, 1), (48, .putfield 32, 3), (51, .aload_n 0, 1), (52, .iconst 0, 1), (53, .putfield 35, 3), (56, .aload_n 0, 1), (57, .bipush 40, 2), (59, .newarray .int, 2), (61, .putfield 38, 3), (64, .aload_n 0, 1), (65, .bipush 40, 2), (67, .newarray .long, 2), (69, .putfield 41, 3), (72, .aload_n 0, 1), (73, .bipush 40, 2), (75, .newarray .int, 2), (77, .putfield 44, 3), (80, .aload_n 0, 1), (81, .bipush 40, 2), (83, .newarray .int, 2), (85, .putfield 47, 3), (88, .aload_n 0, 1), (89, .iconst 0, 1), (90, .putfield 50, 3), (93, .aload_n 0, 1), (94, .bipush 53, 2), (96, .newarray .int, 2), (98, .putfield 53, 3), (101, .aload_n 0, 1), (102, .bipush 53, 2), (104, .newarray .int, 2), (106, .putfield 56, 3), (109, .aload_n 0, 1), (110, .iload_n 1, 1), (111, .putfield 59, 3), (114, .return_, 1)]
abbrev cX3_read : ByteArray := prog_5_method_2_code
def yX3_read : MethodName := ⟨RX3, "read", "([CII)V"⟩
def tb_22 : List (Nat × Instr × Nat) := [(0, .aload_n 0, 1), (1, .iconst 0, 1), (2, .putfield 9, 3), (5, .aload_n 0, 1), (6, .iconst 0, 1), (7, .putfield 29, 3), (10, .aload_n 0, 1), (11, .iconst 0, 1), (12, .putfield 32, 3), (15, .aload_n 0, 1), (16, .iconst 0, 1), (17, .putfield 35, 3), (20, .aload_n 0, 1), (21, .iconst 0, 1), (22, .putfield 50, 3), (25, .iload_n 2, 1), (26, .istore 4, 2), (28, .aload_n 0, 1), (29, .getfield 9, 3), (32, .bipush 80, 2), (34, .if_icmp .ge 48, 3), (37, .iload 4, 2), (39, .iload_n 3, 1), (40, .if_icmp .ge 42, 3), (43, .aload_n 1, 1), (44, .iload 4, 2), (46, .iload_n 3, 1), (47, .bipush 59, 2), (49, .invokestatic 62, 3), (52, .istore 5, 2), (54, .aload_n 0, 1), (55, .aload_n 1, 1), (56, .iload 4, 2), (58, .iload 5, 2), (60, .invokevirtual 68, 3), (63, .aload_n 0, 1), (64, .dup, 1), (65, .getfield 9, 3), (68, .iconst 1, 1), (69, .iadd, 1), (70, .putfield 9, 3), (73, .iload 5, 2), (75, .iconst 1, 1), (76, .iadd, 1), (77, .istore 4, 2), (79, .goto (-51), 3), (82, .aload_n 0, 1), (83, .aload_n 1, 1), (84, .iload_n 2, 1), (85, .iload_n 3, 1), (86, .invokevirtual 72, 3), (89, .return_, 1)]
abbrev cX3_addLine : ByteArray := prog_5_method_3_code
def yX3_addLine : MethodName := ⟨RX3, "addLine", "([CII)V"⟩
def tb_23 : List (Nat × Instr × Nat) := [(0, .aload_n 1, 1), (1, .iload_n 2, 1), (2, .caload, 1), (3, .bipush 61, 2), (5, .if_icmp .ne 11, 3), (8, .aload_n 0, 1), (9, .aload_n 1, 1), (10, .iload_n 2, 1), (11, .iload_n 3, 1), (12, .invokevirtual 75, 3), (15, .return_, 1), (16, .aload_n 1, 1), (17, .iload_n 2, 1), (18, .caload, 1), (19, .bipush 123, 2), (21, .if_icmp .ne 13, 3), (24, .aload_n 0, 1), (25, .aload_n 1, 1), (26, .iload_n 2, 1), (27, .iload_n 3, 1), (28, .invokevirtual 78, 3), (31, .goto 13, 3), (34, .aload_n 0, 1), (35, .getfield 15, 3), (38, .aload_n 0, 1), (39, .getfield 9, 3), (42, .iconst 0, 1), (43, .iastore, 1), (44, .aload_n 0, 1), (45, .getfield 50, 3), (48, .ifCond .le 10, 3), (51, .aload_n 0, 1), (52, .aload_n 1, 1), (53, .iload_n 2, 1), (54, .iload_n 3, 1), (55, .invokevirtual 81, 3), (58, .return_, 1)]
abbrev cX3_addHeading : ByteArray := prog_5_method_4_code
def yX3_addHeading : MethodName := ⟨RX3, "addHeading", "([CII)V"⟩
def tb_24 : List (Nat × Instr × Nat) := [(0, .iload_n 2, 1), (1, .istore 4, 2), (3, .iload 4, 2), (5, .iload_n 3, 1), (6, .if_icmp .ge 18, 3), (9, .aload_n 1, 1), (10, .iload 4, 2), (12, .caload, 1), (13, .bipush 61, 2), (15, .if_icmp .ne 9, 3), (18, .iinc 4 1, 3), (21, .goto (-18), 3), (24, .aload_n 0, 1), (25, .getfield 15, 3), (28, .aload_n 0, 1), (29, .getfield 9, 3), (32, .iload 4, 2), (34, .iload_n 2, 1), (35, .isub, 1), (36, .iastore, 1), (37, .aload_n 0, 1), (38, .getfield 19, 3), (41, .aload_n 0, 1), (42, .getfield 9, 3), (45, .aload_n 1, 1), (46, .iload 4, 2), (48, .iload_n 3, 1), (49, .invokestatic 84, 3), (52, .lastore, 1), (53, .aload_n 0, 1), (54, .getfield 50, 3), (57, .bipush 53, 2), (59, .if_icmp .ge 34, 3), (62, .aload_n 0, 1), (63, .getfield 53, 3), (66, .aload_n 0, 1), (67, .getfield 50, 3), (70, .iconst 0, 1), (71, .iastore, 1), (72, .aload_n 0, 1), (73, .getfield 56, 3), (76, .aload_n 0, 1), (77, .getfield 50, 3), (80, .bipush 7, 2), (82, .iastore, 1), (83, .aload_n 0, 1), (84, .dup, 1), (85, .getfield 50, 3), (88, .iconst 1, 1), (89, .iadd, 1), (90, .putfield 50, 3), (93, .return_, 1)]
abbrev cX3_addInclude : ByteArray := prog_5_method_5_code
def yX3_addInclude : MethodName := ⟨RX3, "addInclude", "([CII)V"⟩
def tb_25 : List (Nat × Instr × Nat) := [(0, .iload_n 3, 1), (1, .iload_n 2, 1), (2, .isub, 1), (3, .iconst 4, 1), (4, .if_icmp .le 7, 3), (7, .iconst 1, 1), (8, .goto 4, 3), (11, .iconst 0, 1), (12, .istore 4, 2), (14, .aload_n 0, 1), (15, .getfield 15, 3), (18, .aload_n 0, 1), (19, .getfield 9, 3), (22, .iconst (-1), 1), (23, .iastore, 1), (24, .aload_n 0, 1), (25, .getfield 23, 3), (28, .aload_n 0, 1), (29, .getfield 9, 3), (32, .iload_n 3, 1), (33, .iload_n 2, 1), (34, .isub, 1), (35, .iconst 1, 1), (36, .if_icmp .le 14, 3), (39, .aload_n 1, 1), (40, .iload_n 2, 1), (41, .iconst 1, 1), (42, .iadd, 1), (43, .caload, 1), (44, .bipush 65, 2), (46, .isub, 1), (47, .goto 7, 3), (50, .aload_n 0, 1), (51, .getfield 59, 3), (54, .iastore, 1), (55, .aload_n 0, 1), (56, .getfield 26, 3), (59, .aload_n 0, 1), (60, .getfield 9, 3), (63, .iload 4, 2), (65, .ifCond .eq 14, 3), (68, .aload_n 1, 1), (69, .iload_n 2, 1), (70, .iconst 3, 1), (71, .iadd, 1), (72, .caload, 1), (73, .bipush 48, 2), (75, .isub, 1), (76, .goto 4, 3), (79, .iconst 0, 1), (80, .iastore, 1), (81, .aload_n 0, 1), (82, .dup, 1), (83, .getfield 29, 3), (86, .iconst 1, 1), (87, .iadd, 1), (88, .putfield 29, 3), (91, .aload_n 0, 1), (92, .dup, 1), (93, .getfield 32, 3), (96, .iconst 1, 1), (97, .aload_n 0, 1), (98, .getfield 23, 3), (101, .aload_n 0, 1), (102, .getfield 9, 3), (105, .iaload, 1), (106, .ishl, 1), (107, .ior, 1), (108, .putfield 32, 3), (111, .return_, 1)]
abbrev cX3_readLinks : ByteArray := prog_5_method_6_code
def yX3_readLinks : MethodName := ⟨RX3, "readLinks", "([CII)V"⟩
def tb_26 : List (Nat × Instr × Nat) := [(0, .iload_n 2, 1), (1, .istore 4, 2), (3, .iload_n 2, 1), (4, .istore 5, 2), (6, .iload 5, 2), (8, .iload_n 3, 1), (9, .if_icmp .ge 126, 3), (12, .aload_n 0, 1), (13, .getfield 35, 3), (16, .bipush 40, 2), (18, .if_icmp .ge 117, 3), (21, .aload_n 1, 1), (22, .iload 5, 2), (24, .caload, 1), (25, .bipush 91, 2), (27, .if_icmp .ne 12, 3), (30, .iload 5, 2), (32, .iconst 1, 1), (33, .iadd, 1), (34, .istore 4, 2), (36, .goto 93, 3), (39, .aload_n 1, 1), (40, .iload 5, 2), (42, .caload, 1), (43, .bipush 93, 2), (45, .if_icmp .ne 84, 3), (48, .aload_n 0, 1), (49, .getfield 38, 3), (52, .aload_n 0, 1), (53, .getfield 35, 3), (56, .aload_n 1, 1), (57, .iload 4, 2), (59, .caload, 1), (60, .bipush 35, 2), (62, .if_icmp .ne 10, 3), (65, .aload_n 0, 1), (66, .getfield 59, 3), (69, .goto 10, 3), (72, .aload_n 1, 1), (73, .iload 4, 2), (75, .caload, 1), (76, .bipush 65, 2), (78, .isub, 1), (79, .iastore, 1), (80, .aload_n 0, 1), (81, .getfield 41, 3), (84, .aload_n 0, 1), (85, .getfield 35, 3), (88, .aload_n 1, 1), (89, .iload 4, 2), (91, .iload 5, 2), (93, .invokestatic 88, 3), (96, .lastore, 1), (97, .aload_n 0, 1), (98, .getfield 44, 3), (101, .aload_n 0, 1), (102, .getfield 35, 3), (105, .iload 4, 2), (107, .iastore, 1), (108, .aload_n 0, 1), (109, .getfield 47, 3), (112, .aload_n 0, 1), (113, .getfield 35, 3), (116, .iload 5, 2), (118, .iastore, 1), (119, .aload_n 0, 1), (120, .dup, 1), (121, .getfield 35, 3), (124, .iconst 1, 1), (125, .iadd, 1), (126, .putfield 35, 3), (129, .iinc 5 1, 3), (132, .goto (-126), 3), (135, .return_, 1)]
abbrev cX3_growSection : ByteArray := prog_5_method_7_code
def yX3_growSection : MethodName := ⟨RX3, "growSection", "([CII)V"⟩
def tb_27 : List (Nat × Instr × Nat) := [(0, .aload_n 0, 1), (1, .getfield 50, 3), (4, .iconst 1, 1), (5, .isub, 1), (6, .istore 4, 2), (8, .bipush 31, 2), (10, .aload_n 0, 1), (11, .getfield 56, 3), (14, .iload 4, 2), (16, .iaload, 1), (17, .imul, 1), (18, .bipush 59, 2), (20, .iadd, 1), (21, .ldc 91, 2), (23, .irem, 1), (24, .istore 5, 2), (26, .iload_n 2, 1), (27, .istore 6, 2), (29, .iload 6, 2), (31, .iload_n 3, 1), (32, .if_icmp .ge 24, 3), (35, .bipush 31, 2), (37, .iload 5, 2), (39, .imul, 1), (40, .aload_n 1, 1), (41, .iload 6, 2), (43, .caload, 1), (44, .iadd, 1), (45, .ldc 91, 2), (47, .irem, 1), (48, .istore 5, 2), (50, .iinc 6 1, 3), (53, .goto (-24), 3), (56, .aload_n 0, 1), (57, .getfield 56, 3), (60, .iload 4, 2), (62, .iload 5, 2), (64, .iastore, 1), (65, .aload_n 0, 1), (66, .getfield 53, 3), (69, .iload 4, 2), (71, .dup2, 1), (72, .iaload, 1), (73, .iconst 1, 1), (74, .iadd, 1), (75, .iastore, 1), (76, .return_, 1)]
abbrev cX4_init : ByteArray := prog_6_method_1_code
def yX4_init : MethodName := ⟨RX4, "<init>", "()V"⟩
def tb_28 : List (Nat × Instr × Nat) := [(0, .aload_n 0, 1), (1, .invokespecial 3, 3), (4, .aload_n 0, 1), (5, .iconst 0, 1), (6, .newarray .char, 2), (8, .putfield 9, 3), (11, .aload_n 0, 1), (12, .iconst 0, 1), (13, .putfield 15, 3), (16, .aload_n 0, 1), (17, .iconst 0, 1), (18, .putfield 19, 3), (21, .return_, 1)]
abbrev cX4_pageFault : ByteArray := prog_6_method_2_code
def yX4_pageFault : MethodName := ⟨RX4, "pageFault", "([CI)I"⟩
def tb_29 : List (Nat × Instr × Nat) := [(0, .aload_n 0, 1), (1, .aload_n 1, 1), (2, .iload_n 2, 1), (3, .invokevirtual 22, 3), (6, .iconst 0, 1), (7, .istore_n 3, 1), (8, .iload_n 3, 1), (9, .aload_n 0, 1), (10, .getfield 15, 3), (13, .if_icmp .gt 51, 3), (16, .aload_n 0, 1), (17, .invokevirtual 26, 3), (20, .ifCond .ne 8, 3), (23, .aload_n 0, 1), (24, .getfield 19, 3), (27, .ireturn, 1), (28, .aload_n 0, 1), (29, .bipush 59, 2), (31, .invokevirtual 30, 3), (34, .ifCond .ne 24, 3), (37, .aload_n 0, 1), (38, .getfield 19, 3), (41, .aload_n 0, 1), (42, .getfield 15, 3), (45, .if_icmp .ne 8, 3), (48, .bipush (-6), 2), (50, .goto 7, 3), (53, .aload_n 0, 1), (54, .getfield 19, 3), (57, .ireturn, 1), (58, .iinc 3 1, 3), (61, .goto (-53), 3), (64, .aload_n 0, 1), (65, .getfield 19, 3), (68, .ireturn, 1)]
abbrev cX4_redirectFault : ByteArray := prog_6_method_3_code
def yX4_redirectFault : MethodName := ⟨RX4, "redirectFault", "([CI)I"⟩
def tb_30 : List (Nat × Instr × Nat) := [(0, .aload_n 0, 1), (1, .aload_n 1, 1), (2, .iload_n 2, 1), (3, .invokevirtual 22, 3), (6, .aload_n 0, 1), (7, .invokevirtual 34, 3), (10, .ifCond .eq 35, 3), (13, .aload_n 0, 1), (14, .bipush 62, 2), (16, .invokevirtual 30, 3), (19, .ifCond .eq 26, 3), (22, .aload_n 0, 1), (23, .invokevirtual 34, 3), (26, .ifCond .eq 19, 3), (29, .aload_n 0, 1), (30, .getfield 19, 3), (33, .aload_n 0, 1), (34, .getfield 15, 3), (37, .if_icmp .ne 8, 3), (40, .bipush (-6), 2), (42, .goto 7, 3), (45, .aload_n 0, 1), (46, .getfield 19, 3), (49, .ireturn, 1)]
abbrev cX4_begin : ByteArray := prog_6_method_4_code
def yX4_begin : MethodName := ⟨RX4, "begin", "([CI)V"⟩
def tb_31 : List (Nat × Instr × Nat) := [(0, .aload_n 0, 1), (1, .aload_n 1, 1), (2, .putfield 9, 3), (5, .aload_n 0, 1), (6, .iload_n 2, 1), (7, .putfield 15, 3), (10, .aload_n 0, 1), (11, .iconst 0, 1), (12, .putfield 19, 3), (15, .return_, 1)]
abbrev cX4_isNext : ByteArray := prog_6_method_5_code
def yX4_isNext : MethodName := ⟨RX4, "isNext", "(C)Z"⟩
def tb_32 : List (Nat × Instr × Nat) := [(0, .aload_n 0, 1), (1, .getfield 19, 3), (4, .aload_n 0, 1), (5, .getfield 15, 3), (8, .if_icmp .ge 20, 3), (11, .aload_n 0, 1), (12, .getfield 9, 3), (15, .aload_n 0, 1), (16, .getfield 19, 3), (19, .caload, 1), (20, .iload_n 1, 1), (21, .if_icmp .ne 7, 3), (24, .iconst 1, 1), (25, .goto 4, 3), (28, .iconst 0, 1), (29, .ireturn, 1)]
abbrev cX4_take : ByteArray := prog_6_method_6_code
def yX4_take : MethodName := ⟨RX4, "take", "(C)Z"⟩
def tb_33 : List (Nat × Instr × Nat) := [(0, .aload_n 0, 1), (1, .iload_n 1, 1), (2, .iload_n 1, 1), (3, .invokevirtual 37, 3), (6, .ireturn, 1)]
abbrev cX4_takeBetween : ByteArray := prog_6_method_7_code
def yX4_takeBetween : MethodName := ⟨RX4, "takeBetween", "(CC)Z"⟩
def tb_34 : List (Nat × Instr × Nat) := [(0, .aload_n 0, 1), (1, .getfield 19, 3), (4, .aload_n 0, 1), (5, .getfield 15, 3), (8, .if_icmp .ge 29, 3), (11, .aload_n 0, 1), (12, .getfield 9, 3), (15, .aload_n 0, 1), (16, .getfield 19, 3), (19, .caload, 1), (20, .iload_n 1, 1), (21, .if_icmp .lt 16, 3), (24, .aload_n 0, 1), (25, .getfield 9, 3), (28, .aload_n 0, 1), (29, .getfield 19, 3), (32, .caload, 1), (33, .iload_n 2, 1), (34, .if_icmp .le 5, 3), (37, .iconst 0, 1), (38, .ireturn, 1), (39, .aload_n 0, 1), (40, .dup, 1), (41, .getfield 19, 3), (44, .iconst 1, 1), (45, .iadd, 1), (46, .putfield 19, 3), (49, .iconst 1, 1), (50, .ireturn, 1)]
abbrev cX4_takeLine : ByteArray := prog_6_method_8_code
def yX4_takeLine : MethodName := ⟨RX4, "takeLine", "()Z"⟩
def tb_35 : List (Nat × Instr × Nat) := [(0, .aload_n 0, 1), (1, .bipush 61, 2), (3, .invokevirtual 41, 3), (6, .ifCond .eq 8, 3), (9, .aload_n 0, 1), (10, .invokevirtual 44, 3), (13, .ireturn, 1), (14, .aload_n 0, 1), (15, .bipush 123, 2), (17, .invokevirtual 41, 3), (20, .ifCond .eq 8, 3), (23, .aload_n 0, 1), (24, .invokevirtual 47, 3), (27, .ireturn, 1), (28, .iconst 0, 1), (29, .istore_n 1, 1), (30, .iload_n 1, 1), (31, .aload_n 0, 1), (32, .getfield 15, 3), (35, .if_icmp .gt 29, 3), (38, .aload_n 0, 1), (39, .invokevirtual 50, 3), (42, .ifCond .ne 5, 3), (45, .iconst 0, 1), (46, .ireturn, 1), (47, .aload_n 0, 1), (48, .bipush 44, 2), (50, .invokevirtual 30, 3), (53, .ifCond .ne 5, 3), (56, .iconst 1, 1), (57, .ireturn, 1), (58, .iinc 1 1, 3), (61, .goto (-31), 3), (64, .iconst 0, 1), (65, .ireturn, 1)]
abbrev cX4_takeHeading : ByteArray := prog_6_method_9_code
def yX4_takeHeading : MethodName := ⟨RX4, "takeHeading", "()Z"⟩
def tb_36 : List (Nat × Instr × Nat) := [(0, .iconst 0, 1), (1, .istore_n 1, 1), (2, .iload_n 1, 1), (3, .iconst 3, 1), (4, .if_icmp .ge 16, 3), (7, .aload_n 0, 1), (8, .bipush 61, 2), (10, .invokevirtual 30, 3), (13, .pop, 1), (14, .iinc 1 1, 3), (17, .goto (-15), 3), (20, .aload_n 0, 1), (21, .invokevirtual 53, 3), (24, .ireturn, 1)]
abbrev cX4_takeInclude : ByteArray := prog_6_method_10_code
def yX4_takeInclude : MethodName := ⟨RX4, "takeInclude", "()Z"⟩
def tb_37 : List (Nat × Instr × Nat) := [(0, .aload_n 0, 1), (1, .bipush 123, 2), (3, .invokevirtual 30, 3), (6, .ifCond .eq 14, 3), (9, .aload_n 0, 1), (10, .bipush 65, 2), (12, .bipush 76, 2), (14, .invokevirtual 37, 3), (17, .ifCond .ne 5, 3), (20, .iconst 0, 1), (21, .ireturn, 1), (22, .aload_n 0, 1), (23, .bipush 43, 2), (25, .invokevirtual 30, 3), (28, .ifCond .eq 16, 3), (31, .aload_n 0, 1), (32, .bipush 48, 2), (34, .bipush 50, 2), (36, .invokevirtual 37, 3), (39, .ifCond .ne 5, 3), (42, .iconst 0, 1), (43, .ireturn, 1), (44, .aload_n 0, 1), (45, .bipush 125, 2), (47, .invokevirtual 30, 3), (50, .ireturn, 1)]
abbrev cX4_takeElement : ByteArray := prog_6_method_11_code
def yX4_takeElement : MethodName := ⟨RX4, "takeElement", "()Z"⟩
def tb_38 : List (Nat × Instr × Nat) := [(0, .aload_n 0, 1), (1, .bipush 91, 2), (3, .invokevirtual 30, 3), (6, .ifCond .ne 8, 3), (9, .aload_n 0, 1), (10, .invokevirtual 53, 3), (13, .ireturn, 1), (14, .aload_n 0, 1), (15, .bipush 65, 2), (17, .bipush 76, 2), (19, .invokevirtual 37, 3), (22, .istore_n 1, 1), (23, .aload_n 0, 1), (24, .bipush 35, 2), (26, .invokevirtual 41, 3), (29, .ifCond .eq 25, 3), (32, .aload_n 0, 1), (33, .invokevirtual 56, 3), (36, .ifCond .eq 16, 3), (39, .aload_n 0, 1), (40, .bipush 93, 2), (42, .invokevirtual 30, 3), (45, .ifCond .eq 7, 3), (48, .iconst 1, 1), (49, .goto 4, 3), (52, .iconst 0, 1), (53, .ireturn, 1), (54, .iload_n 1, 1), (55, .ifCond .eq 16, 3), (58, .aload_n 0, 1), (59, .bipush 93, 2), (61, .invokevirtual 30, 3), (64, .ifCond .eq 7, 3), (67, .iconst 1, 1), (68, .goto 4, 3), (71, .iconst 0, 1), (72, .ireturn, 1)]
abbrev cX4_takePlace : ByteArray := prog_6_method_12_code
def yX4_takePlace : MethodName := ⟨RX4, "takePlace", "()Z"⟩
def tb_39 : List (Nat × Instr × Nat) := [(0, .aload_n 0, 1), (1, .bipush 65, 2), (3, .bipush 76, 2), (5, .invokevirtual 37, 3), (8, .ifCond .eq 23, 3), (11, .aload_n 0, 1), (12, .bipush 35, 2), (14, .invokevirtual 41, 3), (17, .ifCond .eq 10, 3), (20, .aload_n 0, 1), (21, .invokevirtual 56, 3), (24, .ifCond .eq 7, 3), (27, .iconst 1, 1), (28, .goto 4, 3), (31, .iconst 0, 1), (32, .ireturn, 1)]
abbrev cX4_takeAnchor : ByteArray := prog_6_method_13_code
def yX4_takeAnchor : MethodName := ⟨RX4, "takeAnchor", "()Z"⟩
def tb_40 : List (Nat × Instr × Nat) := [(0, .aload_n 0, 1), (1, .bipush 35, 2), (3, .invokevirtual 30, 3), (6, .ifCond .eq 10, 3), (9, .aload_n 0, 1), (10, .invokevirtual 53, 3), (13, .ifCond .ne 5, 3), (16, .iconst 0, 1), (17, .ireturn, 1), (18, .aload_n 0, 1), (19, .bipush 45, 2), (21, .invokevirtual 30, 3), (24, .ifCond .ne 5, 3), (27, .iconst 1, 1), (28, .ireturn, 1), (29, .aload_n 0, 1), (30, .bipush 49, 2), (32, .bipush 57, 2), (34, .invokevirtual 37, 3), (37, .ifCond .ne 5, 3), (40, .iconst 0, 1), (41, .ireturn, 1), (42, .aload_n 0, 1), (43, .bipush 48, 2), (45, .bipush 57, 2), (47, .invokevirtual 37, 3), (50, .pop, 1), (51, .iconst 1, 1), (52, .ireturn, 1)]
abbrev cX4_takeName : ByteArray := prog_6_method_14_code
def yX4_takeName : MethodName := ⟨RX4, "takeName", "()Z"⟩
def tb_41 : List (Nat × Instr × Nat) := [(0, .aload_n 0, 1), (1, .bipush 97, 2), (3, .bipush 122, 2), (5, .invokevirtual 37, 3), (8, .ifCond .ne 5, 3), (11, .iconst 0, 1), (12, .ireturn, 1), (13, .iconst 1, 1), (14, .istore_n 1, 1), (15, .iload_n 1, 1), (16, .bipush 8, 2), (18, .if_icmp .ge 31, 3), (21, .aload_n 0, 1), (22, .bipush 97, 2), (24, .bipush 122, 2), (26, .invokevirtual 37, 3), (29, .ifCond .ne 14, 3), (32, .aload_n 0, 1), (33, .bipush 48, 2), (35, .bipush 57, 2), (37, .invokevirtual 37, 3), (40, .ifCond .eq 9, 3), (43, .iinc 1 1, 3), (46, .goto (-31), 3), (49, .iconst 1, 1), (50, .ireturn, 1)]
abbrev cX5_init : ByteArray := prog_7_method_1_code
def yX5_init : MethodName := ⟨RX5, "<init>", "(LLinkAuditor$Site;)V"⟩
def tb_42 : List (Nat × Instr × Nat) := [(0, .aload_n 0, 1), (1, .invokespecial 3, 3), (4, .aload_n 0, 1), (5, .iconst 0, 1), (6, .putfield 9, 3), (9, .aload_n 0, 1), (10, .iconst 0, 1), (11, .putfield 15, 3), (14, .aload_n 0, 1), (15, .lconst 0, 1), (16, .putfield 18, 3), (19, .aload_n 0, 1), (20, .bipush (-6), 2), (22, .putfield 22, 3), (25, .aload_n 0, 1), (26, .iconst 0, 1), (27, .putfield 25, 3), (30, .aload_n 0, 1), (31, .sipush 169, 3), (34, .newarray .int, 2), (36, .putfield 28, 3), (39, .aload_n 0, 1), (40, .sipush 169, 3), (43, .newarray .long, 2), (45, .putfield 32, 3), (48, .aload_n 0, 1), (49, .sipush 169, 3), (52, .newarray .int, 2), (54, .putfield 36, 3), (57, .aload_n 0, 1), (58, .aload_n 1, 1), (59, .putfield 39, 3), (62, .return_, 1)]
abbrev cX5_follow : ByteArray := prog_7_method_2_code
def yX5_follow : MethodName := ⟨RX5, "follow", "(LLinkAuditor$Outline;I)V"⟩
def tb_43 : List (Nat × Instr × Nat) := [(0, .aload_n 0, 1), (1, .aload_n 1, 1), (2, .getfield 43, 3), (5, .iload_n 2, 1), (6, .iaload, 1), (7, .putfield 15, 3), (10, .aload_n 0, 1), (11, .aload_n 1, 1), (12, .getfield 48, 3), (15, .iload_n 2, 1), (16, .laload, 1), (17, .putfield 18, 3), (20, .aload_n 0, 1), (21, .bipush (-6), 2), (23, .putfield 22, 3), (26, .aload_n 0, 1), (27, .iconst 2, 1), (28, .putfield 9, 3), (31, .aload_n 0, 1), (32, .iconst 0, 1), (33, .putfield 25, 3), (36, .aload_n 0, 1), (37, .getfield 25, 3), (40, .sipush 169, 3), (43, .if_icmp .ge 107, 3), (46, .aload_n 0, 1), (47, .invokevirtual 51, 3), (50, .ifCond .ne 100, 3), (53, .aload_n 0, 1), (54, .getfield 28, 3), (57, .aload_n 0, 1), (58, .getfield 25, 3), (61, .aload_n 0, 1), (62, .getfield 15, 3), (65, .iastore, 1), (66, .aload_n 0, 1), (67, .getfield 32, 3), (70, .aload_n 0, 1), (71, .getfield 25, 3), (74, .aload_n 0, 1), (75, .getfield 18, 3), (78, .lastore, 1), (79, .aload_n 0, 1), (80, .invokevirtual 55, 3), (83, .ifCond .eq 20, 3), (86, .aload_n 0, 1), (87, .aload_n 0, 1), (88, .getfield 25, 3), (91, .ifCond .ne 7, 3), (94, .iconst 0, 1), (95, .goto 4, 3), (98, .iconst 1, 1), (99, .putfield 9, 3), (102, .return_, 1), (103, .aload_n 0, 1), (104, .invokevirtual 58, 3), (107, .ifCond .ne 30, 3), (110, .aload_n 0, 1), (111, .aload_n 0, 1), (112, .getfield 39, 3), (115, .getfield 61, 3), (118, .aload_n 0, 1), (119, .getfield 15, 3), (122, .invokevirtual 67, 3), (125, .ifCond .eq 7, 3), (128, .iconst 4, 1), (129, .goto 4, 3), (132, .iconst 3, 1), (133, .putfield 9, 3), (136, .return_, 1), (137, .aload_n 0, 1), (138, .dup, 1), (139, .getfield 25, 3), (142, .iconst 1, 1), (143, .iadd, 1), (144, .putfield 25, 3), (147, .goto (-111), 3), (150, .return_, 1)]
abbrev cX5_usesOf : ByteArray := prog_7_method_3_code
def yX5_usesOf : MethodName := ⟨RX5, "usesOf", "(I)I"⟩
def tb_44 : List (Nat × Instr × Nat) := [(0, .iconst 0, 1), (1, .istore_n 2, 1), (2, .iconst 0, 1), (3, .istore_n 3, 1), (4, .iload_n 3, 1), (5, .aload_n 0, 1), (6, .getfield 25, 3), (9, .if_icmp .ge 22, 3), (12, .aload_n 0, 1), (13, .getfield 36, 3), (16, .iload_n 3, 1), (17, .iaload, 1), (18, .iload_n 1, 1), (19, .if_icmp .ne 6, 3), (22, .iinc 2 1, 3), (25, .iinc 3 1, 3), (28, .goto (-24), 3), (31, .iload_n 2, 1), (32, .ireturn, 1)]
abbrev cX5_wasHere : ByteArray := prog_7_method_4_code
def yX5_wasHere : MethodName := ⟨RX5, "wasHere", "()Z"⟩
def tb_45 : List (Nat × Instr × Nat) := [(0, .iconst 0, 1), (1, .istore_n 1, 1), (2, .iload_n 1, 1), (3, .aload_n 0, 1), (4, .getfield 25, 3), (7, .if_icmp .ge 38, 3), (10, .aload_n 0, 1), (11, .getfield 28, 3), (14, .iload_n 1, 1), (15, .iaload, 1), (16, .aload_n 0, 1), (17, .getfield 15, 3), (20, .if_icmp .ne 19, 3), (23, .aload_n 0, 1), (24, .getfield 32, 3), (27, .iload_n 1, 1), (28, .laload, 1), (29, .aload_n 0, 1), (30, .getfield 18, 3), (33, .lcmp, 1), (34, .ifCond .ne 5, 3), (37, .iconst 1, 1), (38, .ireturn, 1), (39, .iinc 1 1, 3), (42, .goto (-40), 3), (45, .iconst 0, 1), (46, .ireturn, 1)]
abbrev cX5_isGood : ByteArray := prog_7_method_5_code
def yX5_isGood : MethodName := ⟨RX5, "isGood", "()Z"⟩
def tb_46 : List (Nat × Instr × Nat) := [(0, .aload_n 0, 1), (1, .getfield 39, 3), (4, .getfield 61, 3), (7, .aload_n 0, 1), (8, .getfield 15, 3), (11, .invokevirtual 67, 3), (14, .ifCond .ne 5, 3), (17, .iconst 0, 1), (18, .ireturn, 1), (19, .aload_n 0, 1), (20, .getfield 18, 3), (23, .lconst 0, 1), (24, .lcmp, 1), (25, .ifCond .ne 5, 3), (28, .iconst 1, 1), (29, .ireturn, 1), (30, .aload_n 0, 1), (31, .aload_n 0, 1), (32, .getfield 39, 3), (35, .getfield 73, 3), (38, .aload_n 0, 1), (39, .getfield 15, 3), (42, .aaload, 1), (43, .aload_n 0, 1), (44, .getfield 18, 3), (47, .invokevirtual 77, 3), (50, .putfield 22, 3), (53, .aload_n 0, 1), (54, .getfield 22, 3), (57, .bipush (-6), 2), (59, .if_icmp .eq 7, 3), (62, .iconst 1, 1), (63, .goto 4, 3), (66, .iconst 0, 1), (67, .ireturn, 1)]
abbrev cX5_goOn : ByteArray := prog_7_method_6_code
def yX5_goOn : MethodName := ⟨RX5, "goOn", "()Z"⟩
def tb_47 : List (Nat × Instr × Nat) := [(0, .aload_n 0, 1), (1, .getfield 39, 3), (4, .getfield 61, 3), (7, .astore_n 1, 1), (8, .aload_n 1, 1), (9, .aload_n 0, 1), (10, .getfield 15, 3), (13, .aload_n 0, 1), (14, .getfield 18, 3), (17, .invokevirtual 83, 3), (20, .istore_n 2, 1), (21, .iload_n 2, 1), (22, .bipush (-6), 2), (24, .if_icmp .ne 18, 3), (27, .aload_n 1, 1), (28, .aload_n 0, 1), (29, .getfield 15, 3), (32, .invokevirtual 67, 3), (35, .ifCond .ne 7, 3), (38, .iconst 1, 1), (39, .goto 4, 3), (42, .iconst 0, 1), (43, .istore_n 3, 1), (44, .iload_n 3, 1), (45, .ifCond .eq 13, 3), (48, .aload_n 1, 1), (49, .aload_n 0, 1), (50, .getfield 15, 3), (53, .lconst 0, 1), (54, .invokevirtual 83, 3), (57, .istore_n 2, 1), (58, .iload_n 2, 1), (59, .bipush (-6), 2), (61, .if_icmp .ne 5, 3), (64, .iconst 0, 1), (65, .ireturn, 1), (66, .aload_n 0, 1), (67, .getfield 36, 3), (70, .aload_n 0, 1), (71, .getfield 25, 3), (74, .iload_n 2, 1), (75, .iastore, 1), (76, .aload_n 0, 1), (77, .aload_n 1, 1), (78, .getfield 87, 3), (81, .iload_n 2, 1), (82, .iaload, 1), (83, .putfield 15, 3), (86, .iload_n 3, 1), (87, .ifCond .eq 14, 3), (90, .aload_n 1, 1), (91, .getfield 90, 3), (94, .iload_n 2, 1), (95, .laload, 1), (96, .lconst 0, 1), (97, .lcmp, 1), (98, .ifCond .eq 13, 3), (101, .aload_n 0, 1), (102, .aload_n 1, 1), (103, .getfield 90, 3), (106, .iload_n 2, 1), (107, .laload, 1), (108, .putfield 18, 3), (111, .iconst 1, 1), (112, .ireturn, 1)]
abbrev cX6_init : ByteArray := prog_8_method_1_code
def yX6_init : MethodName := ⟨RX6, "<init>", "()V"⟩
def tb_48 : List (Nat × Instr × Nat) := [(0, .aload_n 0, 1), (1, .invokespecial 3, 3), (4, .aload_n 0, 1), (5, .new 9, 3), (8, .dup, 1), (9, .invokespecial 11, 3), (12, .putfield 12, 3), (15, .aload_n 0, 1), (16, .bipush 12, 2), (18, .anewarray 18, 3), (21, .putfield 20, 3), (24, .aload_n 0, 1), (25, .bipush 12, 2), (27, .anewarray 24, 3), (30, .putfield 26, 3), (33, .aload_n 0, 1), (34, .bipush 13, 2), (36, .newarray .char, 2), (38, .putfield 30, 3), (41, .aload_n 0, 1), (42, .iconst 0, 1), (43, .putfield 34, 3), (46, .iconst 0, 1), (47, .istore_n 1, 1), (48, .iload_n 1, 1), (49, .bipush 12, 2), (51, .if_icmp .ge 36, 3), (54, .aload_n 0, 1), (55, .getfield 20, 3), (58, .iload_n 1, 1), (59, .new 18, 3), (62, .dup, 1), (63, .iload_n 1, 1), (64, .invokespecial 38, 3), (67, .aastore, 1), (68, .aload_n 0, 1), (69, .getfield 26, 3), (72, .iload_n 1, 1), (73, .new 24, 3), (76, .dup, 1), (77, .invokespecial 41, 3), (80, .aastore, 1), (81, .iinc 1 1, 3), (84, .goto (-36), 3), (87, .return_, 1)]
abbrev cX6_replaceSource : ByteArray := prog_8_method_2_code
def yX6_replaceSource : MethodName := ⟨RX6, "replaceSource", "(I[CI)V"⟩
def tb_49 : List (Nat × Instr × Nat) := [(0, .aload_n 2, 1), (1, .iconst 0, 1), (2, .aload_n 0, 1), (3, .getfield 12, 3), (6, .getfield 42, 3), (9, .iload_n 1, 1), (10, .sipush 160, 3), (13, .imul, 1), (14, .iload_n 3, 1), (15, .invokestatic 45, 3), (18, .aload_n 0, 1), (19, .getfield 12, 3), (22, .getfield 51, 3), (25, .iload_n 1, 1), (26, .iload_n 3, 1), (27, .iastore, 1), (28, .aload_n 0, 1), (29, .iload_n 1, 1), (30, .invokevirtual 55, 3), (33, .aload_n 0, 1), (34, .invokevirtual 58, 3), (37, .return_, 1)]
abbrev cX6_restore : ByteArray := prog_8_method_3_code
def yX6_restore : MethodName := ⟨RX6, "restore", "(LLinkAuditor$State;)V"⟩
def tb_50 : List (Nat × Instr × Nat) := [(0, .aload_n 0, 1), (1, .getfield 12, 3), (4, .aload_n 1, 1), (5, .invokevirtual 61, 3), (8, .iconst 0, 1), (9, .istore_n 2, 1), (10, .iload_n 2, 1), (11, .bipush 12, 2), (13, .if_icmp .ge 14, 3), (16, .aload_n 0, 1), (17, .iload_n 2, 1), (18, .invokevirtual 55, 3), (21, .iinc 2 1, 3), (24, .goto (-14), 3), (27, .aload_n 0, 1), (28, .invokevirtual 58, 3), (31, .return_, 1)]
abbrev cX6_readSource : ByteArray := prog_8_method_4_code
def yX6_readSource : MethodName := ⟨RX6, "readSource", "(I)V"⟩
def tb_51 : List (Nat × Instr × Nat) := [(0, .iload_n 1, 1), (1, .sipush 160, 3), (4, .imul, 1), (5, .istore_n 2, 1), (6, .aload_n 0, 1), (7, .getfield 20, 3), (10, .iload_n 1, 1), (11, .aaload, 1), (12, .aload_n 0, 1), (13, .getfield 12, 3), (16, .getfield 42, 3), (19, .iload_n 2, 1), (20, .iload_n 2, 1), (21, .aload_n 0, 1), (22, .getfield 12, 3), (25, .getfield 51, 3), (28, .iload_n 1, 1), (29, .iaload, 1), (30, .iadd, 1), (31, .invokevirtual 65, 3), (34, .return_, 1)]
abbrev cX6_expandAll : ByteArray := prog_8_method_5_code
def yX6_expandAll : MethodName := ⟨RX6, "expandAll", "()V"⟩
def tb_52 : List (Nat × Instr × Nat) := [(0, .iconst 0, 1), (1, .istore_n 1, 1), (2, .iload_n 1, 1), (3, .bipush 12, 2), (5, .if_icmp .ge 23, 3), (8, .aload_n 0, 1), (9, .getfield 26, 3), (12, .iload_n 1, 1), (13, .aaload, 1), (14, .aload_n 0, 1), (15, .getfield 20, 3), (18, .iload_n 1, 1), (19, .invokevirtual 69, 3), (22, .iinc 1 1, 3), (25, .goto (-23), 3), (28, .return_, 1)]
abbrev cX6_rememberSections : ByteArray := prog_8_method_6_code
def yX6_rememberSections : MethodName := ⟨RX6, "rememberSections", "(I)V"⟩
def tb_53 : List (Nat × Instr × Nat) := [(0, .aload_n 0, 1), (1, .getfield 20, 3), (4, .iload_n 1, 1), (5, .aaload, 1), (6, .astore_n 2, 1), (7, .aload_n 0, 1), (8, .getfield 26, 3), (11, .iload_n 1, 1), (12, .aaload, 1), (13, .astore_n 3, 1), (14, .iconst 0, 1), (15, .istore 4, 2), (17, .iload 4, 2), (19, .aload_n 2, 1), (20, .getfield 73, 3), (23, .if_icmp .ge 57, 3), (26, .aload_n 3, 1), (27, .getfield 76, 3), (30, .iload 4, 2), (32, .iaload, 1), (33, .istore 5, 2), (35, .iload 5, 2), (37, .bipush (-6), 2), (39, .if_icmp .eq 35, 3), (42, .aload_n 2, 1), (43, .getfield 79, 3), (46, .iload 4, 2), (48, .iaload, 1), (49, .ifCond .le 25, 3), (52, .aload_n 0, 1), (53, .getfield 12, 3), (56, .iload_n 1, 1), (57, .aload_n 3, 1), (58, .getfield 82, 3), (61, .iload 5, 2), (63, .laload, 1), (64, .aload_n 2, 1), (65, .getfield 86, 3), (68, .iload 4, 2), (70, .iaload, 1), (71, .invokevirtual 89, 3), (74, .iinc 4 1, 3), (77, .goto (-60), 3), (80, .return_, 1)]
abbrev cX6_sectionsWith : ByteArray := prog_8_method_7_code
def yX6_sectionsWith : MethodName := ⟨RX6, "sectionsWith", "(I)I"⟩
def tb_54 : List (Nat × Instr × Nat) := [(0, .iconst 0, 1), (1, .istore_n 2, 1), (2, .iconst 0, 1), (3, .istore_n 3, 1), (4, .iload_n 3, 1), (5, .bipush 12, 2), (7, .if_icmp .ge 80, 3), (10, .iconst 0, 1), (11, .istore 4, 2), (13, .iload 4, 2), (15, .aload_n 0, 1), (16, .getfield 20, 3), (19, .iload_n 3, 1), (20, .aaload, 1), (21, .getfield 73, 3), (24, .if_icmp .ge 57, 3), (27, .aload_n 0, 1), (28, .getfield 26, 3), (31, .iload_n 3, 1), (32, .aaload, 1), (33, .getfield 76, 3), (36, .iload 4, 2), (38, .iaload, 1), (39, .bipush (-6), 2), (41, .if_icmp .eq 7, 3), (44, .iconst 1, 1), (45, .goto 4, 3), (48, .iconst 0, 1), (49, .istore 5, 2), (51, .iload 5, 2), (53, .ifCond .eq 22, 3), (56, .aload_n 0, 1), (57, .getfield 20, 3), (60, .iload_n 3, 1), (61, .aaload, 1), (62, .getfield 86, 3), (65, .iload 4, 2), (67, .iaload, 1), (68, .iload_n 1, 1), (69, .if_icmp .ne 6, 3), (72, .iinc 2 1, 3), (75, .iinc 4 1, 3), (78, .goto (-65), 3), (81, .iinc 3 1, 3), (84, .goto (-80), 3), (87, .iload_n 2, 1), (88, .ireturn, 1)]
abbrev cX6_includedFrom : ByteArray := prog_8_method_8_code
def yX6_includedFrom : MethodName := ⟨RX6, "includedFrom", "(I)I"⟩
def tb_55 : List (Nat × Instr × Nat) := [(0, .aload_n 0, 1), (1, .getfield 20, 3), (4, .iload_n 1, 1), (5, .aaload, 1), (6, .getfield 93, 3), (9, .istore_n 2, 1), (10, .iconst 1, 1), (11, .istore_n 3, 1), (12, .iload_n 3, 1), (13, .bipush 12, 2), (15, .if_icmp .ge 55, 3), (18, .iload_n 2, 1), (19, .istore 4, 2), (21, .iconst 0, 1), (22, .istore 5, 2), (24, .iload 5, 2), (26, .bipush 12, 2), (28, .if_icmp .ge 33, 3), (31, .iload_n 2, 1), (32, .iload 5, 2), (34, .invokestatic 96, 3), (37, .ifCond .eq 18, 3), (40, .iload 4, 2), (42, .aload_n 0, 1), (43, .getfield 20, 3), (46, .iload 5, 2), (48, .aaload, 1), (49, .getfield 93, 3), (52, .ior, 1), (53, .istore 4, 2), (55, .iinc 5 1, 3), (58, .goto (-34), 3), (61, .iload 4, 2), (63, .istore_n 2, 1), (64, .iinc 3 1, 3), (67, .goto (-55), 3), (70, .iload_n 2, 1), (71, .ireturn, 1)]
abbrev cX6_spellTarget : ByteArray := prog_8_method_9_code
def yX6_spellTarget : MethodName := ⟨RX6, "spellTarget", "(IIIJ)I"⟩
def tb_56 : List (Nat × Instr × Nat) := [(0, .aload_n 0, 1), (1, .iconst 0, 1), (2, .putfield 34, 3), (5, .lload 4, 2), (7, .lconst 0, 1), (8, .lcmp, 1), (9, .ifCond .eq 8, 3), (12, .iload_n 3, 1), (13, .iload_n 1, 1), (14, .if_icmp .eq 27, 3), (17, .aload_n 0, 1), (18, .getfield 30, 3), (21, .aload_n 0, 1), (22, .getfield 34, 3), (25, .bipush 65, 2), (27, .iload_n 3, 1), (28, .iadd, 1), (29, .i2c, 1), (30, .castore, 1), (31, .aload_n 0, 1), (32, .dup, 1), (33, .getfield 34, 3), (36, .iconst 1, 1), (37, .iadd, 1), (38, .putfield 34, 3), (41, .lload 4, 2), (43, .lconst 0, 1), (44, .lcmp, 1), (45, .ifCond .eq 46, 3), (48, .aload_n 0, 1), (49, .getfield 30, 3), (52, .aload_n 0, 1), (53, .getfield 34, 3), (56, .bipush 35, 2), (58, .castore, 1), (59, .aload_n 0, 1), (60, .dup, 1), (61, .getfield 34, 3), (64, .iconst 1, 1), (65, .iadd, 1), (66, .putfield 34, 3), (69, .aload_n 0, 1), (70, .dup, 1), (71, .getfield 34, 3), (74, .lload 4, 2), (76, .aload_n 0, 1), (77, .getfield 30, 3), (80, .aload_n 0, 1), (81, .getfield 34, 3), (84, .invokestatic 100, 3), (87, .iadd, 1), (88, .putfield 34, 3), (91, .aload_n 0, 1), (92, .getfield 20, 3), (95, .iload_n 1, 1), (96, .aaload, 1), (97, .astore 6, 2), (99, .aload_n 0, 1), (100, .getfield 12, 3), (103, .getfield 51, 3), (106, .iload_n 1, 1), (107, .iaload, 1), (108, .aload_n 0, 1), (109, .getfield 34, 3), (112, .iadd, 1), (113, .aload 6, 2), (115, .getfield 106, 3), (118, .iload_n 2, 1), (119, .iaload, 1), (120, .aload 6, 2), (122, .getfield 109, 3), (125, .iload_n 2, 1), (126, .iaload, 1), (127, .isub, 1), (128, .isub, 1), (129, .ireturn, 1)]
abbrev cX6_writeTarget : ByteArray := prog_8_method_10_code
def yX6_writeTarget : MethodName := ⟨RX6, "writeTarget", "(II)V"⟩
def tb_57 : List (Nat × Instr × Nat) := [(0, .aload_n 0, 1), (1, .getfield 20, 3), (4, .iload_n 1, 1), (5, .aaload, 1), (6, .getfield 109, 3), (9, .iload_n 2, 1), (10, .iaload, 1), (11, .istore_n 3, 1), (12, .aload_n 0, 1), (13, .getfield 20, 3), (16, .iload_n 1, 1), (17, .aaload, 1), (18, .getfield 106, 3), (21, .iload_n 2, 1), (22, .iaload, 1), (23, .istore 4, 2), (25, .iload_n 1, 1), (26, .sipush 160, 3), (29, .imul, 1), (30, .aload_n 0, 1), (31, .getfield 12, 3), (34, .getfield 51, 3), (37, .iload_n 1, 1), (38, .iaload, 1), (39, .iadd, 1), (40, .istore 5, 2), (42, .aload_n 0, 1), (43, .getfield 12, 3), (46, .getfield 42, 3), (49, .iload 4, 2), (51, .aload_n 0, 1), (52, .getfield 12, 3), (55, .getfield 42, 3), (58, .iload_n 3, 1), (59, .aload_n 0, 1), (60, .getfield 34, 3), (63, .iadd, 1), (64, .iload 5, 2), (66, .iload 4, 2), (68, .isub, 1), (69, .invokestatic 45, 3), (72, .aload_n 0, 1), (73, .getfield 30, 3), (76, .iconst 0, 1), (77, .aload_n 0, 1), (78, .getfield 12, 3), (81, .getfield 42, 3), (84, .iload_n 3, 1), (85, .aload_n 0, 1), (86, .getfield 34, 3), (89, .invokestatic 45, 3), (92, .aload_n 0, 1), (93, .getfield 12, 3), (96, .getfield 51, 3), (99, .iload_n 1, 1), (100, .dup2, 1), (101, .iaload, 1), (102, .aload_n 0, 1), (103, .getfield 34, 3), (106, .iload 4, 2), (108, .iload_n 3, 1), (109, .isub, 1), (110, .isub, 1), (111, .iadd, 1), (112, .iastore, 1), (113, .aload_n 0, 1), (114, .iload_n 1, 1), (115, .invokevirtual 55, 3), (118, .return_, 1)]
abbrev cX7_init : ByteArray := prog_9_method_1_code
def yX7_init : MethodName := ⟨RX7, "<init>", "()V"⟩
def tb_58 : List (Nat × Instr × Nat) := [(0, .aload_n 0, 1), (1, .invokespecial 3, 3), (4, .aload_n 0, 1), (5, .sipush 1920, 3), (8, .newarray .char, 2), (10, .putfield 9, 3), (13, .aload_n 0, 1), (14, .bipush 12, 2), (16, .newarray .int, 2), (18, .putfield 15, 3), (21, .aload_n 0, 1), (22, .iconst 0, 1), (23, .putfield 19, 3), (26, .aload_n 0, 1), (27, .bipush 12, 2), (29, .newarray .int, 2), (31, .putfield 23, 3), (34, .aload_n 0, 1), (35, .bipush 12, 2), (37, .newarray .long, 2), (39, .putfield 26, 3), (42, .aload_n 0, 1), (43, .bipush 12, 2), (45, .newarray .int, 2), (47, .putfield 30, 3), (50, .aload_n 0, 1), (51, .bipush 12, 2), (53, .newarray .long, 2), (55, .putfield 33, 3), (58, .aload_n 0, 1), (59, .iconst 0, 1), (60, .putfield 36, 3), (63, .aload_n 0, 1), (64, .bipush 40, 2), (66, .newarray .int, 2), (68, .putfield 39, 3), (71, .aload_n 0, 1), (72, .bipush 40, 2), (74, .newarray .long, 2), (76, .putfield 42, 3), (79, .aload_n 0, 1), (80, .bipush 40, 2), (82, .newarray .int, 2), (84, .putfield 45, 3), (87, .return_, 1)]
abbrev cX7_become : ByteArray := prog_9_method_2_code
def yX7_become : MethodName := ⟨RX7, "become", "(LLinkAuditor$State;)V"⟩
def tb_59 : List (Nat × Instr × Nat) := [(0, .aload_n 1, 1), (1, .getfield 9, 3), (4, .iconst 0, 1), (5, .aload_n 0, 1), (6, .getfield 9, 3), (9, .iconst 0, 1), (10, .aload_n 0, 1), (11, .getfield 9, 3), (14, .arraylength, 1), (15, .invokestatic 48, 3), (18, .aload_n 1, 1), (19, .getfield 15, 3), (22, .iconst 0, 1), (23, .aload_n 0, 1), (24, .getfield 15, 3), (27, .iconst 0, 1), (28, .bipush 12, 2), (30, .invokestatic 48, 3), (33, .aload_n 0, 1), (34, .aload_n 1, 1), (35, .getfield 19, 3), (38, .putfield 19, 3), (41, .aload_n 1, 1), (42, .getfield 23, 3), (45, .iconst 0, 1), (46, .aload_n 0, 1), (47, .getfield 23, 3), (50, .iconst 0, 1), (51, .aload_n 0, 1), (52, .getfield 19, 3), (55, .invokestatic 48, 3), (58, .aload_n 1, 1), (59, .getfield 26, 3), (62, .iconst 0, 1), (63, .aload_n 0, 1), (64, .getfield 26, 3), (67, .iconst 0, 1), (68, .aload_n 0, 1), (69, .getfield 19, 3), (72, .invokestatic 48, 3), (75, .aload_n 1, 1), (76, .getfield 30, 3), (79, .iconst 0, 1), (80, .aload_n 0, 1), (81, .getfield 30, 3), (84, .iconst 0, 1), (85, .aload_n 0, 1), (86, .getfield 19, 3), (89, .invokestatic 48, 3), (92, .aload_n 1, 1), (93, .getfield 33, 3), (96, .iconst 0, 1), (97, .aload_n 0, 1), (98, .getfield 33, 3), (101, .iconst 0, 1), (102, .aload_n 0, 1), (103, .getfield 19, 3), (106, .invokestatic 48, 3), (109, .aload_n 0, 1), (110, .aload_n 1, 1), (111, .getfield 36, 3), (114, .putfield 36, 3), (117, .aload_n 1, 1), (118, .getfield 39, 3), (121, .iconst 0, 1), (122, .aload_n 0, 1), (123, .getfield 39, 3), (126, .iconst 0, 1), (127, .aload_n 0, 1), (128, .getfield 36, 3), (131, .invokestatic 48, 3), (134, .aload_n 1, 1), (135, .getfield 42, 3), (138, .iconst 0, 1), (139, .aload_n 0, 1), (140, .getfield 42, 3), (143, .iconst 0, 1), (144, .aload_n 0, 1), (145, .getfield 36, 3), (148, .invokestatic 48, 3), (151, .aload_n 1, 1), (152, .getfield 45, 3), (155, .iconst 0, 1), (156, .aload_n 0, 1), (157, .getfield 45, 3), (160, .iconst 0, 1), (161, .aload_n 0, 1), (162, .getfield 36, 3), (165, .invokestatic 48, 3), (168, .return_, 1)]
abbrev cX7_hasSource : ByteArray := prog_9_method_3_code
def yX7_hasSource : MethodName := ⟨RX7, "hasSource", "(I)Z"⟩
def tb_60 : List (Nat × Instr × Nat) := [(0, .aload_n 0, 1), (1, .getfield 15, 3), (4, .iload_n 1, 1), (5, .iaload, 1), (6, .ifCond .le 7, 3), (9, .iconst 1, 1), (10, .goto 4, 3), (13, .iconst 0, 1), (14, .ireturn, 1)]
abbrev cX7_sources : ByteArray := prog_9_method_4_code
def yX7_sources : MethodName := ⟨RX7, "sources", "()I"⟩
def tb_61 : List (Nat × Instr × Nat) := [(0, .iconst 0, 1), (1, .istore_n 1, 1), (2, .iconst 0, 1), (3, .istore_n 2, 1), (4, .iload_n 2, 1), (5, .bipush 12, 2), (7, .if_icmp .ge 23, 3), (10, .aload_n 0, 1), (11, .iload_n 2, 1), (12, .invokevirtual 54, 3), (15, .ifCond .eq 9, 3), (18, .iload_n 1, 1), (19, .iconst 1, 1), (20, .iload_n 2, 1), (21, .ishl, 1), (22, .ior, 1), (23, .istore_n 1, 1), (24, .iinc 2 1, 3), (27, .goto (-23), 3), (30, .iload_n 1, 1), (31, .ireturn, 1)]
abbrev cX7_redirectFrom : ByteArray := prog_9_method_5_code
def yX7_redirectFrom : MethodName := ⟨RX7, "redirectFrom", "(IJ)I"⟩
def tb_62 : List (Nat × Instr × Nat) := [(0, .iconst 0, 1), (1, .istore 4, 2), (3, .iload 4, 2), (5, .aload_n 0, 1), (6, .getfield 19, 3), (9, .if_icmp .ge 35, 3), (12, .aload_n 0, 1), (13, .getfield 23, 3), (16, .iload 4, 2), (18, .iaload, 1), (19, .iload_n 1, 1), (20, .if_icmp .ne 18, 3), (23, .aload_n 0, 1), (24, .getfield 26, 3), (27, .iload 4, 2), (29, .laload, 1), (30, .lload_n 2, 1), (31, .lcmp, 1), (32, .ifCond .ne 6, 3), (35, .iload 4, 2), (37, .ireturn, 1), (38, .iinc 4 1, 3), (41, .goto (-38), 3), (44, .bipush (-6), 2), (46, .ireturn, 1)]
abbrev cX7_addRedirect : ByteArray := prog_9_method_6_code
def yX7_addRedirect : MethodName := ⟨RX7, "addRedirect", "(IJIJ)V"⟩
def tb_63 : List (Nat × Instr × Nat) := [(0, .aload_n 0, 1), (1, .getfield 19, 3), (4, .bipush 12, 2), (6, .if_icmp .lt 4, 3), (9, .return_, 1), (10, .aload_n 0, 1), (11, .getfield 23, 3), (14, .aload_n 0, 1), (15, .getfield 19, 3), (18, .iload_n 1, 1), (19, .iastore, 1), (20, .aload_n 0, 1), (21, .getfield 26, 3), (24, .aload_n 0, 1), (25, .getfield 19, 3), (28, .lload_n 2, 1), (29, .lastore, 1), (30, .aload_n 0, 1), (31, .getfield 30, 3), (34, .aload_n 0, 1), (35, .getfield 19, 3), (38, .iload 4, 2), (40, .iastore, 1), (41, .aload_n 0, 1), (42, .getfield 33, 3), (45, .aload_n 0, 1), (46, .getfield 19, 3), (49, .lload 5, 2), (51, .lastore, 1), (52, .aload_n 0, 1), (53, .dup, 1), (54, .getfield 19, 3), (57, .iconst 1, 1), (58, .iadd, 1), (59, .putfield 19, 3), (62, .return_, 1)]
abbrev cX7_dropRedirect : ByteArray := prog_9_method_7_code
def yX7_dropRedirect : MethodName := ⟨RX7, "dropRedirect", "(I)V"⟩
def tb_64 : List (Nat × Instr × Nat) := [(0, .aload_n 0, 1), (1, .getfield 19, 3), (4, .iload_n 1, 1), (5, .isub, 1), (6, .iconst 1, 1), (7, .isub, 1), (8, .istore_n 2, 1), (9, .iload_n 1, 1), (10, .ifCond .lt 7, 3), (13, .iload_n 2, 1), (14, .ifCond .ge 4, 3), (17, .return_, 1), (18, .aload_n 0, 1), (19, .getfield 23, 3), (22, .iload_n 1, 1), (23, .iconst 1, 1), (24, .iadd, 1), (25, .aload_n 0, 1), (26, .getfield 23, 3), (29, .iload_n 1, 1), (30, .iload_n 2, 1), (31, .invokestatic 48, 3), (34, .aload_n 0, 1), (35, .getfield 26, 3), (38, .iload_n 1, 1), (39, .iconst 1, 1), (40, .iadd, 1), (41, .aload_n 0, 1), (42, .getfield 26, 3), (45, .iload_n 1, 1), (46, .iload_n 2, 1), (47, .invokestatic 48, 3), (50, .aload_n 0, 1), (51, .getfield 30, 3), (54, .iload_n 1, 1), (55, .iconst 1, 1), (56, .iadd, 1), (57, .aload_n 0, 1), (58, .getfield 30, 3), (61, .iload_n 1, 1), (62, .iload_n 2, 1), (63, .invokestatic 48, 3), (66, .aload_n 0, 1), (67, .getfield 33, 3), (70, .iload_n 1, 1), (71, .iconst 1, 1), (72, .iadd, 1), (73, .aload_n 0, 1), (74, .getfield 33, 3), (77, .iload_n 1, 1), (78, .iload_n 2, 1), (79, .invokestatic 48, 3), (82, .aload_n 0, 1), (83, .dup, 1), (84, .getfield 19, 3), (87, .iconst 1, 1), (88, .isub, 1), (89, .putfield 19, 3), (92, .return_, 1)]
abbrev cX7_entryWith : ByteArray := prog_9_method_8_code
def yX7_entryWith : MethodName := ⟨RX7, "entryWith", "(IJ)I"⟩
def tb_65 : List (Nat × Instr × Nat) := [(0, .iconst 0, 1), (1, .istore 4, 2), (3, .iload 4, 2), (5, .aload_n 0, 1), (6, .getfield 36, 3), (9, .if_icmp .ge 35, 3), (12, .aload_n 0, 1), (13, .getfield 39, 3), (16, .iload 4, 2), (18, .iaload, 1), (19, .iload_n 1, 1), (20, .if_icmp .ne 18, 3), (23, .aload_n 0, 1), (24, .getfield 42, 3), (27, .iload 4, 2), (29, .laload, 1), (30, .lload_n 2, 1), (31, .lcmp, 1), (32, .ifCond .ne 6, 3), (35, .iload 4, 2), (37, .ireturn, 1), (38, .iinc 4 1, 3), (41, .goto (-38), 3), (44, .bipush (-6), 2), (46, .ireturn, 1)]
abbrev cX7_addEntry : ByteArray := prog_9_method_9_code
def yX7_addEntry : MethodName := ⟨RX7, "addEntry", "(IJI)V"⟩
def tb_66 : List (Nat × Instr × Nat) := [(0, .aload_n 0, 1), (1, .aload_n 0, 1), (2, .iload_n 1, 1), (3, .lload_n 2, 1), (4, .invokevirtual 58, 3), (7, .invokevirtual 62, 3), (10, .aload_n 0, 1), (11, .getfield 36, 3), (14, .bipush 40, 2), (16, .if_icmp .lt 8, 3), (19, .aload_n 0, 1), (20, .iconst 0, 1), (21, .invokevirtual 62, 3), (24, .aload_n 0, 1), (25, .getfield 39, 3), (28, .aload_n 0, 1), (29, .getfield 36, 3), (32, .iload_n 1, 1), (33, .iastore, 1), (34, .aload_n 0, 1), (35, .getfield 42, 3), (38, .aload_n 0, 1), (39, .getfield 36, 3), (42, .lload_n 2, 1), (43, .lastore, 1), (44, .aload_n 0, 1), (45, .getfield 45, 3), (48, .aload_n 0, 1), (49, .getfield 36, 3), (52, .iload 4, 2), (54, .iastore, 1), (55, .aload_n 0, 1), (56, .dup, 1), (57, .getfield 36, 3), (60, .iconst 1, 1), (61, .iadd, 1), (62, .putfield 36, 3), (65, .return_, 1)]
abbrev cX7_dropEntry : ByteArray := prog_9_method_10_code
def yX7_dropEntry : MethodName := ⟨RX7, "dropEntry", "(I)V"⟩
def tb_67 : List (Nat × Instr × Nat) := [(0, .aload_n 0, 1), (1, .getfield 36, 3), (4, .iload_n 1, 1), (5, .isub, 1), (6, .iconst 1, 1), (7, .isub, 1), (8, .istore_n 2, 1), (9, .iload_n 1, 1), (10, .ifCond .lt 7, 3), (13, .iload_n 2, 1), (14, .ifCond .ge 4, 3), (17, .return_, 1), (18, .aload_n 0, 1), (19, .getfield 39, 3), (22, .iload_n 1, 1), (23, .iconst 1, 1), (24, .iadd, 1), (25, .aload_n 0, 1), (26, .getfield 39, 3), (29, .iload_n 1, 1), (30, .iload_n 2, 1), (31, .invokestatic 48, 3), (34, .aload_n 0, 1), (35, .getfield 42, 3), (38, .iload_n 1, 1), (39, .iconst 1, 1), (40, .iadd, 1), (41, .aload_n 0, 1), (42, .getfield 42, 3), (45, .iload_n 1, 1), (46, .iload_n 2, 1), (47, .invokestatic 48, 3), (50, .aload_n 0, 1), (51, .getfield 45, 3), (54, .iload_n 1, 1), (55, .iconst 1, 1), (56, .iadd, 1), (57, .aload_n 0, 1), (58, .getfield 45, 3), (61, .iload_n 1, 1), (62, .iload_n 2, 1), (63, .invokestatic 48, 3), (66, .aload_n 0, 1), (67, .dup, 1), (68, .getfield 36, 3), (71, .iconst 1, 1), (72, .isub, 1), (73, .putfield 36, 3), (76, .return_, 1)]
abbrev cX8_init : ByteArray := prog_1_method_1_code
def yX8_init : MethodName := ⟨RX8, "<init>", "()V"⟩
def tb_68 : List (Nat × Instr × Nat) := [(0, .aload_n 0, 1), (1, .invokespecial 3, 3), (4, .aload_n 0, 1), (5, .sipush 160, 3), (8, .newarray .char, 2), (10, .putfield 9, 3), (13, .aload_n 0, 1), (14, .bipush 10, 2), (16, .anewarray 13, 3), (19, .putfield 15, 3), (22, .aload_n 0, 1), (23, .bipush 11, 2), (25, .newarray .char, 2), (27, .putfield 19, 3), (30, .aload_n 0, 1), (31, .iconst 0, 1), (32, .putfield 22, 3), (35, .aload_n 0, 1), (36, .iconst 0, 1), (37, .putfield 26, 3), (40, .aload_n 0, 1), (41, .new 29, 3), (44, .dup, 1), (45, .invokespecial 31, 3), (48, .putfield 32, 3), (51, .aload_n 0, 1), (52, .new 36, 3), (55, .dup, 1), (56, .invokespecial 38, 3), (59, .putfield 39, 3), (62, .aload_n 0, 1), (63, .new 43, 3), (66, .dup, 1), (67, .aload_n 0, 1), (68, .getfield 39, 3), (71, .invokespecial 45, 3), (74, .putfield 48, 3), (77, .aload_n 0, 1), (78, .new 52, 3), (81, .dup, 1), (82, .aload_n 0, 1), (83, .getfield 39, 3), (86, .invokespecial 54, 3), (89, .putfield 55, 3), (92, .return_, 1)]
abbrev cX8_put : ByteArray := prog_1_method_2_code
def yX8_put : MethodName := ⟨RX8, "put", "(J)I"⟩
def tb_69 : List (Nat × Instr × Nat) := [(0, .lload_n 1, 1), (1, .invokestatic 59, 3), (4, .istore_n 3, 1), (5, .iload_n 3, 1), (6, .ifCond .ne 6, 3), (9, .bipush (-2), 2), (11, .ireturn, 1), (12, .aload_n 0, 1), (13, .getfield 22, 3), (16, .iload_n 3, 1), (17, .iadd, 1), (18, .sipush 160, 3), (21, .if_icmp .le 6, 3), (24, .bipush (-4), 2), (26, .ireturn, 1), (27, .iload_n 3, 1), (28, .iconst 1, 1), (29, .isub, 1), (30, .istore 4, 2), (32, .iload 4, 2), (34, .ifCond .lt 41, 3), (37, .aload_n 0, 1), (38, .getfield 9, 3), (41, .aload_n 0, 1), (42, .getfield 22, 3), (45, .lload_n 1, 1), (46, .bipush 8, 2), (48, .iload 4, 2), (50, .imul, 1), (51, .lushr, 1), (52, .ldc2_w 63, 3), (55, .land, 1), (56, .l2i, 1), (57, .i2c, 1), (58, .castore, 1), (59, .aload_n 0, 1), (60, .dup, 1), (61, .getfield 22, 3), (64, .iconst 1, 1), (65, .iadd, 1), (66, .putfield 22, 3), (69, .iinc 4 (-1), 3), (72, .goto (-40), 3), (75, .aload_n 0, 1), (76, .getfield 22, 3), (79, .ireturn, 1)]
abbrev cX8_wipe : ByteArray := prog_1_method_3_code
def yX8_wipe : MethodName := ⟨RX8, "wipe", "()I"⟩
def tb_70 : List (Nat × Instr × Nat) := [(0, .aload_n 0, 1), (1, .getfield 22, 3), (4, .istore_n 1, 1), (5, .aload_n 0, 1), (6, .iconst 0, 1), (7, .putfield 22, 3), (10, .iload_n 1, 1), (11, .ireturn, 1)]
abbrev cX8_fault : ByteArray := prog_1_method_4_code
def yX8_fault : MethodName := ⟨RX8, "fault", "(I)I"⟩
def tb_71 : List (Nat × Instr × Nat) := [(0, .iload_n 1, 1), (1, .ifCond .eq 11, 3), (4, .iload_n 1, 1), (5, .iconst 1, 1), (6, .if_icmp .eq 6, 3), (9, .bipush (-2), 2), (11, .ireturn, 1), (12, .iload_n 1, 1), (13, .ifCond .ne 21, 3), (16, .aload_n 0, 1), (17, .getfield 32, 3), (20, .aload_n 0, 1), (21, .getfield 9, 3), (24, .aload_n 0, 1), (25, .getfield 22, 3), (28, .invokevirtual 65, 3), (31, .goto 18, 3), (34, .aload_n 0, 1), (35, .getfield 32, 3), (38, .aload_n 0, 1), (39, .getfield 9, 3), (42, .aload_n 0, 1), (43, .getfield 22, 3), (46, .invokevirtual 69, 3), (49, .ireturn, 1)]
abbrev cX8_load : ByteArray := prog_1_method_5_code
def yX8_load : MethodName := ⟨RX8, "load", "(I)I"⟩
def tb_72 : List (Nat × Instr × Nat) := [(0, .iload_n 1, 1), (1, .invokestatic 72, 3), (4, .ifCond .ne 5, 3), (7, .iconst (-1), 1), (8, .ireturn, 1), (9, .aload_n 0, 1), (10, .getfield 32, 3), (13, .aload_n 0, 1), (14, .getfield 9, 3), (17, .aload_n 0, 1), (18, .getfield 22, 3), (21, .invokevirtual 65, 3), (24, .bipush (-6), 2), (26, .if_icmp .eq 6, 3), (29, .bipush (-3), 2), (31, .ireturn, 1), (32, .aload_n 0, 1), (33, .invokevirtual 76, 3), (36, .aload_n 0, 1), (37, .getfield 39, 3), (40, .iload_n 1, 1), (41, .invokevirtual 79, 3), (44, .aload_n 0, 1), (45, .getfield 39, 3), (48, .iload_n 1, 1), (49, .aload_n 0, 1), (50, .getfield 9, 3), (53, .aload_n 0, 1), (54, .getfield 22, 3), (57, .invokevirtual 83, 3), (60, .aload_n 0, 1), (61, .iconst 0, 1), (62, .putfield 22, 3), (65, .aload_n 0, 1), (66, .getfield 39, 3), (69, .getfield 87, 3), (72, .iload_n 1, 1), (73, .aaload, 1), (74, .getfield 91, 3), (77, .ireturn, 1)]
abbrev cX8_remove : ByteArray := prog_1_method_6_code
def yX8_remove : MethodName := ⟨RX8, "remove", "(I)I"⟩
def tb_73 : List (Nat × Instr × Nat) := [(0, .iload_n 1, 1), (1, .invokestatic 72, 3), (4, .ifCond .ne 5, 3), (7, .iconst (-1), 1), (8, .ireturn, 1), (9, .aload_n 0, 1), (10, .getfield 39, 3), (13, .getfield 96, 3), (16, .iload_n 1, 1), (17, .invokevirtual 100, 3), (20, .ifCond .ne 6, 3), (23, .bipush (-5), 2), (25, .ireturn, 1), (26, .aload_n 0, 1), (27, .invokevirtual 76, 3), (30, .aload_n 0, 1), (31, .getfield 39, 3), (34, .iload_n 1, 1), (35, .invokevirtual 79, 3), (38, .aload_n 0, 1), (39, .getfield 39, 3), (42, .iload_n 1, 1), (43, .aload_n 0, 1), (44, .getfield 9, 3), (47, .iconst 0, 1), (48, .invokevirtual 83, 3), (51, .aload_n 0, 1), (52, .getfield 39, 3), (55, .getfield 96, 3), (58, .invokevirtual 103, 3), (61, .ireturn, 1)]
abbrev cX8_character : ByteArray := prog_1_method_7_code
def yX8_character : MethodName := ⟨RX8, "character", "(II)I"⟩
def tb_74 : List (Nat × Instr × Nat) := [(0, .iload_n 1, 1), (1, .invokestatic 72, 3), (4, .ifCond .ne 5, 3), (7, .iconst (-1), 1), (8, .ireturn, 1), (9, .aload_n 0, 1), (10, .getfield 39, 3), (13, .getfield 96, 3), (16, .iload_n 1, 1), (17, .invokevirtual 100, 3), (20, .ifCond .ne 6, 3), (23, .bipush (-5), 2), (25, .ireturn, 1), (26, .aload_n 0, 1), (27, .getfield 39, 3), (30, .getfield 96, 3), (33, .getfield 107, 3), (36, .iload_n 1, 1), (37, .iaload, 1), (38, .istore_n 3, 1), (39, .iload_n 2, 1), (40, .iconst (-1), 1), (41, .if_icmp .ne 5, 3), (44, .iload_n 3, 1), (45, .ireturn, 1), (46, .iload_n 2, 1), (47, .ifCond .lt 29, 3), (50, .iload_n 2, 1), (51, .iload_n 3, 1), (52, .if_icmp .ge 24, 3), (55, .aload_n 0, 1), (56, .getfield 39, 3), (59, .getfield 96, 3), (62, .getfield 111, 3), (65, .iload_n 1, 1), (66, .sipush 160, 3), (69, .imul, 1), (70, .iload_n 2, 1), (71, .iadd, 1), (72, .caload, 1), (73, .goto 5, 3), (76, .bipush (-6), 2), (78, .ireturn, 1)]
abbrev cX8_about : ByteArray := prog_1_method_8_code
def yX8_about : MethodName := ⟨RX8, "about", "(II)I"⟩
def tb_75 : List (Nat × Instr × Nat) := [(0, .iload_n 1, 1), (1, .invokestatic 72, 3), (4, .ifCond .ne 5, 3), (7, .iconst (-1), 1), (8, .ireturn, 1), (9, .iload_n 2, 1), (10, .ifCond .lt 9, 3), (13, .iload_n 2, 1), (14, .bipush 7, 2), (16, .if_icmp .le 6, 3), (19, .bipush (-2), 2), (21, .ireturn, 1), (22, .aload_n 0, 1), (23, .getfield 39, 3), (26, .getfield 96, 3), (29, .iload_n 1, 1), (30, .invokevirtual 100, 3), (33, .ifCond .ne 6, 3), (36, .bipush (-5), 2), (38, .ireturn, 1), (39, .aload_n 0, 1), (40, .getfield 39, 3), (43, .getfield 87, 3), (46, .iload_n 1, 1), (47, .aaload, 1), (48, .astore_n 3, 1), (49, .aload_n 0, 1), (50, .getfield 39, 3), (53, .getfield 114, 3), (56, .iload_n 1, 1), (57, .aaload, 1), (58, .astore 4, 2), (60, .iload_n 2, 1), (61, .tableswitch 80 0 6 #[43, 48, 54, 60, 65, 70, 75], 43), (104, .aload_n 3, 1), (105, .getfield 91, 3), (108, .ireturn, 1), (109, .aload 4, 2), (111, .getfield 118, 3), (114, .ireturn, 1), (115, .aload 4, 2), (117, .getfield 121, 3), (120, .ireturn, 1), (121, .aload_n 3, 1), (122, .getfield 124, 3), (125, .ireturn, 1), (126, .aload_n 3, 1), (127, .getfield 127, 3), (130, .ireturn, 1), (131, .aload_n 3, 1), (132, .getfield 130, 3), (135, .ireturn, 1), (136, .aload_n 3, 1), (137, .getfield 133, 3), (140, .ireturn, 1), (141, .aload 4, 2), (143, .getfield 136, 3), (146, .ireturn, 1)]
abbrev cX8_heading : ByteArray := prog_1_method_9_code
def yX8_heading : MethodName := ⟨RX8, "heading", "(III)I"⟩
def tb_76 : List (Nat × Instr × Nat) := [(0, .aload_n 0, 1), (1, .iload_n 1, 1), (2, .iload_n 2, 1), (3, .invokevirtual 139, 3), (6, .ifCond .ne 5, 3), (9, .iconst (-1), 1), (10, .ireturn, 1), (11, .iload_n 3, 1), (12, .ifCond .lt 9, 3), (15, .iload_n 3, 1), (16, .bipush 12, 2), (18, .if_icmp .le 6, 3), (21, .bipush (-2), 2), (23, .ireturn, 1), (24, .aload_n 0, 1), (25, .getfield 39, 3), (28, .getfield 114, 3), (31, .iload_n 1, 1), (32, .aaload, 1), (33, .astore 4, 2), (35, .iload_n 3, 1), (36, .tableswitch 60 0 2 #[28, 36, 44], 28), (64, .aload 4, 2), (66, .getfield 143, 3), (69, .iload_n 2, 1), (70, .iaload, 1), (71, .ireturn, 1), (72, .aload 4, 2), (74, .getfield 146, 3), (77, .iload_n 2, 1), (78, .iaload, 1), (79, .ireturn, 1), (80, .aload 4, 2), (82, .getfield 149, 3), (85, .iload_n 2, 1), (86, .laload, 1), (87, .aload_n 0, 1), (88, .getfield 19, 3), (91, .iconst 0, 1), (92, .invokestatic 153, 3), (95, .ireturn, 1), (96, .aload 4, 2), (98, .iload_n 2, 1), (99, .iload_n 3, 1), (100, .iconst 2, 1), (101, .isub, 1), (102, .invokevirtual 159, 3), (105, .ireturn, 1)]
abbrev cX8_anchor : ByteArray := prog_1_method_10_code
def yX8_anchor : MethodName := ⟨RX8, "anchor", "(III)I"⟩
def tb_77 : List (Nat × Instr × Nat) := [(0, .aload_n 0, 1), (1, .iload_n 1, 1), (2, .iload_n 2, 1), (3, .invokevirtual 139, 3), (6, .ifCond .ne 5, 3), (9, .iconst (-1), 1), (10, .ireturn, 1), (11, .aload_n 0, 1), (12, .getfield 39, 3), (15, .getfield 114, 3), (18, .iload_n 1, 1), (19, .aaload, 1), (20, .getfield 149, 3), (23, .iload_n 2, 1), (24, .laload, 1), (25, .aload_n 0, 1), (26, .getfield 19, 3), (29, .iconst 0, 1), (30, .invokestatic 153, 3), (33, .istore 4, 2), (35, .iload_n 3, 1), (36, .ifCond .lt 18, 3), (39, .iload_n 3, 1), (40, .iload 4, 2), (42, .if_icmp .ge 12, 3), (45, .aload_n 0, 1), (46, .getfield 19, 3), (49, .iload_n 3, 1), (50, .caload, 1), (51, .goto 5, 3), (54, .bipush (-6), 2), (56, .ireturn, 1)]
abbrev cX8_section : ByteArray := prog_1_method_11_code
def yX8_section : MethodName := ⟨RX8, "section", "(III)I"⟩
def tb_78 : List (Nat × Instr × Nat) := [(0, .iload_n 1, 1), (1, .invokestatic 72, 3), (4, .ifCond .eq 23, 3), (7, .iload_n 2, 1), (8, .ifCond .lt 19, 3), (11, .iload_n 2, 1), (12, .aload_n 0, 1), (13, .getfield 39, 3), (16, .getfield 87, 3), (19, .iload_n 1, 1), (20, .aaload, 1), (21, .getfield 124, 3), (24, .if_icmp .lt 5, 3), (27, .iconst (-1), 1), (28, .ireturn, 1), (29, .iload_n 3, 1), (30, .tableswitch 71 0 2 #[26, 41, 56], 26), (56, .aload_n 0, 1), (57, .getfield 39, 3), (60, .getfield 87, 3), (63, .iload_n 1, 1), (64, .aaload, 1), (65, .getfield 163, 3), (68, .iload_n 2, 1), (69, .iaload, 1), (70, .ireturn, 1), (71, .aload_n 0, 1), (72, .getfield 39, 3), (75, .getfield 114, 3), (78, .iload_n 1, 1), (79, .aaload, 1), (80, .getfield 166, 3), (83, .iload_n 2, 1), (84, .iaload, 1), (85, .ireturn, 1), (86, .aload_n 0, 1), (87, .getfield 39, 3), (90, .getfield 87, 3), (93, .iload_n 1, 1), (94, .aaload, 1), (95, .getfield 169, 3), (98, .iload_n 2, 1), (99, .iaload, 1), (100, .ireturn, 1), (101, .bipush (-2), 2), (103, .ireturn, 1)]
abbrev cX8_cycles : ByteArray := prog_1_method_12_code
def yX8_cycles : MethodName := ⟨RX8, "cycles", "()I"⟩
def tb_79 : List (Nat × Instr × Nat) := [(0, .iconst 0, 1), (1, .istore_n 1, 1), (2, .iconst 0, 1), (3, .istore_n 2, 1), (4, .iload_n 2, 1), (5, .bipush 12, 2), (7, .if_icmp .ge 30, 3), (10, .aload_n 0, 1), (11, .getfield 39, 3), (14, .iload_n 2, 1), (15, .invokevirtual 172, 3), (18, .iload_n 2, 1), (19, .invokestatic 176, 3), (22, .ifCond .eq 9, 3), (25, .iload_n 1, 1), (26, .iconst 1, 1), (27, .iload_n 2, 1), (28, .ishl, 1), (29, .ior, 1), (30, .istore_n 1, 1), (31, .iinc 2 1, 3), (34, .goto (-30), 3), (37, .iload_n 1, 1), (38, .ireturn, 1)]
abbrev cX8_redirect : ByteArray := prog_1_method_13_code
def yX8_redirect : MethodName := ⟨RX8, "redirect", "()I"⟩
def tb_80 : List (Nat × Instr × Nat) := [(0, .aload_n 0, 1), (1, .getfield 32, 3), (4, .aload_n 0, 1), (5, .getfield 9, 3), (8, .aload_n 0, 1), (9, .getfield 22, 3), (12, .invokevirtual 69, 3), (15, .bipush (-6), 2), (17, .if_icmp .eq 6, 3), (20, .bipush (-3), 2), (22, .ireturn, 1), (23, .aload_n 0, 1), (24, .invokevirtual 179, 3), (27, .istore_n 1, 1), (28, .aload_n 0, 1), (29, .getfield 9, 3), (32, .iconst 0, 1), (33, .caload, 1), (34, .bipush 65, 2), (36, .isub, 1), (37, .istore_n 2, 1), (38, .aload_n 0, 1), (39, .getfield 9, 3), (42, .iconst 0, 1), (43, .iload_n 1, 1), (44, .invokestatic 182, 3), (47, .lstore_n 3, 1), (48, .aload_n 0, 1), (49, .getfield 9, 3), (52, .iload_n 1, 1), (53, .iconst 1, 1), (54, .iadd, 1), (55, .caload, 1), (56, .bipush 65, 2), (58, .isub, 1), (59, .istore 5, 2), (61, .aload_n 0, 1), (62, .getfield 9, 3), (65, .iload_n 1, 1), (66, .iconst 1, 1), (67, .iadd, 1), (68, .aload_n 0, 1), (69, .getfield 22, 3), (72, .invokestatic 182, 3), (75, .lstore 6, 2), (77, .aload_n 0, 1), (78, .getfield 39, 3), (81, .getfield 96, 3), (84, .iload_n 2, 1), (85, .lload_n 3, 1), (86, .invokevirtual 186, 3), (89, .bipush (-6), 2), (91, .if_icmp .ne 16, 3), (94, .iload_n 2, 1), (95, .iload 5, 2), (97, .if_icmp .ne 13, 3), (100, .lload_n 3, 1), (101, .lload 6, 2), (103, .lcmp, 1), (104, .ifCond .ne 6, 3), (107, .bipush (-5), 2), (109, .ireturn, 1), (110, .aload_n 0, 1), (111, .getfield 39, 3), (114, .getfield 96, 3), (117, .getfield 190, 3), (120, .bipush 12, 2), (122, .if_icmp .lt 6, 3), (125, .bipush (-4), 2), (127, .ireturn, 1), (128, .aload_n 0, 1), (129, .invokevirtual 76, 3), (132, .aload_n 0, 1), (133, .getfield 39, 3), (136, .getfield 96, 3), (139, .iload_n 2, 1), (140, .lload_n 3, 1), (141, .iload 5, 2), (143, .lload 6, 2), (145, .invokevirtual 193, 3), (148, .aload_n 0, 1), (149, .iconst 0, 1), (150, .putfield 22, 3), (153, .aload_n 0, 1), (154, .getfield 39, 3), (157, .getfield 96, 3), (160, .getfield 190, 3), (163, .ireturn, 1)]
abbrev cX8_unredirect : ByteArray := prog_1_method_14_code
def yX8_unredirect : MethodName := ⟨RX8, "unredirect", "(I)I"⟩
def tb_81 : List (Nat × Instr × Nat) := [(0, .aload_n 0, 1), (1, .iload_n 1, 1), (2, .invokevirtual 197, 3), (5, .ifCond .ne 5, 3), (8, .iconst (-1), 1), (9, .ireturn, 1), (10, .aload_n 0, 1), (11, .invokevirtual 76, 3), (14, .aload_n 0, 1), (15, .getfield 39, 3), (18, .getfield 96, 3), (21, .iload_n 1, 1), (22, .invokevirtual 200, 3), (25, .aload_n 0, 1), (26, .getfield 39, 3), (29, .getfield 96, 3), (32, .getfield 190, 3), (35, .ireturn, 1)]
abbrev cX8_redirection : ByteArray := prog_1_method_15_code
def yX8_redirection : MethodName := ⟨RX8, "redirection", "(II)I"⟩
def tb_82 : List (Nat × Instr × Nat) := [(0, .aload_n 0, 1), (1, .iload_n 1, 1), (2, .invokevirtual 197, 3), (5, .ifCond .ne 5, 3), (8, .iconst (-1), 1), (9, .ireturn, 1), (10, .iload_n 2, 1), (11, .tableswitch 111 0 4 #[33, 46, 69, 82, 105], 33), (44, .aload_n 0, 1), (45, .getfield 39, 3), (48, .getfield 96, 3), (51, .getfield 203, 3), (54, .iload_n 1, 1), (55, .iaload, 1), (56, .ireturn, 1), (57, .aload_n 0, 1), (58, .getfield 39, 3), (61, .getfield 96, 3), (64, .getfield 206, 3), (67, .iload_n 1, 1), (68, .laload, 1), (69, .lconst 0, 1), (70, .lcmp, 1), (71, .ifCond .ne 7, 3), (74, .iconst 0, 1), (75, .goto 4, 3), (78, .iconst 1, 1), (79, .ireturn, 1), (80, .aload_n 0, 1), (81, .getfield 39, 3), (84, .getfield 96, 3), (87, .getfield 209, 3), (90, .iload_n 1, 1), (91, .iaload, 1), (92, .ireturn, 1), (93, .aload_n 0, 1), (94, .getfield 39, 3), (97, .getfield 96, 3), (100, .getfield 212, 3), (103, .iload_n 1, 1), (104, .laload, 1), (105, .lconst 0, 1), (106, .lcmp, 1), (107, .ifCond .ne 7, 3), (110, .iconst 0, 1), (111, .goto 4, 3), (114, .iconst 1, 1), (115, .ireturn, 1), (116, .aload_n 0, 1), (117, .iload_n 1, 1), (118, .invokevirtual 215, 3), (121, .ireturn, 1), (122, .bipush (-2), 2), (124, .ireturn, 1)]
abbrev cX8_link : ByteArray := prog_1_method_16_code
def yX8_link : MethodName := ⟨RX8, "link", "(III)I"⟩
def tb_83 : List (Nat × Instr × Nat) := [(0, .aload_n 0, 1), (1, .iload_n 1, 1), (2, .iload_n 2, 1), (3, .invokevirtual 218, 3), (6, .ifCond .ne 5, 3), (9, .iconst (-1), 1), (10, .ireturn, 1), (11, .iload_n 3, 1), (12, .ifCond .lt 8, 3), (15, .iload_n 3, 1), (16, .iconst 5, 1), (17, .if_icmp .le 6, 3), (20, .bipush (-2), 2), (22, .ireturn, 1), (23, .aload_n 0, 1), (24, .getfield 39, 3), (27, .getfield 87, 3), (30, .iload_n 1, 1), (31, .aaload, 1), (32, .astore 4, 2), (34, .aload_n 0, 1), (35, .getfield 48, 3), (38, .aload 4, 2), (40, .iload_n 2, 1), (41, .invokevirtual 221, 3), (44, .iload_n 3, 1), (45, .tableswitch 85 0 4 #[35, 43, 51, 69, 77], 35), (80, .aload_n 0, 1), (81, .getfield 48, 3), (84, .getfield 225, 3), (87, .ireturn, 1), (88, .aload 4, 2), (90, .getfield 228, 3), (93, .iload_n 2, 1), (94, .iaload, 1), (95, .ireturn, 1), (96, .aload 4, 2), (98, .getfield 231, 3), (101, .iload_n 2, 1), (102, .laload, 1), (103, .lconst 0, 1), (104, .lcmp, 1), (105, .ifCond .ne 7, 3), (108, .iconst 0, 1), (109, .goto 4, 3), (112, .iconst 1, 1), (113, .ireturn, 1), (114, .aload_n 0, 1), (115, .getfield 48, 3), (118, .getfield 234, 3), (121, .ireturn, 1), (122, .aload_n 0, 1), (123, .getfield 48, 3), (126, .getfield 237, 3), (129, .ireturn, 1), (130, .aload_n 0, 1), (131, .getfield 48, 3), (134, .getfield 240, 3), (137, .ireturn, 1)]
abbrev cX8_tally : ByteArray := prog_1_method_17_code
def yX8_tally : MethodName := ⟨RX8, "tally", "(I)I"⟩
def tb_84 : List (Nat × Instr × Nat) := [(0, .iload_n 1, 1), (1, .ifCond .lt 8, 3), (4, .iload_n 1, 1), (5, .iconst 4, 1), (6, .if_icmp .le 6, 3), (9, .bipush (-2), 2), (11, .ireturn, 1), (12, .aload_n 0, 1), (13, .iload_n 1, 1), (14, .iload_n 1, 1), (15, .invokevirtual 243, 3), (18, .ireturn, 1)]
abbrev cX8_reach : ByteArray := prog_1_method_18_code
def yX8_reach : MethodName := ⟨RX8, "reach", "(II)I"⟩
def tb_85 : List (Nat × Instr × Nat) := [(0, .iload_n 1, 1), (1, .invokestatic 72, 3), (4, .ifCond .ne 5, 3), (7, .iconst (-1), 1), (8, .ireturn, 1), (9, .iload_n 2, 1), (10, .ifCond .eq 11, 3), (13, .iload_n 2, 1), (14, .iconst 1, 1), (15, .if_icmp .eq 6, 3), (18, .bipush (-2), 2), (20, .ireturn, 1), (21, .aload_n 0, 1), (22, .iload_n 1, 1), (23, .invokevirtual 246, 3), (26, .istore_n 3, 1), (27, .iload_n 2, 1), (28, .ifCond .ne 7, 3), (31, .iload_n 3, 1), (32, .goto 17, 3), (35, .aload_n 0, 1), (36, .getfield 39, 3), (39, .getfield 96, 3), (42, .invokevirtual 103, 3), (45, .iload_n 3, 1), (46, .iconst (-1), 1), (47, .ixor, 1), (48, .iand, 1), (49, .ireturn, 1)]
abbrev cX8_memory : ByteArray := prog_1_method_19_code
def yX8_memory : MethodName := ⟨RX8, "memory", "(II)I"⟩
def tb_86 : List (Nat × Instr × Nat) := [(0, .iload_n 2, 1), (1, .ifCond .lt 8, 3), (4, .iload_n 2, 1), (5, .iconst 3, 1), (6, .if_icmp .le 6, 3), (9, .bipush (-2), 2), (11, .ireturn, 1), (12, .aload_n 0, 1), (13, .getfield 39, 3), (16, .getfield 96, 3), (19, .astore_n 3, 1), (20, .iload_n 1, 1), (21, .iconst (-1), 1), (22, .if_icmp .ne 8, 3), (25, .aload_n 3, 1), (26, .getfield 249, 3), (29, .ireturn, 1), (30, .iload_n 1, 1), (31, .ifCond .lt 11, 3), (34, .iload_n 1, 1), (35, .aload_n 3, 1), (36, .getfield 249, 3), (39, .if_icmp .lt 6, 3), (42, .bipush (-6), 2), (44, .ireturn, 1), (45, .iload_n 2, 1), (46, .tableswitch 55 0 2 #[26, 33, 40], 26), (72, .aload_n 3, 1), (73, .getfield 252, 3), (76, .iload_n 1, 1), (77, .iaload, 1), (78, .ireturn, 1), (79, .aload_n 3, 1), (80, .getfield 255, 3), (83, .iload_n 1, 1), (84, .iaload, 1), (85, .ireturn, 1), (86, .aload_n 3, 1), (87, .getfield 258, 3), (90, .iload_n 1, 1), (91, .laload, 1), (92, .aload_n 0, 1), (93, .getfield 19, 3), (96, .iconst 0, 1), (97, .invokestatic 153, 3), (100, .ireturn, 1), (101, .aload_n 0, 1), (102, .getfield 39, 3), (105, .aload_n 3, 1), (106, .getfield 255, 3), (109, .iload_n 1, 1), (110, .iaload, 1), (111, .invokevirtual 261, 3), (114, .ireturn, 1)]
abbrev cX8_repair : ByteArray := prog_1_method_20_code
def yX8_repair : MethodName := ⟨RX8, "repair", "(III)I"⟩
def tb_87 : List (Nat × Instr × Nat) := [(0, .aload_n 0, 1), (1, .iload_n 1, 1), (2, .iload_n 2, 1), (3, .invokevirtual 218, 3), (6, .ifCond .ne 5, 3), (9, .iconst (-1), 1), (10, .ireturn, 1), (11, .iload_n 3, 1), (12, .ifCond .lt 8, 3), (15, .iload_n 3, 1), (16, .iconst 2, 1), (17, .if_icmp .le 6, 3), (20, .bipush (-2), 2), (22, .ireturn, 1), (23, .aload_n 0, 1), (24, .iload_n 1, 1), (25, .iload_n 2, 1), (26, .invokevirtual 264, 3), (29, .ifCond .ne 6, 3), (32, .bipush (-5), 2), (34, .ireturn, 1), (35, .aload_n 0, 1), (36, .getfield 55, 3), (39, .aload_n 0, 1), (40, .getfield 39, 3), (43, .getfield 87, 3), (46, .iload_n 1, 1), (47, .aaload, 1), (48, .iload_n 2, 1), (49, .invokevirtual 267, 3), (52, .iload_n 3, 1), (53, .lookupswitch 43 #[(0, 27), (1, 35)], 27), (80, .aload_n 0, 1), (81, .getfield 55, 3), (84, .getfield 270, 3), (87, .ireturn, 1), (88, .aload_n 0, 1), (89, .getfield 55, 3), (92, .getfield 273, 3), (95, .ireturn, 1), (96, .aload_n 0, 1), (97, .getfield 55, 3), (100, .getfield 274, 3), (103, .ireturn, 1)]
abbrev cX8_mend : ByteArray := prog_1_method_21_code
def yX8_mend : MethodName := ⟨RX8, "mend", "(II)I"⟩
def tb_88 : List (Nat × Instr × Nat) := [(0, .aload_n 0, 1), (1, .iload_n 1, 1), (2, .iload_n 2, 1), (3, .invokevirtual 218, 3), (6, .ifCond .ne 5, 3), (9, .iconst (-1), 1), (10, .ireturn, 1), (11, .aload_n 0, 1), (12, .iload_n 1, 1), (13, .iload_n 2, 1), (14, .invokevirtual 264, 3), (17, .ifCond .ne 6, 3), (20, .bipush (-5), 2), (22, .ireturn, 1), (23, .aload_n 0, 1), (24, .getfield 55, 3), (27, .aload_n 0, 1), (28, .getfield 39, 3), (31, .getfield 87, 3), (34, .iload_n 1, 1), (35, .aaload, 1), (36, .iload_n 2, 1), (37, .invokevirtual 267, 3), (40, .aload_n 0, 1), (41, .iload_n 1, 1), (42, .iload_n 2, 1), (43, .aload_n 0, 1), (44, .getfield 55, 3), (47, .getfield 273, 3), (50, .aload_n 0, 1), (51, .getfield 55, 3), (54, .getfield 275, 3), (57, .iconst 1, 1), (58, .invokevirtual 278, 3), (61, .ireturn, 1)]
abbrev cX8_mendAll : ByteArray := prog_1_method_22_code
def yX8_mendAll : MethodName := ⟨RX8, "mendAll", "()I"⟩
def tb_89 : List (Nat × Instr × Nat) := [(0, .iconst 0, 1), (1, .istore_n 1, 1), (2, .iconst 0, 1), (3, .istore_n 2, 1), (4, .iload_n 2, 1), (5, .bipush 12, 2), (7, .if_icmp .ge 103, 3), (10, .iconst 0, 1), (11, .istore_n 3, 1), (12, .iload_n 3, 1), (13, .aload_n 0, 1), (14, .getfield 39, 3), (17, .getfield 87, 3), (20, .iload_n 2, 1), (21, .aaload, 1), (22, .getfield 127, 3), (25, .if_icmp .ge 79, 3), (28, .aload_n 0, 1), (29, .iload_n 2, 1), (30, .iload_n 3, 1), (31, .invokevirtual 264, 3), (34, .ifCond .eq 64, 3), (37, .aload_n 0, 1), (38, .getfield 55, 3), (41, .aload_n 0, 1), (42, .getfield 39, 3), (45, .getfield 87, 3), (48, .iload_n 2, 1), (49, .aaload, 1), (50, .iload_n 3, 1), (51, .invokevirtual 267, 3), (54, .aload_n 0, 1), (55, .iload_n 2, 1), (56, .iload_n 3, 1), (57, .aload_n 0, 1), (58, .getfield 55, 3), (61, .getfield 273, 3), (64, .aload_n 0, 1), (65, .getfield 55, 3), (68, .getfield 275, 3), (71, .iload_n 1, 1), (72, .ifCond .ne 7, 3), (75, .iconst 1, 1), (76, .goto 4, 3), (79, .iconst 0, 1), (80, .invokevirtual 278, 3), (83, .istore 4, 2), (85, .iload_n 1, 1), (86, .iload 4, 2), (88, .ifCond .lt 7, 3), (91, .iconst 1, 1), (92, .goto 4, 3), (95, .iconst 0, 1), (96, .iadd, 1), (97, .istore_n 1, 1), (98, .iinc 3 1, 3), (101, .goto (-89), 3), (104, .iinc 2 1, 3), (107, .goto (-103), 3), (110, .iload_n 1, 1), (111, .ireturn, 1)]
abbrev cX8_straighten : ByteArray := prog_1_method_23_code
def yX8_straighten : MethodName := ⟨RX8, "straighten", "(II)I"⟩
def tb_90 : List (Nat × Instr × Nat) := [(0, .aload_n 0, 1), (1, .iload_n 1, 1), (2, .iload_n 2, 1), (3, .invokevirtual 218, 3), (6, .ifCond .ne 5, 3), (9, .iconst (-1), 1), (10, .ireturn, 1), (11, .aload_n 0, 1), (12, .getfield 39, 3), (15, .getfield 87, 3), (18, .iload_n 1, 1), (19, .aaload, 1), (20, .astore_n 3, 1), (21, .aload_n 0, 1), (22, .getfield 48, 3), (25, .aload_n 3, 1), (26, .iload_n 2, 1), (27, .invokevirtual 221, 3), (30, .aload_n 0, 1), (31, .getfield 48, 3), (34, .getfield 225, 3), (37, .iconst 1, 1), (38, .if_icmp .eq 6, 3), (41, .bipush (-5), 2), (43, .ireturn, 1), (44, .aload_n 0, 1), (45, .iload_n 1, 1), (46, .iload_n 2, 1), (47, .aload_n 0, 1), (48, .getfield 48, 3), (51, .getfield 237, 3), (54, .aload_n 0, 1), (55, .getfield 48, 3), (58, .getfield 282, 3), (61, .iconst 1, 1), (62, .invokevirtual 278, 3), (65, .ireturn, 1)]
abbrev cX8_undo : ByteArray := prog_1_method_24_code
def yX8_undo : MethodName := ⟨RX8, "undo", "()I"⟩
def tb_91 : List (Nat × Instr × Nat) := [(0, .aload_n 0, 1), (1, .getfield 26, 3), (4, .ifCond .gt 6, 3), (7, .bipush (-5), 2), (9, .ireturn, 1), (10, .aload_n 0, 1), (11, .getfield 15, 3), (14, .aload_n 0, 1), (15, .getfield 26, 3), (18, .iconst 1, 1), (19, .isub, 1), (20, .aaload, 1), (21, .astore_n 1, 1), (22, .aload_n 1, 1), (23, .ifnonnull 6, 3), (26, .bipush (-5), 2), (28, .ireturn, 1), (29, .aload_n 0, 1), (30, .dup, 1), (31, .getfield 26, 3), (34, .iconst 1, 1), (35, .isub, 1), (36, .putfield 26, 3), (39, .aload_n 0, 1), (40, .getfield 39, 3), (43, .aload_n 1, 1), (44, .invokevirtual 283, 3), (47, .aload_n 0, 1), (48, .getfield 26, 3), (51, .ireturn, 1)]
abbrev cX8_count : ByteArray := prog_1_method_25_code
def yX8_count : MethodName := ⟨RX8, "count", "(I)I"⟩
def tb_92 : List (Nat × Instr × Nat) := [(0, .iload_n 1, 1), (1, .tableswitch 100 0 6 #[43, 54, 59, 70, 81, 88, 95], 43), (44, .aload_n 0, 1), (45, .getfield 39, 3), (48, .getfield 96, 3), (51, .invokevirtual 103, 3), (54, .ireturn, 1), (55, .aload_n 0, 1), (56, .getfield 22, 3), (59, .ireturn, 1), (60, .aload_n 0, 1), (61, .getfield 39, 3), (64, .getfield 96, 3), (67, .getfield 190, 3), (70, .ireturn, 1), (71, .aload_n 0, 1), (72, .getfield 39, 3), (75, .getfield 96, 3), (78, .getfield 249, 3), (81, .ireturn, 1), (82, .aload_n 0, 1), (83, .iconst 0, 1), (84, .iconst 4, 1), (85, .invokevirtual 243, 3), (88, .ireturn, 1), (89, .aload_n 0, 1), (90, .iconst 2, 1), (91, .iconst 4, 1), (92, .invokevirtual 243, 3), (95, .ireturn, 1), (96, .aload_n 0, 1), (97, .getfield 26, 3), (100, .ireturn, 1), (101, .bipush (-2), 2), (103, .ireturn, 1)]
abbrev cX8_isPage : ByteArray := prog_1_method_26_code
def yX8_isPage : MethodName := ⟨RX8, "isPage", "(I)Z"⟩
def tb_93 : List (Nat × Instr × Nat) := [(0, .iload_n 0, 1), (1, .ifCond .lt 13, 3), (4, .iload_n 0, 1), (5, .bipush 12, 2), (7, .if_icmp .ge 7, 3), (10, .iconst 1, 1), (11, .goto 4, 3), (14, .iconst 0, 1), (15, .ireturn, 1)]
abbrev cX8_isHeading : ByteArray := prog_1_method_27_code
def yX8_isHeading : MethodName := ⟨RX8, "isHeading", "(II)Z"⟩
def tb_94 : List (Nat × Instr × Nat) := [(0, .iload_n 1, 1), (1, .invokestatic 72, 3), (4, .ifCond .eq 27, 3), (7, .iload_n 2, 1), (8, .ifCond .lt 23, 3), (11, .iload_n 2, 1), (12, .aload_n 0, 1), (13, .getfield 39, 3), (16, .getfield 114, 3), (19, .iload_n 1, 1), (20, .aaload, 1), (21, .getfield 121, 3), (24, .if_icmp .ge 7, 3), (27, .iconst 1, 1), (28, .goto 4, 3), (31, .iconst 0, 1), (32, .ireturn, 1)]
abbrev cX8_isLink : ByteArray := prog_1_method_28_code
def yX8_isLink : MethodName := ⟨RX8, "isLink", "(II)Z"⟩
def tb_95 : List (Nat × Instr × Nat) := [(0, .iload_n 1, 1), (1, .invokestatic 72, 3), (4, .ifCond .eq 27, 3), (7, .iload_n 2, 1), (8, .ifCond .lt 23, 3), (11, .iload_n 2, 1), (12, .aload_n 0, 1), (13, .getfield 39, 3), (16, .getfield 87, 3), (19, .iload_n 1, 1), (20, .aaload, 1), (21, .getfield 127, 3), (24, .if_icmp .ge 7, 3), (27, .iconst 1, 1), (28, .goto 4, 3), (31, .iconst 0, 1), (32, .ireturn, 1)]
abbrev cX8_isRedirect : ByteArray := prog_1_method_29_code
def yX8_isRedirect : MethodName := ⟨RX8, "isRedirect", "(I)Z"⟩
def tb_96 : List (Nat × Instr × Nat) := [(0, .iload_n 1, 1), (1, .ifCond .lt 21, 3), (4, .iload_n 1, 1), (5, .aload_n 0, 1), (6, .getfield 39, 3), (9, .getfield 96, 3), (12, .getfield 190, 3), (15, .if_icmp .ge 7, 3), (18, .iconst 1, 1), (19, .goto 4, 3), (22, .iconst 0, 1), (23, .ireturn, 1)]
abbrev cX8_isIn : ByteArray := prog_1_method_30_code
def yX8_isIn : MethodName := ⟨RX8, "isIn", "(II)Z"⟩
def tb_97 : List (Nat × Instr × Nat) := [(0, .iload_n 0, 1), (1, .iload_n 1, 1), (2, .iushr, 1), (3, .iconst 1, 1), (4, .iand, 1), (5, .ifCond .eq 7, 3), (8, .iconst 1, 1), (9, .goto 4, 3), (12, .iconst 0, 1), (13, .ireturn, 1)]
abbrev cX8_charactersIn : ByteArray := prog_1_method_31_code
def yX8_charactersIn : MethodName := ⟨RX8, "charactersIn", "(J)I"⟩
def tb_98 : List (Nat × Instr × Nat) := [(0, .iconst 0, 1), (1, .istore_n 2, 1), (2, .iload_n 2, 1), (3, .bipush 8, 2), (5, .if_icmp .ge 51, 3), (8, .lload_n 0, 1), (9, .bipush 8, 2), (11, .iload_n 2, 1), (12, .imul, 1), (13, .lushr, 1), (14, .lstore_n 3, 1), (15, .lload_n 3, 1), (16, .lconst 0, 1), (17, .lcmp, 1), (18, .ifCond .ne 5, 3), (21, .iload_n 2, 1), (22, .ireturn, 1), (23, .lload_n 3, 1), (24, .ldc2_w 63, 3), (27, .land, 1), (28, .lstore 5, 2), (30, .lload 5, 2), (32, .ldc2_w 287, 3), (35, .lcmp, 1), (36, .ifCond .lt 12, 3), (39, .lload 5, 2), (41, .ldc2_w 289, 3), (44, .lcmp, 1), (45, .ifCond .le 5, 3), (48, .iconst 0, 1), (49, .ireturn, 1), (50, .iinc 2 1, 3), (53, .goto (-51), 3), (56, .bipush 8, 2), (58, .ireturn, 1)]
abbrev cX8_arrowInPad : ByteArray := prog_1_method_32_code
def yX8_arrowInPad : MethodName := ⟨RX8, "arrowInPad", "()I"⟩
def tb_99 : List (Nat × Instr × Nat) := [(0, .iconst 0, 1), (1, .istore_n 1, 1), (2, .iload_n 1, 1), (3, .aload_n 0, 1), (4, .getfield 22, 3), (7, .iconst 1, 1), (8, .isub, 1), (9, .if_icmp .ge 22, 3), (12, .aload_n 0, 1), (13, .getfield 9, 3), (16, .iload_n 1, 1), (17, .caload, 1), (18, .bipush 62, 2), (20, .if_icmp .ne 5, 3), (23, .iload_n 1, 1), (24, .ireturn, 1), (25, .iinc 1 1, 3), (28, .goto (-26), 3), (31, .iconst 0, 1), (32, .ireturn, 1)]
abbrev cX8_isBroken : ByteArray := prog_1_method_33_code
def yX8_isBroken : MethodName := ⟨RX8, "isBroken", "(II)Z"⟩
def tb_100 : List (Nat × Instr × Nat) := [(0, .aload_n 0, 1), (1, .getfield 39, 3), (4, .getfield 87, 3), (7, .iload_n 1, 1), (8, .aaload, 1), (9, .astore_n 3, 1), (10, .aload_n 0, 1), (11, .getfield 48, 3), (14, .aload_n 3, 1), (15, .iload_n 2, 1), (16, .invokevirtual 221, 3), (19, .aload_n 0, 1), (20, .getfield 48, 3), (23, .getfield 225, 3), (26, .iconst 2, 1), (27, .if_icmp .lt 7, 3), (30, .iconst 1, 1), (31, .goto 4, 3), (34, .iconst 0, 1), (35, .ireturn, 1)]
abbrev cX8_linksOfKinds : ByteArray := prog_1_method_34_code
def yX8_linksOfKinds : MethodName := ⟨RX8, "linksOfKinds", "(II)I"⟩
def tb_101 : List (Nat × Instr × Nat) := [(0, .iconst 0, 1), (1, .istore_n 3, 1), (2, .iconst 0, 1), (3, .istore 4, 2), (5, .iload 4, 2), (7, .bipush 12, 2), (9, .if_icmp .ge 76, 3), (12, .aload_n 0, 1), (13, .getfield 39, 3), (16, .getfield 87, 3), (19, .iload 4, 2), (21, .aaload, 1), (22, .astore 5, 2), (24, .iconst 0, 1), (25, .istore 6, 2), (27, .iload 6, 2), (29, .aload 5, 2), (31, .getfield 127, 3), (34, .if_icmp .ge 45, 3), (37, .aload_n 0, 1), (38, .getfield 48, 3), (41, .aload 5, 2), (43, .iload 6, 2), (45, .invokevirtual 221, 3), (48, .aload_n 0, 1), (49, .getfield 48, 3), (52, .getfield 225, 3), (55, .iload_n 1, 1), (56, .if_icmp .lt 17, 3), (59, .aload_n 0, 1), (60, .getfield 48, 3), (63, .getfield 225, 3), (66, .iload_n 2, 1), (67, .if_icmp .gt 6, 3), (70, .iinc 3 1, 3), (73, .iinc 6 1, 3), (76, .goto (-49), 3), (79, .iinc 4 1, 3), (82, .goto (-77), 3), (85, .iload_n 3, 1), (86, .ireturn, 1)]
abbrev cX8_usesOf : ByteArray := prog_1_method_35_code
def yX8_usesOf : MethodName := ⟨RX8, "usesOf", "(I)I"⟩
def tb_102 : List (Nat × Instr × Nat) := [(0, .iconst 0, 1), (1, .istore_n 2, 1), (2, .iconst 0, 1), (3, .istore_n 3, 1), (4, .iload_n 3, 1), (5, .bipush 12, 2), (7, .if_icmp .ge 61, 3), (10, .aload_n 0, 1), (11, .getfield 39, 3), (14, .getfield 87, 3), (17, .iload_n 3, 1), (18, .aaload, 1), (19, .astore 4, 2), (21, .iconst 0, 1), (22, .istore 5, 2), (24, .iload 5, 2), (26, .aload 4, 2), (28, .getfield 127, 3), (31, .if_icmp .ge 31, 3), (34, .aload_n 0, 1), (35, .getfield 48, 3), (38, .aload 4, 2), (40, .iload 5, 2), (42, .invokevirtual 221, 3), (45, .iload_n 2, 1), (46, .aload_n 0, 1), (47, .getfield 48, 3), (50, .iload_n 1, 1), (51, .invokevirtual 291, 3), (54, .iadd, 1), (55, .istore_n 2, 1), (56, .iinc 5 1, 3), (59, .goto (-35), 3), (62, .iinc 3 1, 3), (65, .goto (-61), 3), (68, .iload_n 2, 1), (69, .ireturn, 1)]
abbrev cX8_reachedFrom : ByteArray := prog_1_method_36_code
def yX8_reachedFrom : MethodName := ⟨RX8, "reachedFrom", "(I)I"⟩
def tb_103 : List (Nat × Instr × Nat) := [(0, .iconst 1, 1), (1, .iload_n 1, 1), (2, .ishl, 1), (3, .istore_n 2, 1), (4, .iconst 0, 1), (5, .istore_n 3, 1), (6, .iconst 0, 1), (7, .istore 4, 2), (9, .iload 4, 2), (11, .bipush 12, 2), (13, .if_icmp .ge 59, 3), (16, .iload_n 3, 1), (17, .iload_n 2, 1), (18, .if_icmp .eq 54, 3), (21, .iconst 0, 1), (22, .istore 5, 2), (24, .iload 5, 2), (26, .bipush 12, 2), (28, .if_icmp .ge 38, 3), (31, .iload_n 2, 1), (32, .iload_n 3, 1), (33, .iconst (-1), 1), (34, .ixor, 1), (35, .iand, 1), (36, .iload 5, 2), (38, .invokestatic 176, 3), (41, .ifCond .eq 19, 3), (44, .iload_n 3, 1), (45, .iconst 1, 1), (46, .iload 5, 2), (48, .ishl, 1), (49, .ior, 1), (50, .istore_n 3, 1), (51, .iload_n 2, 1), (52, .aload_n 0, 1), (53, .iload 5, 2), (55, .invokevirtual 292, 3), (58, .ior, 1), (59, .istore_n 2, 1), (60, .iinc 5 1, 3), (63, .goto (-39), 3), (66, .iinc 4 1, 3), (69, .goto (-60), 3), (72, .iload_n 2, 1), (73, .ireturn, 1)]
abbrev cX8_neighboursOf : ByteArray := prog_1_method_37_code
def yX8_neighboursOf : MethodName := ⟨RX8, "neighboursOf", "(I)I"⟩
def tb_104 : List (Nat × Instr × Nat) := [(0, .aload_n 0, 1), (1, .getfield 39, 3), (4, .getfield 87, 3), (7, .iload_n 1, 1), (8, .aaload, 1), (9, .astore_n 2, 1), (10, .aload_n 2, 1), (11, .getfield 133, 3), (14, .istore_n 3, 1), (15, .iconst 0, 1), (16, .istore 4, 2), (18, .iload 4, 2), (20, .aload_n 2, 1), (21, .getfield 127, 3), (24, .if_icmp .ge 52, 3), (27, .aload_n 0, 1), (28, .getfield 48, 3), (31, .aload_n 2, 1), (32, .iload 4, 2), (34, .invokevirtual 221, 3), (37, .aload_n 0, 1), (38, .getfield 48, 3), (41, .getfield 225, 3), (44, .ifCond .eq 14, 3), (47, .aload_n 0, 1), (48, .getfield 48, 3), (51, .getfield 225, 3), (54, .iconst 1, 1), (55, .if_icmp .ne 15, 3), (58, .iload_n 3, 1), (59, .iconst 1, 1), (60, .aload_n 0, 1), (61, .getfield 48, 3), (64, .getfield 237, 3), (67, .ishl, 1), (68, .ior, 1), (69, .istore_n 3, 1), (70, .iinc 4 1, 3), (73, .goto (-55), 3), (76, .iload_n 3, 1), (77, .ireturn, 1)]
abbrev cX8_writePlace : ByteArray := prog_1_method_38_code
def yX8_writePlace : MethodName := ⟨RX8, "writePlace", "(IIIJZ)I"⟩
def tb_105 : List (Nat × Instr × Nat) := [(0, .aload_n 0, 1), (1, .getfield 39, 3), (4, .iload_n 1, 1), (5, .iload_n 2, 1), (6, .iload_n 3, 1), (7, .lload 4, 2), (9, .invokevirtual 295, 3), (12, .istore 7, 2), (14, .iload 7, 2), (16, .sipush 160, 3), (19, .if_icmp .le 6, 3), (22, .bipush (-4), 2), (24, .ireturn, 1), (25, .iload 6, 2), (27, .ifCond .eq 7, 3), (30, .aload_n 0, 1), (31, .invokevirtual 76, 3), (34, .aload_n 0, 1), (35, .getfield 39, 3), (38, .iload_n 1, 1), (39, .iload_n 2, 1), (40, .invokevirtual 299, 3), (43, .iload 7, 2), (45, .ireturn, 1)]
abbrev cX8_keepState : ByteArray := prog_1_method_39_code
def yX8_keepState : MethodName := ⟨RX8, "keepState", "()V"⟩
def tb_106 : List (Nat × Instr × Nat) := [(0, .aload_n 0, 1), (1, .getfield 26, 3), (4, .bipush 10, 2), (6, .if_icmp .lt 52, 3), (9, .aload_n 0, 1), (10, .getfield 15, 3), (13, .iconst 0, 1), (14, .aaload, 1), (15, .astore_n 1, 1), (16, .iconst 1, 1), (17, .istore_n 2, 1), (18, .iload_n 2, 1), (19, .bipush 10, 2), (21, .if_icmp .ge 23, 3), (24, .aload_n 0, 1), (25, .getfield 15, 3), (28, .iload_n 2, 1), (29, .iconst 1, 1), (30, .isub, 1), (31, .aload_n 0, 1), (32, .getfield 15, 3), (35, .iload_n 2, 1), (36, .aaload, 1), (37, .aastore, 1), (38, .iinc 2 1, 3), (41, .goto (-23), 3), (44, .aload_n 0, 1), (45, .getfield 15, 3), (48, .bipush 9, 2), (50, .aload_n 1, 1), (51, .aastore, 1), (52, .aload_n 0, 1), (53, .bipush 9, 2), (55, .putfield 26, 3), (58, .aload_n 0, 1), (59, .getfield 15, 3), (62, .aload_n 0, 1), (63, .getfield 26, 3), (66, .aaload, 1), (67, .ifnonnull 19, 3), (70, .aload_n 0, 1), (71, .getfield 15, 3), (74, .aload_n 0, 1), (75, .getfield 26, 3), (78, .new 13, 3), (81, .dup, 1), (82, .invokespecial 303, 3), (85, .aastore, 1), (86, .aload_n 0, 1), (87, .getfield 15, 3), (90, .aload_n 0, 1), (91, .getfield 26, 3), (94, .aaload, 1), (95, .aload_n 0, 1), (96, .getfield 39, 3), (99, .getfield 96, 3), (102, .invokevirtual 304, 3), (105, .aload_n 0, 1), (106, .dup, 1), (107, .getfield 26, 3), (110, .iconst 1, 1), (111, .iadd, 1), (112, .putfield 26, 3), (115, .return_, 1)]
abbrev cX9_init : ByteArray := prog_11_method_1_code
def yX9_init : MethodName := ⟨RX9, "<init>", "()V"⟩
def tb_107 : List (Nat × Instr × Nat) := [(0, .aload_n 0, 1), (1, .invokespecial 1, 3), (4, .aload_n 0, 1), (5, .sipush 160, 3), (8, .newarray .int, 2), (10, .putfield 7, 3), (13, .aload_n 0, 1), (14, .sipush 2830, 3), (17, .newarray .int, 2), (19, .putfield 13, 3), (22, .aload_n 0, 1), (23, .sipush 28300, 3), (26, .newarray .int, 2), (28, .putfield 16, 3), (31, .aload_n 0, 1), (32, .bipush 12, 2), (34, .newarray .int, 2), (36, .putfield 19, 3), (39, .aload_n 0, 1), (40, .bipush 28, 2), (42, .newarray .int, 2), (44, .putfield 22, 3), (47, .aload_n 0, 1), (48, .bipush 12, 2), (50, .newarray .int, 2), (52, .putfield 25, 3), (55, .aload_n 0, 1), (56, .bipush 12, 2), (58, .newarray .int, 2), (60, .putfield 28, 3), (63, .aload_n 0, 1), (64, .bipush 12, 2), (66, .newarray .int, 2), (68, .putfield 31, 3), (71, .aload_n 0, 1), (72, .sipush 1200, 3), (75, .newarray .int, 2), (77, .putfield 34, 3), (80, .aload_n 0, 1), (81, .sipush 1200, 3), (84, .newarray .int, 2), (86, .putfield 37, 3), (89, .aload_n 0, 1), (90, .sipush 12000, 3), (93, .newarray .int, 2), (95, .putfield 40, 3), (98, .aload_n 0, 1), (99, .sipush 20448, 3), (102, .newarray .int, 2), (104, .putfield 43, 3), (107, .aload_n 0, 1), (108, .sipush 1200, 3), (111, .newarray .int, 2), (113, .putfield 46, 3), (116, .aload_n 0, 1), (117, .bipush 12, 2), (119, .newarray .int, 2), (121, .putfield 49, 3), (124, .aload_n 0, 1), (125, .sipush 648, 3), (128, .newarray .int, 2), (130, .putfield 52, 3), (133, .aload_n 0, 1), (134, .sipush 648, 3), (137, .newarray .int, 2), (139, .putfield 55, 3), (142, .aload_n 0, 1), (143, .sipush 648, 3), (146, .newarray .int, 2), (148, .putfield 58, 3), (151, .aload_n 0, 1), (152, .bipush 12, 2), (154, .newarray .int, 2), (156, .putfield 61, 3), (159, .aload_n 0, 1), (160, .bipush 12, 2), (162, .newarray .int, 2), (164, .putfield 64, 3), (167, .aload_n 0, 1), (168, .bipush 12, 2), (170, .newarray .int, 2), (172, .putfield 67, 3), (175, .aload_n 0, 1), (176, .sipush 504, 3), (179, .newarray .int, 2), (181, .putfield 70, 3), (184, .aload_n 0, 1), (185, .sipush 504, 3), (188, .newarray .int, 2), (190, .putfield 73, 3), (193, .aload_n 0, 1), (194, .sipush 504, 3), (197, .newarray .int, 2), (199, .putfield 76, 3), (202, .aload_n 0, 1), (203, .bipush 13, 2), (205, .newarray .int, 2), (207, .putfield 79, 3), (210, .aload_n 0, 1), (211, .bipush 13, 2), (213, .newarray .int, 2), (215, .putfield 82, 3), (218, .aload_n 0, 1), (219, .bipush 13, 2), (221, .newarray .int, 2), (223, .putfield 85, 3), (226, .aload_n 0, 1), (227, .bipush 64, 2), (229, .newarray .int, 2), (231, .putfield 88, 3), (234, .aload_n 0, 1), (235, .sipush 5600, 3), (238, .newarray .int, 2), (240, .putfield 91, 3), (243, .aload_n 0, 1), (244, .bipush 12, 2), (246, .newarray .int, 2), (248, .putfield 94, 3), (251, .aload_n 0, 1), (252, .bipush 12, 2), (254, .newarray .int, 2), (256, .putfield 97, 3), (259, .aload_n 0, 1), (260, .bipush 16, 2), (262, .newarray .int, 2), (264, .putfield 100, 3), (267, .aload_n 0, 1), (268, .sipush 160, 3), (271, .newarray .int, 2), (273, .putfield 103, 3), (276, .iconst 0, 1), (277, .istore_n 1, 1), (278, .iload_n 1, 1), (279, .bipush 12, 2), (281, .if_icmp .ge 21, 3), (284, .aload_n 0, 1), (285, .getfield 13, 3), (288, .sipush 1920, 3), (291, .iload_n 1, 1), (292, .iadd, 1), (293, .bipush (-6), 2), (295, .iastore, 1), (296, .iinc 1 1, 3), (299, .goto (-21), 3), (302, .return_, 1)]
abbrev cX9_in : ByteArray := prog_11_method_3_code
def yX9_in : MethodName := ⟨RX9, "in", "(III)Z"⟩
def tb_108 : List (Nat × Instr × Nat) := [(0, .iload_n 0, 1), (1, .iload_n 1, 1), (2, .if_icmp .lt 12, 3), (5, .iload_n 0, 1), (6, .iload_n 2, 1), (7, .if_icmp .gt 7, 3), (10, .iconst 1, 1), (11, .goto 4, 3), (14, .iconst 0, 1), (15, .ireturn, 1)]
abbrev cX9_isPage : ByteArray := prog_11_method_4_code
def yX9_isPage : MethodName := ⟨RX9, "isPage", "(I)Z"⟩
def tb_109 : List (Nat × Instr × Nat) := [(0, .iload_n 0, 1), (1, .iconst 0, 1), (2, .bipush 11, 2), (4, .invokestatic 106, 3), (7, .ireturn, 1)]
abbrev cX9_size : ByteArray := prog_11_method_5_code
def yX9_size : MethodName := ⟨RX9, "size", "(I)I"⟩
def tb_110 : List (Nat × Instr × Nat) := [(0, .aload_n 0, 1), (1, .getfield 13, 3), (4, .sipush 1920, 3), (7, .iload_n 1, 1), (8, .iadd, 1), (9, .iaload, 1), (10, .ireturn, 1)]
abbrev cX9_hasSource : ByteArray := prog_11_method_6_code
def yX9_hasSource : MethodName := ⟨RX9, "hasSource", "(I)Z"⟩
def tb_111 : List (Nat × Instr × Nat) := [(0, .aload_n 0, 1), (1, .iload_n 1, 1), (2, .invokevirtual 110, 3), (5, .ifCond .lt 7, 3), (8, .iconst 1, 1), (9, .goto 4, 3), (12, .iconst 0, 1), (13, .ireturn, 1)]
abbrev cX9_sign : ByteArray := prog_11_method_7_code
def yX9_sign : MethodName := ⟨RX9, "sign", "(II)I"⟩
def tb_112 : List (Nat × Instr × Nat) := [(0, .aload_n 0, 1), (1, .getfield 13, 3), (4, .sipush 160, 3), (7, .iload_n 1, 1), (8, .imul, 1), (9, .iload_n 2, 1), (10, .iadd, 1), (11, .iaload, 1), (12, .ireturn, 1)]
abbrev cX9_put : ByteArray := prog_11_method_8_code
def yX9_put : MethodName := ⟨RX9, "put", "(J)I"⟩
def tb_113 : List (Nat × Instr × Nat) := [(0, .iconst 0, 1), (1, .istore_n 3, 1), (2, .lload_n 1, 1), (3, .lstore 4, 2), (5, .iload_n 3, 1), (6, .bipush 8, 2), (8, .if_icmp .ge 47, 3), (11, .lload 4, 2), (13, .ldc2_w 114, 3), (16, .land, 1), (17, .lconst 0, 1), (18, .lcmp, 1), (19, .ifCond .eq 36, 3), (22, .lload 4, 2), (24, .ldc2_w 114, 3), (27, .land, 1), (28, .l2i, 1), (29, .bipush 33, 2), (31, .bipush 126, 2), (33, .invokestatic 106, 3), (36, .ifCond .ne 6, 3), (39, .bipush (-2), 2), (41, .ireturn, 1), (42, .iinc 3 1, 3), (45, .lload 4, 2), (47, .bipush 8, 2), (49, .lushr, 1), (50, .lstore 4, 2), (52, .goto (-47), 3), (55, .iload_n 3, 1), (56, .ifCond .eq 10, 3), (59, .lload 4, 2), (61, .lconst 0, 1), (62, .lcmp, 1), (63, .ifCond .eq 6, 3), (66, .bipush (-2), 2), (68, .ireturn, 1), (69, .aload_n 0, 1), (70, .getfield 116, 3), (73, .iload_n 3, 1), (74, .iadd, 1), (75, .sipush 160, 3), (78, .if_icmp .le 6, 3), (81, .bipush (-4), 2), (83, .ireturn, 1), (84, .iconst 0, 1), (85, .istore 6, 2), (87, .iload 6, 2), (89, .iload_n 3, 1), (90, .if_icmp .ge 37, 3), (93, .aload_n 0, 1), (94, .getfield 7, 3), (97, .aload_n 0, 1), (98, .getfield 116, 3), (101, .iload 6, 2), (103, .iadd, 1), (104, .lload_n 1, 1), (105, .bipush 8, 2), (107, .iload_n 3, 1), (108, .iconst 1, 1), (109, .isub, 1), (110, .iload 6, 2), (112, .isub, 1), (113, .imul, 1), (114, .lshr, 1), (115, .ldc2_w 114, 3), (118, .land, 1), (119, .l2i, 1), (120, .iastore, 1), (121, .iinc 6 1, 3), (124, .goto (-37), 3), (127, .aload_n 0, 1), (128, .dup, 1), (129, .getfield 116, 3), (132, .iload_n 3, 1), (133, .iadd, 1), (134, .putfield 116, 3), (137, .aload_n 0, 1), (138, .getfield 116, 3), (141, .ireturn, 1)]
abbrev cX9_wipe : ByteArray := prog_11_method_9_code
def yX9_wipe : MethodName := ⟨RX9, "wipe", "()I"⟩
def tb_114 : List (Nat × Instr × Nat) := [(0, .aload_n 0, 1), (1, .getfield 116, 3), (4, .istore_n 1, 1), (5, .aload_n 0, 1), (6, .iconst 0, 1), (7, .putfield 116, 3), (10, .iload_n 1, 1), (11, .ireturn, 1)]
abbrev cX9_next : ByteArray := prog_11_method_10_code
def yX9_next : MethodName := ⟨RX9, "next", "()I"⟩
def tb_115 : List (Nat × Instr × Nat) := [(0, .aload_n 0, 1), (1, .getfield 120, 3), (4, .aload_n 0, 1), (5, .getfield 116, 3), (8, .if_icmp .ge 15, 3), (11, .aload_n 0, 1), (12, .getfield 7, 3), (15, .aload_n 0, 1), (16, .getfield 120, 3), (19, .iaload, 1), (20, .goto 4, 3), (23, .iconst 0, 1), (24, .ireturn, 1)]
abbrev cX9_isNext : ByteArray := prog_11_method_11_code
def yX9_isNext : MethodName := ⟨RX9, "isNext", "(I)Z"⟩
def tb_116 : List (Nat × Instr × Nat) := [(0, .aload_n 0, 1), (1, .invokevirtual 123, 3), (4, .iload_n 1, 1), (5, .if_icmp .ne 15, 3), (8, .aload_n 0, 1), (9, .dup, 1), (10, .getfield 120, 3), (13, .iconst 1, 1), (14, .iadd, 1), (15, .putfield 120, 3), (18, .iconst 1, 1), (19, .ireturn, 1), (20, .iconst 0, 1), (21, .ireturn, 1)]
abbrev cX9_isSmallNext : ByteArray := prog_11_method_12_code
def yX9_isSmallNext : MethodName := ⟨RX9, "isSmallNext", "()Z"⟩
def tb_117 : List (Nat × Instr × Nat) := [(0, .aload_n 0, 1), (1, .invokevirtual 123, 3), (4, .bipush 97, 2), (6, .bipush 122, 2), (8, .invokestatic 106, 3), (11, .ireturn, 1)]
abbrev cX9_isDigitNext : ByteArray := prog_11_method_13_code
def yX9_isDigitNext : MethodName := ⟨RX9, "isDigitNext", "()Z"⟩
def tb_118 : List (Nat × Instr × Nat) := [(0, .aload_n 0, 1), (1, .invokevirtual 123, 3), (4, .bipush 48, 2), (6, .bipush 57, 2), (8, .invokestatic 106, 3), (11, .ireturn, 1)]
abbrev cX9_keepSign : ByteArray := prog_11_method_14_code
def yX9_keepSign : MethodName := ⟨RX9, "keepSign", "()V"⟩
def tb_119 : List (Nat × Instr × Nat) := [(0, .aload_n 0, 1), (1, .getfield 19, 3), (4, .iconst 0, 1), (5, .dup2, 1), (6, .iaload, 1), (7, .iconst 1, 1), (8, .iadd, 1), (9, .iastore, 1), (10, .aload_n 0, 1), (11, .getfield 19, 3), (14, .aload_n 0, 1), (15, .getfield 19, 3), (18, .iconst 0, 1), (19, .iaload, 1), (20, .aload_n 0, 1), (21, .invokevirtual 123, 3), (24, .iastore, 1), (25, .aload_n 0, 1), (26, .dup, 1), (27, .getfield 120, 3), (30, .iconst 1, 1), (31, .iadd, 1), (32, .putfield 120, 3), (35, .return_, 1)]
abbrev cX9_readName : ByteArray := prog_11_method_15_code
def yX9_readName : MethodName := ⟨RX9, "readName", "()Z"⟩
def tb_120 : List (Nat × Instr × Nat) := [(0, .aload_n 0, 1), (1, .getfield 19, 3), (4, .iconst 0, 1), (5, .iconst 0, 1), (6, .iastore, 1), (7, .aload_n 0, 1), (8, .invokevirtual 127, 3), (11, .ifCond .ne 5, 3), (14, .iconst 0, 1), (15, .ireturn, 1), (16, .aload_n 0, 1), (17, .invokevirtual 127, 3), (20, .ifCond .ne 10, 3), (23, .aload_n 0, 1), (24, .invokevirtual 131, 3), (27, .ifCond .eq 23, 3), (30, .aload_n 0, 1), (31, .getfield 19, 3), (34, .iconst 0, 1), (35, .iaload, 1), (36, .bipush 8, 2), (38, .if_icmp .ne 5, 3), (41, .iconst 0, 1), (42, .ireturn, 1), (43, .aload_n 0, 1), (44, .invokevirtual 134, 3), (47, .goto (-31), 3), (50, .iconst 1, 1), (51, .ireturn, 1)]
abbrev cX9_readAnchor : ByteArray := prog_11_method_16_code
def yX9_readAnchor : MethodName := ⟨RX9, "readAnchor", "()Z"⟩
def tb_121 : List (Nat × Instr × Nat) := [(0, .aload_n 0, 1), (1, .invokevirtual 137, 3), (4, .ifCond .ne 5, 3), (7, .iconst 0, 1), (8, .ireturn, 1), (9, .aload_n 0, 1), (10, .invokevirtual 123, 3), (13, .bipush 45, 2), (15, .if_icmp .eq 5, 3), (18, .iconst 1, 1), (19, .ireturn, 1), (20, .aload_n 0, 1), (21, .invokevirtual 134, 3), (24, .aload_n 0, 1), (25, .invokevirtual 123, 3), (28, .bipush 49, 2), (30, .bipush 57, 2), (32, .invokestatic 106, 3), (35, .ifCond .ne 5, 3), (38, .iconst 0, 1), (39, .ireturn, 1), (40, .aload_n 0, 1), (41, .invokevirtual 134, 3), (44, .aload_n 0, 1), (45, .invokevirtual 131, 3), (48, .ifCond .eq 7, 3), (51, .aload_n 0, 1), (52, .invokevirtual 134, 3), (55, .iconst 1, 1), (56, .ireturn, 1)]
abbrev cX9_readLetter : ByteArray := prog_11_method_17_code
def yX9_readLetter : MethodName := ⟨RX9, "readLetter", "()Z"⟩
def tb_122 : List (Nat × Instr × Nat) := [(0, .aload_n 0, 1), (1, .invokevirtual 123, 3), (4, .bipush 65, 2), (6, .bipush 76, 2), (8, .invokestatic 106, 3), (11, .ifCond .ne 5, 3), (14, .iconst 0, 1), (15, .ireturn, 1), (16, .aload_n 0, 1), (17, .dup, 1), (18, .getfield 120, 3), (21, .iconst 1, 1), (22, .iadd, 1), (23, .putfield 120, 3), (26, .iconst 1, 1), (27, .ireturn, 1)]
abbrev cX9_readPlace : ByteArray := prog_11_method_18_code
def yX9_readPlace : MethodName := ⟨RX9, "readPlace", "()Z"⟩
def tb_123 : List (Nat × Instr × Nat) := [(0, .aload_n 0, 1), (1, .getfield 19, 3), (4, .iconst 0, 1), (5, .iconst 0, 1), (6, .iastore, 1), (7, .aload_n 0, 1), (8, .invokevirtual 140, 3), (11, .ifCond .ne 5, 3), (14, .iconst 0, 1), (15, .ireturn, 1), (16, .aload_n 0, 1), (17, .bipush 35, 2), (19, .invokevirtual 143, 3), (22, .ifCond .eq 10, 3), (25, .aload_n 0, 1), (26, .invokevirtual 147, 3), (29, .ifCond .eq 7, 3), (32, .iconst 1, 1), (33, .goto 4, 3), (36, .iconst 0, 1), (37, .ireturn, 1)]
abbrev cX9_readHeading : ByteArray := prog_11_method_19_code
def yX9_readHeading : MethodName := ⟨RX9, "readHeading", "()Z"⟩
def tb_124 : List (Nat × Instr × Nat) := [(0, .iconst 0, 1), (1, .istore_n 1, 1), (2, .iload_n 1, 1), (3, .iconst 3, 1), (4, .if_icmp .ge 18, 3), (7, .aload_n 0, 1), (8, .bipush 61, 2), (10, .invokevirtual 143, 3), (13, .ifCond .eq 9, 3), (16, .iinc 1 1, 3), (19, .goto (-17), 3), (22, .aload_n 0, 1), (23, .invokevirtual 137, 3), (26, .ireturn, 1)]
abbrev cX9_readInclude : ByteArray := prog_11_method_20_code
def yX9_readInclude : MethodName := ⟨RX9, "readInclude", "()Z"⟩
def tb_125 : List (Nat × Instr × Nat) := [(0, .aload_n 0, 1), (1, .bipush 123, 2), (3, .invokevirtual 143, 3), (6, .ifCond .eq 10, 3), (9, .aload_n 0, 1), (10, .invokevirtual 140, 3), (13, .ifCond .ne 5, 3), (16, .iconst 0, 1), (17, .ireturn, 1), (18, .aload_n 0, 1), (19, .bipush 43, 2), (21, .invokevirtual 143, 3), (24, .ifCond .eq 29, 3), (27, .aload_n 0, 1), (28, .invokevirtual 123, 3), (31, .bipush 48, 2), (33, .bipush 50, 2), (35, .invokestatic 106, 3), (38, .ifCond .ne 5, 3), (41, .iconst 0, 1), (42, .ireturn, 1), (43, .aload_n 0, 1), (44, .dup, 1), (45, .getfield 120, 3), (48, .iconst 1, 1), (49, .iadd, 1), (50, .putfield 120, 3), (53, .aload_n 0, 1), (54, .bipush 125, 2), (56, .invokevirtual 143, 3), (59, .ireturn, 1)]
abbrev cX9_readElement : ByteArray := prog_11_method_21_code
def yX9_readElement : MethodName := ⟨RX9, "readElement", "()Z"⟩
def tb_126 : List (Nat × Instr × Nat) := [(0, .aload_n 0, 1), (1, .bipush 91, 2), (3, .invokevirtual 143, 3), (6, .ifCond .ne 8, 3), (9, .aload_n 0, 1), (10, .invokevirtual 137, 3), (13, .ireturn, 1), (14, .aload_n 0, 1), (15, .bipush 35, 2), (17, .invokevirtual 143, 3), (20, .ifCond .eq 10, 3), (23, .aload_n 0, 1), (24, .invokevirtual 147, 3), (27, .goto 7, 3), (30, .aload_n 0, 1), (31, .invokevirtual 150, 3), (34, .istore_n 1, 1), (35, .iload_n 1, 1), (36, .ifCond .eq 16, 3), (39, .aload_n 0, 1), (40, .bipush 93, 2), (42, .invokevirtual 143, 3), (45, .ifCond .eq 7, 3), (48, .iconst 1, 1), (49, .goto 4, 3), (52, .iconst 0, 1), (53, .ireturn, 1)]
abbrev cX9_readElements : ByteArray := prog_11_method_22_code
def yX9_readElements : MethodName := ⟨RX9, "readElements", "()Z"⟩
def tb_127 : List (Nat × Instr × Nat) := [(0, .aload_n 0, 1), (1, .invokevirtual 153, 3), (4, .istore_n 1, 1), (5, .iload_n 1, 1), (6, .ifCond .eq 20, 3), (9, .aload_n 0, 1), (10, .bipush 44, 2), (12, .invokevirtual 143, 3), (15, .ifCond .eq 11, 3), (18, .aload_n 0, 1), (19, .invokevirtual 153, 3), (22, .istore_n 1, 1), (23, .goto (-18), 3), (26, .iload_n 1, 1), (27, .ireturn, 1)]
abbrev cX9_readLine : ByteArray := prog_11_method_23_code
def yX9_readLine : MethodName := ⟨RX9, "readLine", "()Z"⟩
def tb_128 : List (Nat × Instr × Nat) := [(0, .aload_n 0, 1), (1, .invokevirtual 123, 3), (4, .bipush 61, 2), (6, .if_icmp .ne 10, 3), (9, .aload_n 0, 1), (10, .invokevirtual 156, 3), (13, .goto 23, 3), (16, .aload_n 0, 1), (17, .invokevirtual 123, 3), (20, .bipush 123, 2), (22, .if_icmp .ne 10, 3), (25, .aload_n 0, 1), (26, .invokevirtual 159, 3), (29, .goto 7, 3), (32, .aload_n 0, 1), (33, .invokevirtual 162, 3), (36, .ireturn, 1)]
abbrev cX9_faultOfPage : ByteArray := prog_11_method_24_code
def yX9_faultOfPage : MethodName := ⟨RX9, "faultOfPage", "()I"⟩
def tb_129 : List (Nat × Instr × Nat) := [(0, .aload_n 0, 1), (1, .iconst 0, 1), (2, .putfield 120, 3), (5, .aload_n 0, 1), (6, .invokevirtual 165, 3), (9, .istore_n 1, 1), (10, .iload_n 1, 1), (11, .ifCond .eq 20, 3), (14, .aload_n 0, 1), (15, .bipush 59, 2), (17, .invokevirtual 143, 3), (20, .ifCond .eq 11, 3), (23, .aload_n 0, 1), (24, .invokevirtual 165, 3), (27, .istore_n 1, 1), (28, .goto (-18), 3), (31, .iload_n 1, 1), (32, .ifCond .eq 19, 3), (35, .aload_n 0, 1), (36, .getfield 120, 3), (39, .aload_n 0, 1), (40, .getfield 116, 3), (43, .if_icmp .ne 8, 3), (46, .bipush (-6), 2), (48, .goto 7, 3), (51, .aload_n 0, 1), (52, .getfield 120, 3), (55, .ireturn, 1)]
abbrev cX9_readSide : ByteArray := prog_11_method_25_code
def yX9_readSide : MethodName := ⟨RX9, "readSide", "(I)Z"⟩
def tb_130 : List (Nat × Instr × Nat) := [(0, .aload_n 0, 1), (1, .getfield 22, 3), (4, .iload_n 1, 1), (5, .aload_n 0, 1), (6, .invokevirtual 123, 3), (9, .bipush 65, 2), (11, .isub, 1), (12, .iastore, 1), (13, .aload_n 0, 1), (14, .invokevirtual 150, 3), (17, .ifCond .ne 5, 3), (20, .iconst 0, 1), (21, .ireturn, 1), (22, .aload_n 0, 1), (23, .getfield 22, 3), (26, .iload_n 1, 1), (27, .iconst 1, 1), (28, .iadd, 1), (29, .aload_n 0, 1), (30, .getfield 19, 3), (33, .iconst 0, 1), (34, .iaload, 1), (35, .ifCond .le 7, 3), (38, .iconst 1, 1), (39, .goto 4, 3), (42, .iconst 0, 1), (43, .iastore, 1), (44, .iconst 0, 1), (45, .istore_n 2, 1), (46, .iload_n 2, 1), (47, .bipush 12, 2), (49, .if_icmp .ge 39, 3), (52, .aload_n 0, 1), (53, .getfield 22, 3), (56, .iload_n 1, 1), (57, .iconst 2, 1), (58, .iadd, 1), (59, .iload_n 2, 1), (60, .iadd, 1), (61, .iload_n 2, 1), (62, .aload_n 0, 1), (63, .getfield 19, 3), (66, .iconst 0, 1), (67, .iaload, 1), (68, .if_icmp .gt 12, 3), (71, .aload_n 0, 1), (72, .getfield 19, 3), (75, .iload_n 2, 1), (76, .iaload, 1), (77, .goto 4, 3), (80, .iconst 0, 1), (81, .iastore, 1), (82, .iinc 2 1, 3), (85, .goto (-39), 3), (88, .iconst 1, 1), (89, .ireturn, 1)]
abbrev cX9_faultOfRedirect : ByteArray := prog_11_method_26_code
def yX9_faultOfRedirect : MethodName := ⟨RX9, "faultOfRedirect", "()I"⟩
def tb_131 : List (Nat × Instr × Nat) := [(0, .aload_n 0, 1), (1, .iconst 0, 1), (2, .putfield 120, 3), (5, .aload_n 0, 1), (6, .iconst 0, 1), (7, .invokevirtual 168, 3), (10, .ifCond .eq 25, 3), (13, .aload_n 0, 1), (14, .bipush 62, 2), (16, .invokevirtual 143, 3), (19, .ifCond .eq 16, 3), (22, .aload_n 0, 1), (23, .bipush 14, 2), (25, .invokevirtual 168, 3), (28, .ifCond .eq 7, 3), (31, .iconst 1, 1), (32, .goto 4, 3), (35, .iconst 0, 1), (36, .istore_n 1, 1), (37, .iload_n 1, 1), (38, .ifCond .eq 19, 3), (41, .aload_n 0, 1), (42, .getfield 120, 3), (45, .aload_n 0, 1), (46, .getfield 116, 3), (49, .if_icmp .ne 8, 3), (52, .bipush (-6), 2), (54, .goto 7, 3), (57, .aload_n 0, 1), (58, .getfield 120, 3), (61, .ireturn, 1)]
abbrev cX9_fault : ByteArray := prog_11_method_27_code
def yX9_fault : MethodName := ⟨RX9, "fault", "(I)I"⟩
def tb_132 : List (Nat × Instr × Nat) := [(0, .iload_n 1, 1), (1, .ifCond .ne 10, 3), (4, .aload_n 0, 1), (5, .invokevirtual 171, 3), (8, .goto 17, 3), (11, .iload_n 1, 1), (12, .iconst 1, 1), (13, .if_icmp .ne 10, 3), (16, .aload_n 0, 1), (17, .invokevirtual 174, 3), (20, .goto 5, 3), (23, .bipush (-2), 2), (25, .ireturn, 1)]
abbrev cX9_putDown : ByteArray := prog_11_method_28_code
def yX9_putDown : MethodName := ⟨RX9, "putDown", "()V"⟩
def tb_133 : List (Nat × Instr × Nat) := [(0, .aload_n 0, 1), (1, .getfield 177, 3), (4, .bipush 10, 2), (6, .if_icmp .ne 46, 3), (9, .sipush 2830, 3), (12, .istore_n 1, 1), (13, .iload_n 1, 1), (14, .sipush 28300, 3), (17, .if_icmp .ge 25, 3), (20, .aload_n 0, 1), (21, .getfield 16, 3), (24, .iload_n 1, 1), (25, .sipush 2830, 3), (28, .isub, 1), (29, .aload_n 0, 1), (30, .getfield 16, 3), (33, .iload_n 1, 1), (34, .iaload, 1), (35, .iastore, 1), (36, .iinc 1 1, 3), (39, .goto (-26), 3), (42, .aload_n 0, 1), (43, .dup, 1), (44, .getfield 177, 3), (47, .iconst 1, 1), (48, .isub, 1), (49, .putfield 177, 3), (52, .iconst 0, 1), (53, .istore_n 1, 1), (54, .iload_n 1, 1), (55, .sipush 2830, 3), (58, .if_icmp .ge 30, 3), (61, .aload_n 0, 1), (62, .getfield 16, 3), (65, .sipush 2830, 3), (68, .aload_n 0, 1), (69, .getfield 177, 3), (72, .imul, 1), (73, .iload_n 1, 1), (74, .iadd, 1), (75, .aload_n 0, 1), (76, .getfield 13, 3), (79, .iload_n 1, 1), (80, .iaload, 1), (81, .iastore, 1), (82, .iinc 1 1, 3), (85, .goto (-31), 3), (88, .aload_n 0, 1), (89, .dup, 1), (90, .getfield 177, 3), (93, .iconst 1, 1), (94, .iadd, 1), (95, .putfield 177, 3), (98, .return_, 1)]
abbrev cX9_undo : ByteArray := prog_11_method_29_code
def yX9_undo : MethodName := ⟨RX9, "undo", "()I"⟩
def tb_134 : List (Nat × Instr × Nat) := [(0, .aload_n 0, 1), (1, .getfield 177, 3), (4, .ifCond .ne 6, 3), (7, .bipush (-5), 2), (9, .ireturn, 1), (10, .aload_n 0, 1), (11, .dup, 1), (12, .getfield 177, 3), (15, .iconst 1, 1), (16, .isub, 1), (17, .putfield 177, 3), (20, .iconst 0, 1), (21, .istore_n 1, 1), (22, .iload_n 1, 1), (23, .sipush 2830, 3), (26, .if_icmp .ge 30, 3), (29, .aload_n 0, 1), (30, .getfield 13, 3), (33, .iload_n 1, 1), (34, .aload_n 0, 1), (35, .getfield 16, 3), (38, .sipush 2830, 3), (41, .aload_n 0, 1), (42, .getfield 177, 3), (45, .imul, 1), (46, .iload_n 1, 1), (47, .iadd, 1), (48, .iaload, 1), (49, .iastore, 1), (50, .iinc 1 1, 3), (53, .goto (-31), 3), (56, .aload_n 0, 1), (57, .iconst 0, 1), (58, .putfield 180, 3), (61, .aload_n 0, 1), (62, .getfield 177, 3), (65, .ireturn, 1)]
abbrev cX9_areSameAnchors : ByteArray := prog_11_method_30_code
def yX9_areSameAnchors : MethodName := ⟨RX9, "areSameAnchors", "([II[II)Z"⟩
def tb_135 : List (Nat × Instr × Nat) := [(0, .iconst 1, 1), (1, .istore 5, 2), (3, .iconst 0, 1), (4, .istore 6, 2), (6, .iload 6, 2), (8, .aload_n 1, 1), (9, .iload_n 2, 1), (10, .iaload, 1), (11, .if_icmp .gt 37, 3), (14, .iload 5, 2), (16, .ifCond .eq 32, 3), (19, .aload_n 1, 1), (20, .iload_n 2, 1), (21, .iload 6, 2), (23, .iadd, 1), (24, .iaload, 1), (25, .aload_n 3, 1), (26, .iload 4, 2), (28, .iload 6, 2), (30, .iadd, 1), (31, .iaload, 1), (32, .if_icmp .ne 7, 3), (35, .iconst 1, 1), (36, .goto 4, 3), (39, .iconst 0, 1), (40, .istore 5, 2), (42, .iinc 6 1, 3), (45, .goto (-39), 3), (48, .iload 5, 2), (50, .ireturn, 1)]
abbrev cX9_remember : ByteArray := prog_11_method_31_code
def yX9_remember : MethodName := ⟨RX9, "remember", "(I)V"⟩
def tb_136 : List (Nat × Instr × Nat) := [(0, .aload_n 0, 1), (1, .invokevirtual 184, 3), (4, .iconst 0, 1), (5, .istore_n 2, 1), (6, .iload_n 2, 1), (7, .aload_n 0, 1), (8, .getfield 49, 3), (11, .iload_n 1, 1), (12, .iaload, 1), (13, .if_icmp .ge 165, 3), (16, .aload_n 0, 1), (17, .getfield 55, 3), (20, .bipush 54, 2), (22, .iload_n 1, 1), (23, .imul, 1), (24, .iload_n 2, 1), (25, .iadd, 1), (26, .iaload, 1), (27, .istore_n 3, 1), (28, .iload_n 3, 1), (29, .ifCond .lt 143, 3), (32, .aload_n 0, 1), (33, .getfield 58, 3), (36, .bipush 54, 2), (38, .iload_n 1, 1), (39, .imul, 1), (40, .iload_n 2, 1), (41, .iadd, 1), (42, .iaload, 1), (43, .ifCond .le 129, 3), (46, .aload_n 0, 1), (47, .iload_n 1, 1), (48, .iload_n 1, 1), (49, .iload_n 3, 1), (50, .invokestatic 187, 3), (53, .invokevirtual 191, 3), (56, .aload_n 0, 1), (57, .getfield 13, 3), (60, .sipush 2829, 3), (63, .iaload, 1), (64, .bipush 40, 2), (66, .if_icmp .ne 8, 3), (69, .aload_n 0, 1), (70, .iconst 0, 1), (71, .invokevirtual 195, 3), (74, .sipush 2269, 3), (77, .bipush 14, 2), (79, .aload_n 0, 1), (80, .getfield 13, 3), (83, .sipush 2829, 3), (86, .iaload, 1), (87, .imul, 1), (88, .iadd, 1), (89, .istore 4, 2), (91, .aload_n 0, 1), (92, .getfield 13, 3), (95, .iload 4, 2), (97, .iload_n 1, 1), (98, .iastore, 1), (99, .aload_n 0, 1), (100, .getfield 13, 3), (103, .iload 4, 2), (105, .iconst 1, 1), (106, .iadd, 1), (107, .aload_n 0, 1), (108, .getfield 52, 3), (111, .bipush 54, 2), (113, .iload_n 1, 1), (114, .imul, 1), (115, .iload_n 2, 1), (116, .iadd, 1), (117, .iaload, 1), (118, .iastore, 1), (119, .iconst 0, 1), (120, .istore 5, 2), (122, .iload 5, 2), (124, .bipush 12, 2), (126, .if_icmp .ge 34, 3), (129, .aload_n 0, 1), (130, .getfield 13, 3), (133, .iload 4, 2), (135, .iconst 2, 1), (136, .iadd, 1), (137, .iload 5, 2), (139, .iadd, 1), (140, .aload_n 0, 1), (141, .getfield 43, 3), (144, .iload_n 1, 1), (145, .iload_n 3, 1), (146, .invokestatic 187, 3), (149, .iload 5, 2), (151, .iadd, 1), (152, .iaload, 1), (153, .iastore, 1), (154, .iinc 5 1, 3), (157, .goto (-35), 3), (160, .aload_n 0, 1), (161, .getfield 13, 3), (164, .sipush 2829, 3), (167, .dup2, 1), (168, .iaload, 1), (169, .iconst 1, 1), (170, .iadd, 1), (171, .iastore, 1), (172, .iinc 2 1, 3), (175, .goto (-169), 3), (178, .return_, 1)]
abbrev cX9_dropEntry : ByteArray := prog_11_method_32_code
def yX9_dropEntry : MethodName := ⟨RX9, "dropEntry", "(I)V"⟩
def tb_137 : List (Nat × Instr × Nat) := [(0, .sipush 2269, 3), (3, .bipush 14, 2), (5, .iload_n 1, 1), (6, .iconst 1, 1), (7, .iadd, 1), (8, .imul, 1), (9, .iadd, 1), (10, .istore_n 2, 1), (11, .iload_n 2, 1), (12, .sipush 2269, 3), (15, .bipush 14, 2), (17, .aload_n 0, 1), (18, .getfield 13, 3), (21, .sipush 2829, 3), (24, .iaload, 1), (25, .imul, 1), (26, .iadd, 1), (27, .if_icmp .ge 24, 3), (30, .aload_n 0, 1), (31, .getfield 13, 3), (34, .iload_n 2, 1), (35, .bipush 14, 2), (37, .isub, 1), (38, .aload_n 0, 1), (39, .getfield 13, 3), (42, .iload_n 2, 1), (43, .iaload, 1), (44, .iastore, 1), (45, .iinc 2 1, 3), (48, .goto (-37), 3), (51, .aload_n 0, 1), (52, .getfield 13, 3), (55, .sipush 2829, 3), (58, .dup2, 1), (59, .iaload, 1), (60, .iconst 1, 1), (61, .isub, 1), (62, .iastore, 1), (63, .return_, 1)]
abbrev cX9_forget : ByteArray := prog_11_method_33_code
def yX9_forget : MethodName := ⟨RX9, "forget", "(II)V"⟩
def tb_138 : List (Nat × Instr × Nat) := [(0, .iconst 0, 1), (1, .istore_n 3, 1), (2, .iload_n 3, 1), (3, .aload_n 0, 1), (4, .getfield 13, 3), (7, .sipush 2829, 3), (10, .iaload, 1), (11, .if_icmp .ge 58, 3), (14, .sipush 2269, 3), (17, .bipush 14, 2), (19, .iload_n 3, 1), (20, .imul, 1), (21, .iadd, 1), (22, .istore 4, 2), (24, .aload_n 0, 1), (25, .getfield 13, 3), (28, .iload 4, 2), (30, .iaload, 1), (31, .iload_n 1, 1), (32, .if_icmp .ne 31, 3), (35, .aload_n 0, 1), (36, .aload_n 0, 1), (37, .getfield 13, 3), (40, .iload 4, 2), (42, .iconst 2, 1), (43, .iadd, 1), (44, .aload_n 0, 1), (45, .getfield 43, 3), (48, .iload_n 2, 1), (49, .invokevirtual 199, 3), (52, .ifCond .eq 11, 3), (55, .aload_n 0, 1), (56, .iload_n 3, 1), (57, .invokevirtual 195, 3), (60, .goto 6, 3), (63, .iinc 3 1, 3), (66, .goto (-64), 3), (69, .return_, 1)]
abbrev cX9_linesOf : ByteArray := prog_11_method_34_code
def yX9_linesOf : MethodName := ⟨RX9, "linesOf", "(I)I"⟩
def tb_139 : List (Nat × Instr × Nat) := [(0, .iconst 1, 1), (1, .istore_n 2, 1), (2, .iconst 0, 1), (3, .istore_n 3, 1), (4, .iload_n 3, 1), (5, .aload_n 0, 1), (6, .iload_n 1, 1), (7, .invokevirtual 110, 3), (10, .if_icmp .ge 28, 3), (13, .iload_n 2, 1), (14, .aload_n 0, 1), (15, .iload_n 1, 1), (16, .iload_n 3, 1), (17, .invokevirtual 203, 3), (20, .bipush 59, 2), (22, .if_icmp .ne 7, 3), (25, .iconst 1, 1), (26, .goto 4, 3), (29, .iconst 0, 1), (30, .iadd, 1), (31, .istore_n 2, 1), (32, .iinc 3 1, 3), (35, .goto (-31), 3), (38, .iload_n 2, 1), (39, .ireturn, 1)]
abbrev cX9_load : ByteArray := prog_11_method_35_code
def yX9_load : MethodName := ⟨RX9, "load", "(I)I"⟩
def tb_140 : List (Nat × Instr × Nat) := [(0, .iload_n 1, 1), (1, .invokestatic 206, 3), (4, .ifCond .ne 5, 3), (7, .iconst (-1), 1), (8, .ireturn, 1), (9, .aload_n 0, 1), (10, .invokevirtual 171, 3), (13, .bipush (-6), 2), (15, .if_icmp .eq 6, 3), (18, .bipush (-3), 2), (20, .ireturn, 1), (21, .aload_n 0, 1), (22, .invokevirtual 209, 3), (25, .aload_n 0, 1), (26, .iload_n 1, 1), (27, .invokevirtual 212, 3), (30, .ifCond .eq 8, 3), (33, .aload_n 0, 1), (34, .iload_n 1, 1), (35, .invokevirtual 215, 3), (38, .iconst 0, 1), (39, .istore_n 2, 1), (40, .iload_n 2, 1), (41, .aload_n 0, 1), (42, .getfield 116, 3), (45, .if_icmp .ge 27, 3), (48, .aload_n 0, 1), (49, .getfield 13, 3), (52, .sipush 160, 3), (55, .iload_n 1, 1), (56, .imul, 1), (57, .iload_n 2, 1), (58, .iadd, 1), (59, .aload_n 0, 1), (60, .getfield 7, 3), (63, .iload_n 2, 1), (64, .iaload, 1), (65, .iastore, 1), (66, .iinc 2 1, 3), (69, .goto (-29), 3), (72, .aload_n 0, 1), (73, .getfield 13, 3), (76, .sipush 1920, 3), (79, .iload_n 1, 1), (80, .iadd, 1), (81, .aload_n 0, 1), (82, .getfield 116, 3), (85, .iastore, 1), (86, .aload_n 0, 1), (87, .iconst 0, 1), (88, .putfield 116, 3), (91, .aload_n 0, 1), (92, .iconst 0, 1), (93, .putfield 180, 3), (96, .aload_n 0, 1), (97, .iload_n 1, 1), (98, .invokevirtual 218, 3), (101, .ireturn, 1)]
abbrev cX9_sources : ByteArray := prog_11_method_36_code
def yX9_sources : MethodName := ⟨RX9, "sources", "()I"⟩
def tb_141 : List (Nat × Instr × Nat) := [(0, .iconst 0, 1), (1, .istore_n 1, 1), (2, .iconst 0, 1), (3, .istore_n 2, 1), (4, .iload_n 2, 1), (5, .bipush 12, 2), (7, .if_icmp .ge 27, 3), (10, .iload_n 1, 1), (11, .aload_n 0, 1), (12, .iload_n 2, 1), (13, .invokevirtual 212, 3), (16, .ifCond .eq 9, 3), (19, .iconst 1, 1), (20, .iload_n 2, 1), (21, .ishl, 1), (22, .goto 4, 3), (25, .iconst 0, 1), (26, .ior, 1), (27, .istore_n 1, 1), (28, .iinc 2 1, 3), (31, .goto (-27), 3), (34, .iload_n 1, 1), (35, .ireturn, 1)]
abbrev cX9_remove : ByteArray := prog_11_method_37_code
def yX9_remove : MethodName := ⟨RX9, "remove", "(I)I"⟩
def tb_142 : List (Nat × Instr × Nat) := [(0, .iload_n 1, 1), (1, .invokestatic 206, 3), (4, .ifCond .ne 5, 3), (7, .iconst (-1), 1), (8, .ireturn, 1), (9, .aload_n 0, 1), (10, .iload_n 1, 1), (11, .invokevirtual 212, 3), (14, .ifCond .ne 6, 3), (17, .bipush (-5), 2), (19, .ireturn, 1), (20, .aload_n 0, 1), (21, .invokevirtual 209, 3), (24, .aload_n 0, 1), (25, .iload_n 1, 1), (26, .invokevirtual 215, 3), (29, .aload_n 0, 1), (30, .getfield 13, 3), (33, .sipush 1920, 3), (36, .iload_n 1, 1), (37, .iadd, 1), (38, .bipush (-6), 2), (40, .iastore, 1), (41, .aload_n 0, 1), (42, .iconst 0, 1), (43, .putfield 180, 3), (46, .aload_n 0, 1), (47, .invokevirtual 221, 3), (50, .ireturn, 1)]
abbrev cX9_character : ByteArray := prog_11_method_38_code
def yX9_character : MethodName := ⟨RX9, "character", "(II)I"⟩
def tb_143 : List (Nat × Instr × Nat) := [(0, .iload_n 1, 1), (1, .invokestatic 206, 3), (4, .ifCond .ne 5, 3), (7, .iconst (-1), 1), (8, .ireturn, 1), (9, .aload_n 0, 1), (10, .iload_n 1, 1), (11, .invokevirtual 212, 3), (14, .ifCond .ne 6, 3), (17, .bipush (-5), 2), (19, .ireturn, 1), (20, .iload_n 2, 1), (21, .iconst (-1), 1), (22, .if_icmp .ne 11, 3), (25, .aload_n 0, 1), (26, .iload_n 1, 1), (27, .invokevirtual 110, 3), (30, .goto 29, 3), (33, .iload_n 2, 1), (34, .iconst 0, 1), (35, .aload_n 0, 1), (36, .iload_n 1, 1), (37, .invokevirtual 110, 3), (40, .iconst 1, 1), (41, .isub, 1), (42, .invokestatic 106, 3), (45, .ifCond .eq 12, 3), (48, .aload_n 0, 1), (49, .iload_n 1, 1), (50, .iload_n 2, 1), (51, .invokevirtual 203, 3), (54, .goto 5, 3), (57, .bipush (-6), 2), (59, .ireturn, 1)]
abbrev cX9_anchorAt : ByteArray := prog_11_method_39_code
def yX9_anchorAt : MethodName := ⟨RX9, "anchorAt", "(II)I"⟩
def tb_144 : List (Nat × Instr × Nat) := [(0, .bipush 12, 2), (2, .bipush 100, 2), (4, .iload_n 0, 1), (5, .imul, 1), (6, .iload_n 1, 1), (7, .iadd, 1), (8, .imul, 1), (9, .ireturn, 1)]
abbrev cX9_linkAnchor : ByteArray := prog_11_method_40_code
def yX9_linkAnchor : MethodName := ⟨RX9, "linkAnchor", "(II)I"⟩
def tb_145 : List (Nat × Instr × Nat) := [(0, .sipush 14400, 3), (3, .bipush 12, 2), (5, .bipush 42, 2), (7, .iload_n 0, 1), (8, .imul, 1), (9, .iload_n 1, 1), (10, .iadd, 1), (11, .imul, 1), (12, .iadd, 1), (13, .ireturn, 1)]
abbrev cX9_lineEnd : ByteArray := prog_11_method_41_code
def yX9_lineEnd : MethodName := ⟨RX9, "lineEnd", "(II)I"⟩
def tb_146 : List (Nat × Instr × Nat) := [(0, .iload_n 2, 1), (1, .istore_n 3, 1), (2, .iload_n 3, 1), (3, .aload_n 0, 1), (4, .iload_n 1, 1), (5, .invokevirtual 110, 3), (8, .if_icmp .ge 20, 3), (11, .aload_n 0, 1), (12, .iload_n 1, 1), (13, .iload_n 3, 1), (14, .invokevirtual 203, 3), (17, .bipush 59, 2), (19, .if_icmp .eq 9, 3), (22, .iinc 3 1, 3), (25, .goto (-23), 3), (28, .iload_n 3, 1), (29, .ireturn, 1)]
abbrev cX9_keepAnchor : ByteArray := prog_11_method_42_code
def yX9_keepAnchor : MethodName := ⟨RX9, "keepAnchor", "(IIII)V"⟩
def tb_147 : List (Nat × Instr × Nat) := [(0, .aload_n 0, 1), (1, .getfield 43, 3), (4, .iload_n 1, 1), (5, .iload 4, 2), (7, .iload_n 3, 1), (8, .isub, 1), (9, .iastore, 1), (10, .iconst 1, 1), (11, .istore 5, 2), (13, .iload 5, 2), (15, .bipush 12, 2), (17, .if_icmp .ge 42, 3), (20, .aload_n 0, 1), (21, .getfield 43, 3), (24, .iload_n 1, 1), (25, .iload 5, 2), (27, .iadd, 1), (28, .iload_n 3, 1), (29, .iload 5, 2), (31, .iadd, 1), (32, .iload 4, 2), (34, .if_icmp .gt 17, 3), (37, .aload_n 0, 1), (38, .iload_n 2, 1), (39, .iload_n 3, 1), (40, .iload 5, 2), (42, .iadd, 1), (43, .iconst 1, 1), (44, .isub, 1), (45, .invokevirtual 203, 3), (48, .goto 4, 3), (51, .iconst 0, 1), (52, .iastore, 1), (53, .iinc 5 1, 3), (56, .goto (-43), 3), (59, .return_, 1)]
abbrev cX9_keepLink : ByteArray := prog_11_method_43_code
def yX9_keepLink : MethodName := ⟨RX9, "keepLink", "(III)V"⟩
def tb_148 : List (Nat × Instr × Nat) := [(0, .bipush 42, 2), (2, .iload_n 1, 1), (3, .imul, 1), (4, .aload_n 0, 1), (5, .getfield 67, 3), (8, .iload_n 1, 1), (9, .iaload, 1), (10, .iadd, 1), (11, .istore 4, 2), (13, .aload_n 0, 1), (14, .iload_n 1, 1), (15, .iload_n 2, 1), (16, .invokevirtual 203, 3), (19, .bipush 65, 2), (21, .bipush 76, 2), (23, .invokestatic 106, 3), (26, .istore 5, 2), (28, .aload_n 0, 1), (29, .getfield 70, 3), (32, .iload 4, 2), (34, .iload_n 2, 1), (35, .iastore, 1), (36, .aload_n 0, 1), (37, .getfield 73, 3), (40, .iload 4, 2), (42, .iload_n 3, 1), (43, .iastore, 1), (44, .aload_n 0, 1), (45, .getfield 76, 3), (48, .iload 4, 2), (50, .iload 5, 2), (52, .ifCond .eq 15, 3), (55, .aload_n 0, 1), (56, .iload_n 1, 1), (57, .iload_n 2, 1), (58, .invokevirtual 203, 3), (61, .bipush 65, 2), (63, .isub, 1), (64, .goto 4, 3), (67, .iload_n 1, 1), (68, .iastore, 1), (69, .iload 5, 2), (71, .ifCond .eq 9, 3), (74, .iload_n 2, 1), (75, .iconst 1, 1), (76, .iadd, 1), (77, .goto 4, 3), (80, .iload_n 2, 1), (81, .istore 6, 2), (83, .aload_n 0, 1), (84, .iload_n 1, 1), (85, .aload_n 0, 1), (86, .getfield 67, 3), (89, .iload_n 1, 1), (90, .iaload, 1), (91, .invokestatic 224, 3), (94, .iload_n 1, 1), (95, .iload 6, 2), (97, .iload_n 3, 1), (98, .if_icmp .ge 10, 3), (101, .iload 6, 2), (103, .iconst 1, 1), (104, .iadd, 1), (105, .goto 4, 3), (108, .iload_n 3, 1), (109, .iload_n 3, 1), (110, .invokevirtual 227, 3), (113, .aload_n 0, 1), (114, .getfield 67, 3), (117, .iload_n 1, 1), (118, .dup2, 1), (119, .iaload, 1), (120, .iconst 1, 1), (121, .iadd, 1), (122, .iastore, 1), (123, .return_, 1)]
abbrev cX9_layLinks : ByteArray := prog_11_method_44_code
def yX9_layLinks : MethodName := ⟨RX9, "layLinks", "(III)V"⟩
def tb_149 : List (Nat × Instr × Nat) := [(0, .bipush (-6), 2), (2, .istore 4, 2), (4, .iload_n 2, 1), (5, .istore 5, 2), (7, .iload 5, 2), (9, .iload_n 3, 1), (10, .if_icmp .ge 48, 3), (13, .aload_n 0, 1), (14, .iload_n 1, 1), (15, .iload 5, 2), (17, .invokevirtual 203, 3), (20, .bipush 91, 2), (22, .if_icmp .ne 9, 3), (25, .iload 5, 2), (27, .iconst 1, 1), (28, .iadd, 1), (29, .istore 4, 2), (31, .aload_n 0, 1), (32, .iload_n 1, 1), (33, .iload 5, 2), (35, .invokevirtual 203, 3), (38, .bipush 93, 2), (40, .if_icmp .ne 12, 3), (43, .aload_n 0, 1), (44, .iload_n 1, 1), (45, .iload 4, 2), (47, .iload 5, 2), (49, .invokevirtual 231, 3), (52, .iinc 5 1, 3), (55, .goto (-48), 3), (58, .return_, 1)]
abbrev cX9_digestLine : ByteArray := prog_11_method_45_code
def yX9_digestLine : MethodName := ⟨RX9, "digestLine", "(IIII)V"⟩
def tb_150 : List (Nat × Instr × Nat) := [(0, .bipush 31, 2), (2, .aload_n 0, 1), (3, .getfield 52, 3), (6, .iload_n 1, 1), (7, .iaload, 1), (8, .imul, 1), (9, .bipush 59, 2), (11, .iadd, 1), (12, .ldc 235, 2), (14, .irem, 1), (15, .istore 5, 2), (17, .iload_n 3, 1), (18, .istore 6, 2), (20, .iload 6, 2), (22, .iload 4, 2), (24, .if_icmp .ge 27, 3), (27, .bipush 31, 2), (29, .iload 5, 2), (31, .imul, 1), (32, .aload_n 0, 1), (33, .iload_n 2, 1), (34, .iload 6, 2), (36, .invokevirtual 203, 3), (39, .iadd, 1), (40, .ldc 235, 2), (42, .irem, 1), (43, .istore 5, 2), (45, .iinc 6 1, 3), (48, .goto (-28), 3), (51, .aload_n 0, 1), (52, .getfield 52, 3), (55, .iload_n 1, 1), (56, .iload 5, 2), (58, .iastore, 1), (59, .aload_n 0, 1), (60, .getfield 58, 3), (63, .iload_n 1, 1), (64, .dup2, 1), (65, .iaload, 1), (66, .iconst 1, 1), (67, .iadd, 1), (68, .iastore, 1), (69, .return_, 1)]
abbrev cX9_layOwn : ByteArray := prog_11_method_46_code
def yX9_layOwn : MethodName := ⟨RX9, "layOwn", "(I)V"⟩
def tb_151 : List (Nat × Instr × Nat) := [(0, .aload_n 0, 1), (1, .getfield 49, 3), (4, .iload_n 1, 1), (5, .iconst 0, 1), (6, .iastore, 1), (7, .aload_n 0, 1), (8, .getfield 61, 3), (11, .iload_n 1, 1), (12, .iconst 0, 1), (13, .iastore, 1), (14, .aload_n 0, 1), (15, .getfield 64, 3), (18, .iload_n 1, 1), (19, .iconst 0, 1), (20, .iastore, 1), (21, .aload_n 0, 1), (22, .getfield 67, 3), (25, .iload_n 1, 1), (26, .iconst 0, 1), (27, .iastore, 1), (28, .iconst 0, 1), (29, .istore_n 2, 1), (30, .iload_n 2, 1), (31, .aload_n 0, 1), (32, .iload_n 1, 1), (33, .invokevirtual 110, 3), (36, .if_icmp .ge 164, 3), (39, .aload_n 0, 1), (40, .iload_n 1, 1), (41, .iload_n 2, 1), (42, .invokevirtual 236, 3), (45, .istore_n 3, 1), (46, .bipush 54, 2), (48, .iload_n 1, 1), (49, .imul, 1), (50, .aload_n 0, 1), (51, .getfield 49, 3), (54, .iload_n 1, 1), (55, .iaload, 1), (56, .iadd, 1), (57, .iconst 1, 1), (58, .isub, 1), (59, .istore 4, 2), (61, .aload_n 0, 1), (62, .iload_n 1, 1), (63, .iload_n 2, 1), (64, .invokevirtual 203, 3), (67, .bipush 61, 2), (69, .if_icmp .ne 48, 3), (72, .aload_n 0, 1), (73, .getfield 52, 3), (76, .iload 4, 2), (78, .iconst 1, 1), (79, .iadd, 1), (80, .bipush 7, 2), (82, .iastore, 1), (83, .aload_n 0, 1), (84, .getfield 58, 3), (87, .iload 4, 2), (89, .iconst 1, 1), (90, .iadd, 1), (91, .iconst 0, 1), (92, .iastore, 1), (93, .aload_n 0, 1), (94, .getfield 55, 3), (97, .iload 4, 2), (99, .iconst 1, 1), (100, .iadd, 1), (101, .bipush (-6), 2), (103, .iastore, 1), (104, .aload_n 0, 1), (105, .getfield 49, 3), (108, .iload_n 1, 1), (109, .dup2, 1), (110, .iaload, 1), (111, .iconst 1, 1), (112, .iadd, 1), (113, .iastore, 1), (114, .goto 74, 3), (117, .aload_n 0, 1), (118, .getfield 49, 3), (121, .iload_n 1, 1), (122, .iaload, 1), (123, .ifCond .le 12, 3), (126, .aload_n 0, 1), (127, .iload 4, 2), (129, .iload_n 1, 1), (130, .iload_n 2, 1), (131, .iload_n 3, 1), (132, .invokevirtual 239, 3), (135, .aload_n 0, 1), (136, .iload_n 1, 1), (137, .iload_n 2, 1), (138, .invokevirtual 203, 3), (141, .bipush 123, 2), (143, .if_icmp .ne 38, 3), (146, .aload_n 0, 1), (147, .getfield 61, 3), (150, .iload_n 1, 1), (151, .dup2, 1), (152, .iaload, 1), (153, .iconst 1, 1), (154, .iadd, 1), (155, .iastore, 1), (156, .aload_n 0, 1), (157, .getfield 64, 3), (160, .iload_n 1, 1), (161, .dup2, 1), (162, .iaload, 1), (163, .iconst 1, 1), (164, .aload_n 0, 1), (165, .iload_n 1, 1), (166, .iload_n 2, 1), (167, .iconst 1, 1), (168, .iadd, 1), (169, .invokevirtual 203, 3), (172, .bipush 65, 2), (174, .isub, 1), (175, .ishl, 1), (176, .ior, 1), (177, .iastore, 1), (178, .goto 10, 3), (181, .aload_n 0, 1), (182, .iload_n 1, 1), (183, .iload_n 2, 1), (184, .iload_n 3, 1), (185, .invokevirtual 242, 3), (188, .aload_n 0, 1), (189, .iload_n 1, 1), (190, .iload_n 2, 1), (191, .invokevirtual 236, 3), (194, .iconst 1, 1), (195, .iadd, 1), (196, .istore_n 2, 1), (197, .goto (-167), 3), (200, .return_, 1)]
abbrev cX9_push : ByteArray := prog_11_method_47_code
def yX9_push : MethodName := ⟨RX9, "push", "(II)V"⟩
def tb_152 : List (Nat × Instr × Nat) := [(0, .aload_n 0, 1), (1, .getfield 79, 3), (4, .aload_n 0, 1), (5, .getfield 245, 3), (8, .iload_n 1, 1), (9, .iastore, 1), (10, .aload_n 0, 1), (11, .getfield 82, 3), (14, .aload_n 0, 1), (15, .getfield 245, 3), (18, .iconst 0, 1), (19, .iastore, 1), (20, .aload_n 0, 1), (21, .getfield 85, 3), (24, .aload_n 0, 1), (25, .getfield 245, 3), (28, .iload_n 2, 1), (29, .iastore, 1), (30, .aload_n 0, 1), (31, .dup, 1), (32, .getfield 245, 3), (35, .iconst 1, 1), (36, .iadd, 1), (37, .putfield 245, 3), (40, .aload_n 0, 1), (41, .dup, 1), (42, .getfield 248, 3), (45, .iconst 1, 1), (46, .iload_n 1, 1), (47, .ishl, 1), (48, .ior, 1), (49, .putfield 248, 3), (52, .return_, 1)]
abbrev cX9_namesakes : ByteArray := prog_11_method_48_code
def yX9_namesakes : MethodName := ⟨RX9, "namesakes", "(II)I"⟩
def tb_153 : List (Nat × Instr × Nat) := [(0, .iload_n 1, 1), (1, .iload_n 2, 1), (2, .invokestatic 187, 3), (5, .istore_n 3, 1), (6, .iconst 0, 1), (7, .istore 4, 2), (9, .iconst 0, 1), (10, .istore 5, 2), (12, .iload 5, 2), (14, .iload_n 2, 1), (15, .if_icmp .ge 114, 3), (18, .iload_n 1, 1), (19, .iload 5, 2), (21, .invokestatic 187, 3), (24, .istore 6, 2), (26, .aload_n 0, 1), (27, .getfield 46, 3), (30, .bipush 100, 2), (32, .iload_n 1, 1), (33, .imul, 1), (34, .iload 5, 2), (36, .iadd, 1), (37, .iaload, 1), (38, .aload_n 0, 1), (39, .getfield 43, 3), (42, .iload_n 3, 1), (43, .iaload, 1), (44, .if_icmp .ne 7, 3), (47, .iconst 1, 1), (48, .goto 4, 3), (51, .iconst 0, 1), (52, .istore 7, 2), (54, .iconst 1, 1), (55, .istore 8, 2), (57, .iload 8, 2), (59, .aload_n 0, 1), (60, .getfield 43, 3), (63, .iload_n 3, 1), (64, .iaload, 1), (65, .if_icmp .gt 43, 3), (68, .iload 7, 2), (70, .ifCond .eq 38, 3), (73, .aload_n 0, 1), (74, .getfield 43, 3), (77, .iload 6, 2), (79, .iload 8, 2), (81, .iadd, 1), (82, .iaload, 1), (83, .aload_n 0, 1), (84, .getfield 43, 3), (87, .iload_n 3, 1), (88, .iload 8, 2), (90, .iadd, 1), (91, .iaload, 1), (92, .if_icmp .ne 7, 3), (95, .iconst 1, 1), (96, .goto 4, 3), (99, .iconst 0, 1), (100, .istore 7, 2), (102, .iinc 8 1, 3), (105, .goto (-48), 3), (108, .iload 4, 2), (110, .iload 7, 2), (112, .ifCond .eq 7, 3), (115, .iconst 1, 1), (116, .goto 4, 3), (119, .iconst 0, 1), (120, .iadd, 1), (121, .istore 4, 2), (123, .iinc 5 1, 3), (126, .goto (-114), 3), (129, .iload 4, 2), (131, .ireturn, 1)]
abbrev cX9_appendSign : ByteArray := prog_11_method_49_code
def yX9_appendSign : MethodName := ⟨RX9, "appendSign", "(II)V"⟩
def tb_154 : List (Nat × Instr × Nat) := [(0, .aload_n 0, 1), (1, .getfield 43, 3), (4, .iload_n 1, 1), (5, .dup2, 1), (6, .iaload, 1), (7, .iconst 1, 1), (8, .iadd, 1), (9, .iastore, 1), (10, .aload_n 0, 1), (11, .getfield 43, 3), (14, .iload_n 1, 1), (15, .aload_n 0, 1), (16, .getfield 43, 3), (19, .iload_n 1, 1), (20, .iaload, 1), (21, .iadd, 1), (22, .iload_n 2, 1), (23, .iastore, 1), (24, .return_, 1)]
abbrev cX9_keepHeading : ByteArray := prog_11_method_50_code
def yX9_keepHeading : MethodName := ⟨RX9, "keepHeading", "(IIIII)V"⟩
def tb_155 : List (Nat × Instr × Nat) := [(0, .aload_n 0, 1), (1, .getfield 31, 3), (4, .iload_n 1, 1), (5, .iaload, 1), (6, .istore 6, 2), (8, .bipush 100, 2), (10, .iload_n 1, 1), (11, .imul, 1), (12, .iload 6, 2), (14, .iadd, 1), (15, .istore 7, 2), (17, .iconst 0, 1), (18, .istore 8, 2), (20, .aload_n 0, 1), (21, .iload_n 2, 1), (22, .iload_n 3, 1), (23, .iload 8, 2), (25, .iadd, 1), (26, .invokevirtual 203, 3), (29, .bipush 61, 2), (31, .if_icmp .ne 9, 3), (34, .iinc 8 1, 3), (37, .goto (-17), 3), (40, .iload 8, 2), (42, .iload 5, 2), (44, .iadd, 1), (45, .istore 9, 2), (47, .aload_n 0, 1), (48, .getfield 34, 3), (51, .iload 7, 2), (53, .iload 9, 2), (55, .iastore, 1), (56, .aload_n 0, 1), (57, .getfield 37, 3), (60, .iload 7, 2), (62, .iload_n 2, 1), (63, .iastore, 1), (64, .aload_n 0, 1), (65, .getfield 88, 3), (68, .iload 9, 2), (70, .dup2, 1), (71, .iaload, 1), (72, .iconst 1, 1), (73, .iadd, 1), (74, .iastore, 1), (75, .iload 9, 2), (77, .iconst 1, 1), (78, .iadd, 1), (79, .istore 10, 2), (81, .iload 10, 2), (83, .bipush 64, 2), (85, .if_icmp .ge 17, 3), (88, .aload_n 0, 1), (89, .getfield 88, 3), (92, .iload 10, 2), (94, .iconst 0, 1), (95, .iastore, 1), (96, .iinc 10 1, 3), (99, .goto (-18), 3), (102, .iconst 1, 1), (103, .istore 10, 2), (105, .iload 10, 2), (107, .bipush 10, 2), (109, .if_icmp .gt 42, 3), (112, .aload_n 0, 1), (113, .getfield 40, 3), (116, .bipush 10, 2), (118, .iload 7, 2), (120, .imul, 1), (121, .iload 10, 2), (123, .iadd, 1), (124, .iconst 1, 1), (125, .isub, 1), (126, .iload 10, 2), (128, .iload 9, 2), (130, .if_icmp .gt 13, 3), (133, .aload_n 0, 1), (134, .getfield 88, 3), (137, .iload 10, 2), (139, .iaload, 1), (140, .goto 4, 3), (143, .iconst 0, 1), (144, .iastore, 1), (145, .iinc 10 1, 3), (148, .goto (-43), 3), (151, .iload_n 1, 1), (152, .iload 6, 2), (154, .invokestatic 187, 3), (157, .istore 10, 2), (159, .aload_n 0, 1), (160, .iload 10, 2), (162, .iload_n 2, 1), (163, .iload_n 3, 1), (164, .iload 8, 2), (166, .iadd, 1), (167, .iload 4, 2), (169, .invokevirtual 227, 3), (172, .aload_n 0, 1), (173, .getfield 46, 3), (176, .iload 7, 2), (178, .aload_n 0, 1), (179, .getfield 43, 3), (182, .iload 10, 2), (184, .iaload, 1), (185, .iastore, 1), (186, .aload_n 0, 1), (187, .iload_n 1, 1), (188, .iload 6, 2), (190, .invokevirtual 251, 3), (193, .istore 11, 2), (195, .iload 11, 2), (197, .ifCond .le 46, 3), (200, .aload_n 0, 1), (201, .iload 10, 2), (203, .bipush 45, 2), (205, .invokevirtual 254, 3), (208, .iload 11, 2), (210, .bipush 9, 2), (212, .if_icmp .le 17, 3), (215, .aload_n 0, 1), (216, .iload 10, 2), (218, .bipush 48, 2), (220, .iload 11, 2), (222, .bipush 10, 2), (224, .idiv, 1), (225, .iadd, 1), (226, .invokevirtual 254, 3), (229, .aload_n 0, 1), (230, .iload 10, 2), (232, .bipush 48, 2), (234, .iload 11, 2), (236, .bipush 10, 2), (238, .irem, 1), (239, .iadd, 1), (240, .invokevirtual 254, 3), (243, .aload_n 0, 1), (244, .getfield 245, 3), (247, .iconst 1, 1), (248, .if_icmp .ne 29, 3), (251, .aload_n 0, 1), (252, .getfield 55, 3), (255, .bipush 54, 2), (257, .iload_n 1, 1), (258, .imul, 1), (259, .aload_n 0, 1), (260, .getfield 257, 3), (263, .iadd, 1), (264, .iload 6, 2), (266, .iastore, 1), (267, .aload_n 0, 1), (268, .dup, 1), (269, .getfield 257, 3), (272, .iconst 1, 1), (273, .iadd, 1), (274, .putfield 257, 3), (277, .aload_n 0, 1), (278, .getfield 31, 3), (281, .iload_n 1, 1), (282, .dup2, 1), (283, .iaload, 1), (284, .iconst 1, 1), (285, .iadd, 1), (286, .iastore, 1), (287, .return_, 1)]
abbrev cX9_layExpansion : ByteArray := prog_11_method_51_code
def yX9_layExpansion : MethodName := ⟨RX9, "layExpansion", "(I)V"⟩
def tb_156 : List (Nat × Instr × Nat) := [(0, .aload_n 0, 1), (1, .getfield 25, 3), (4, .iload_n 1, 1), (5, .iconst 0, 1), (6, .iastore, 1), (7, .aload_n 0, 1), (8, .getfield 28, 3), (11, .iload_n 1, 1), (12, .iconst 0, 1), (13, .iastore, 1), (14, .aload_n 0, 1), (15, .getfield 31, 3), (18, .iload_n 1, 1), (19, .iconst 0, 1), (20, .iastore, 1), (21, .aload_n 0, 1), (22, .iconst 0, 1), (23, .putfield 257, 3), (26, .aload_n 0, 1), (27, .iconst 0, 1), (28, .putfield 245, 3), (31, .aload_n 0, 1), (32, .iconst 0, 1), (33, .putfield 248, 3), (36, .iconst 0, 1), (37, .istore_n 2, 1), (38, .iload_n 2, 1), (39, .bipush 64, 2), (41, .if_icmp .ge 16, 3), (44, .aload_n 0, 1), (45, .getfield 88, 3), (48, .iload_n 2, 1), (49, .iconst 0, 1), (50, .iastore, 1), (51, .iinc 2 1, 3), (54, .goto (-16), 3), (57, .iconst 0, 1), (58, .istore_n 2, 1), (59, .aload_n 0, 1), (60, .iload_n 1, 1), (61, .iconst 0, 1), (62, .invokevirtual 260, 3), (65, .aload_n 0, 1), (66, .getfield 245, 3), (69, .ifCond .le 261, 3), (72, .aload_n 0, 1), (73, .getfield 25, 3), (76, .iload_n 1, 1), (77, .iaload, 1), (78, .bipush 100, 2), (80, .if_icmp .ge 250, 3), (83, .aload_n 0, 1), (84, .getfield 245, 3), (87, .iconst 1, 1), (88, .isub, 1), (89, .istore_n 3, 1), (90, .aload_n 0, 1), (91, .getfield 79, 3), (94, .iload_n 3, 1), (95, .iaload, 1), (96, .istore 4, 2), (98, .aload_n 0, 1), (99, .getfield 82, 3), (102, .iload_n 3, 1), (103, .iaload, 1), (104, .istore 5, 2), (106, .iload 5, 2), (108, .aload_n 0, 1), (109, .iload 4, 2), (111, .invokevirtual 110, 3), (114, .if_icmp .lt 31, 3), (117, .aload_n 0, 1), (118, .dup, 1), (119, .getfield 245, 3), (122, .iconst 1, 1), (123, .isub, 1), (124, .putfield 245, 3), (127, .aload_n 0, 1), (128, .dup, 1), (129, .getfield 248, 3), (132, .iconst 1, 1), (133, .iload 4, 2), (135, .ishl, 1), (136, .iconst (-1), 1), (137, .ixor, 1), (138, .iand, 1), (139, .putfield 248, 3), (142, .goto (-77), 3), (145, .aload_n 0, 1), (146, .iload 4, 2), (148, .iload 5, 2), (150, .invokevirtual 236, 3), (153, .istore 6, 2), (155, .aload_n 0, 1), (156, .getfield 82, 3), (159, .iload_n 3, 1), (160, .iload 6, 2), (162, .iconst 1, 1), (163, .iadd, 1), (164, .iastore, 1), (165, .aload_n 0, 1), (166, .iload 4, 2), (168, .iload 5, 2), (170, .invokevirtual 203, 3), (173, .istore 7, 2), (175, .iload 7, 2), (177, .bipush 123, 2), (179, .if_icmp .ne 101, 3), (182, .aload_n 0, 1), (183, .iload 4, 2), (185, .iload 5, 2), (187, .iconst 1, 1), (188, .iadd, 1), (189, .invokevirtual 203, 3), (192, .bipush 65, 2), (194, .isub, 1), (195, .istore 8, 2), (197, .aload_n 0, 1), (198, .iload 4, 2), (200, .iload 5, 2), (202, .iconst 2, 1), (203, .iadd, 1), (204, .invokevirtual 203, 3), (207, .bipush 43, 2), (209, .if_icmp .ne 19, 3), (212, .aload_n 0, 1), (213, .iload 4, 2), (215, .iload 5, 2), (217, .iconst 3, 1), (218, .iadd, 1), (219, .invokevirtual 203, 3), (222, .bipush 48, 2), (224, .isub, 1), (225, .goto 4, 3), (228, .iconst 0, 1), (229, .istore 9, 2), (231, .aload_n 0, 1), (232, .iload 8, 2), (234, .invokevirtual 212, 3), (237, .ifCond .eq 40, 3), (240, .aload_n 0, 1), (241, .getfield 248, 3), (244, .iload 8, 2), (246, .ishr, 1), (247, .iconst 1, 1), (248, .iand, 1), (249, .ifCond .ne 28, 3), (252, .iload_n 2, 1), (253, .sipush 200, 3), (256, .if_icmp .ge 21, 3), (259, .aload_n 0, 1), (260, .iload 8, 2), (262, .aload_n 0, 1), (263, .getfield 85, 3), (266, .iload_n 3, 1), (267, .iaload, 1), (268, .iload 9, 2), (270, .iadd, 1), (271, .invokevirtual 260, 3), (274, .iinc 2 1, 3), (277, .goto 50, 3), (280, .iload 7, 2), (282, .bipush 61, 2), (284, .if_icmp .ne 20, 3), (287, .aload_n 0, 1), (288, .iload_n 1, 1), (289, .iload 4, 2), (291, .iload 5, 2), (293, .iload 6, 2), (295, .aload_n 0, 1), (296, .getfield 85, 3), (299, .iload_n 3, 1), (300, .iaload, 1), (301, .invokevirtual 263, 3), (304, .aload_n 0, 1), (305, .getfield 25, 3), (308, .iload_n 1, 1), (309, .dup2, 1), (310, .iaload, 1), (311, .iconst 1, 1), (312, .iadd, 1), (313, .iastore, 1), (314, .aload_n 0, 1), (315, .getfield 28, 3), (318, .iload_n 1, 1), (319, .dup2, 1), (320, .iaload, 1), (321, .iconst 1, 1), (322, .iload 4, 2), (324, .ishl, 1), (325, .ior, 1), (326, .iastore, 1), (327, .goto (-262), 3), (330, .return_, 1)]
abbrev cX9_layAll : ByteArray := prog_11_method_52_code
def yX9_layAll : MethodName := ⟨RX9, "layAll", "()V"⟩
def tb_157 : List (Nat × Instr × Nat) := [(0, .aload_n 0, 1), (1, .getfield 180, 3), (4, .ifCond .eq 4, 3), (7, .return_, 1), (8, .aload_n 0, 1), (9, .iconst 1, 1), (10, .putfield 180, 3), (13, .iconst 0, 1), (14, .istore_n 1, 1), (15, .iload_n 1, 1), (16, .bipush 12, 2), (18, .if_icmp .ge 50, 3), (21, .aload_n 0, 1), (22, .getfield 31, 3), (25, .iload_n 1, 1), (26, .iconst 0, 1), (27, .iastore, 1), (28, .aload_n 0, 1), (29, .getfield 49, 3), (32, .iload_n 1, 1), (33, .iconst 0, 1), (34, .iastore, 1), (35, .aload_n 0, 1), (36, .getfield 67, 3), (39, .iload_n 1, 1), (40, .iconst 0, 1), (41, .iastore, 1), (42, .aload_n 0, 1), (43, .getfield 64, 3), (46, .iload_n 1, 1), (47, .iconst 0, 1), (48, .iastore, 1), (49, .aload_n 0, 1), (50, .iload_n 1, 1), (51, .invokevirtual 212, 3), (54, .ifCond .eq 8, 3), (57, .aload_n 0, 1), (58, .iload_n 1, 1), (59, .invokevirtual 267, 3), (62, .iinc 1 1, 3), (65, .goto (-50), 3), (68, .iconst 0, 1), (69, .istore_n 1, 1), (70, .iload_n 1, 1), (71, .bipush 12, 2), (73, .if_icmp .ge 22, 3), (76, .aload_n 0, 1), (77, .iload_n 1, 1), (78, .invokevirtual 212, 3), (81, .ifCond .eq 8, 3), (84, .aload_n 0, 1), (85, .iload_n 1, 1), (86, .invokevirtual 270, 3), (89, .iinc 1 1, 3), (92, .goto (-22), 3), (95, .return_, 1)]
abbrev cX9_about : ByteArray := prog_11_method_53_code
def yX9_about : MethodName := ⟨RX9, "about", "(II)I"⟩
def tb_158 : List (Nat × Instr × Nat) := [(0, .iload_n 1, 1), (1, .invokestatic 206, 3), (4, .ifCond .ne 5, 3), (7, .iconst (-1), 1), (8, .ireturn, 1), (9, .iload_n 2, 1), (10, .iconst 0, 1), (11, .bipush 7, 2), (13, .invokestatic 106, 3), (16, .ifCond .ne 6, 3), (19, .bipush (-2), 2), (21, .ireturn, 1), (22, .aload_n 0, 1), (23, .iload_n 1, 1), (24, .invokevirtual 212, 3), (27, .ifCond .ne 6, 3), (30, .bipush (-5), 2), (32, .ireturn, 1), (33, .aload_n 0, 1), (34, .invokevirtual 184, 3), (37, .iload_n 2, 1), (38, .tableswitch 90 0 6 #[42, 48, 55, 62, 69, 76, 83], 42), (80, .aload_n 0, 1), (81, .iload_n 1, 1), (82, .invokevirtual 218, 3), (85, .ireturn, 1), (86, .aload_n 0, 1), (87, .getfield 25, 3), (90, .iload_n 1, 1), (91, .iaload, 1), (92, .ireturn, 1), (93, .aload_n 0, 1), (94, .getfield 31, 3), (97, .iload_n 1, 1), (98, .iaload, 1), (99, .ireturn, 1), (100, .aload_n 0, 1), (101, .getfield 49, 3), (104, .iload_n 1, 1), (105, .iaload, 1), (106, .ireturn, 1), (107, .aload_n 0, 1), (108, .getfield 67, 3), (111, .iload_n 1, 1), (112, .iaload, 1), (113, .ireturn, 1), (114, .aload_n 0, 1), (115, .getfield 61, 3), (118, .iload_n 1, 1), (119, .iaload, 1), (120, .ireturn, 1), (121, .aload_n 0, 1), (122, .getfield 64, 3), (125, .iload_n 1, 1), (126, .iaload, 1), (127, .ireturn, 1), (128, .aload_n 0, 1), (129, .getfield 28, 3), (132, .iload_n 1, 1), (133, .iaload, 1), (134, .ireturn, 1)]
abbrev cX9_isHeading : ByteArray := prog_11_method_54_code
def yX9_isHeading : MethodName := ⟨RX9, "isHeading", "(II)Z"⟩
def tb_159 : List (Nat × Instr × Nat) := [(0, .aload_n 0, 1), (1, .invokevirtual 184, 3), (4, .iload_n 1, 1), (5, .invokestatic 206, 3), (8, .ifCond .eq 23, 3), (11, .iload_n 2, 1), (12, .iconst 0, 1), (13, .aload_n 0, 1), (14, .getfield 31, 3), (17, .iload_n 1, 1), (18, .iaload, 1), (19, .iconst 1, 1), (20, .isub, 1), (21, .invokestatic 106, 3), (24, .ifCond .eq 7, 3), (27, .iconst 1, 1), (28, .goto 4, 3), (31, .iconst 0, 1), (32, .ireturn, 1)]
abbrev cX9_heading : ByteArray := prog_11_method_55_code
def yX9_heading : MethodName := ⟨RX9, "heading", "(III)I"⟩
def tb_160 : List (Nat × Instr × Nat) := [(0, .aload_n 0, 1), (1, .iload_n 1, 1), (2, .iload_n 2, 1), (3, .invokevirtual 273, 3), (6, .ifCond .ne 5, 3), (9, .iconst (-1), 1), (10, .ireturn, 1), (11, .iload_n 3, 1), (12, .iconst 0, 1), (13, .bipush 12, 2), (15, .invokestatic 106, 3), (18, .ifCond .ne 6, 3), (21, .bipush (-2), 2), (23, .ireturn, 1), (24, .bipush 100, 2), (26, .iload_n 1, 1), (27, .imul, 1), (28, .iload_n 2, 1), (29, .iadd, 1), (30, .istore 4, 2), (32, .iload_n 3, 1), (33, .tableswitch 54 0 2 #[27, 35, 43], 27), (60, .aload_n 0, 1), (61, .getfield 34, 3), (64, .iload 4, 2), (66, .iaload, 1), (67, .ireturn, 1), (68, .aload_n 0, 1), (69, .getfield 37, 3), (72, .iload 4, 2), (74, .iaload, 1), (75, .ireturn, 1), (76, .aload_n 0, 1), (77, .getfield 43, 3), (80, .iload_n 1, 1), (81, .iload_n 2, 1), (82, .invokestatic 187, 3), (85, .iaload, 1), (86, .ireturn, 1), (87, .aload_n 0, 1), (88, .getfield 40, 3), (91, .bipush 10, 2), (93, .iload 4, 2), (95, .imul, 1), (96, .iload_n 3, 1), (97, .iadd, 1), (98, .iconst 3, 1), (99, .isub, 1), (100, .iaload, 1), (101, .ireturn, 1)]
abbrev cX9_anchor : ByteArray := prog_11_method_56_code
def yX9_anchor : MethodName := ⟨RX9, "anchor", "(III)I"⟩
def tb_161 : List (Nat × Instr × Nat) := [(0, .aload_n 0, 1), (1, .iload_n 1, 1), (2, .iload_n 2, 1), (3, .invokevirtual 273, 3), (6, .ifCond .ne 5, 3), (9, .iconst (-1), 1), (10, .ireturn, 1), (11, .iload_n 1, 1), (12, .iload_n 2, 1), (13, .invokestatic 187, 3), (16, .istore 4, 2), (18, .iload_n 3, 1), (19, .iconst 0, 1), (20, .aload_n 0, 1), (21, .getfield 43, 3), (24, .iload 4, 2), (26, .iaload, 1), (27, .iconst 1, 1), (28, .isub, 1), (29, .invokestatic 106, 3), (32, .ifCond .eq 17, 3), (35, .aload_n 0, 1), (36, .getfield 43, 3), (39, .iload 4, 2), (41, .iconst 1, 1), (42, .iadd, 1), (43, .iload_n 3, 1), (44, .iadd, 1), (45, .iaload, 1), (46, .goto 5, 3), (49, .bipush (-6), 2), (51, .ireturn, 1)]
abbrev cX9_section : ByteArray := prog_11_method_57_code
def yX9_section : MethodName := ⟨RX9, "section", "(III)I"⟩
def tb_162 : List (Nat × Instr × Nat) := [(0, .aload_n 0, 1), (1, .invokevirtual 184, 3), (4, .iload_n 1, 1), (5, .invokestatic 206, 3), (8, .ifCond .eq 19, 3), (11, .iload_n 2, 1), (12, .iconst 0, 1), (13, .aload_n 0, 1), (14, .getfield 49, 3), (17, .iload_n 1, 1), (18, .iaload, 1), (19, .iconst 1, 1), (20, .isub, 1), (21, .invokestatic 106, 3), (24, .ifCond .ne 5, 3), (27, .iconst (-1), 1), (28, .ireturn, 1), (29, .bipush 54, 2), (31, .iload_n 1, 1), (32, .imul, 1), (33, .iload_n 2, 1), (34, .iadd, 1), (35, .istore 4, 2), (37, .iload_n 3, 1), (38, .tableswitch 50 0 2 #[26, 34, 42], 26), (64, .aload_n 0, 1), (65, .getfield 52, 3), (68, .iload 4, 2), (70, .iaload, 1), (71, .ireturn, 1), (72, .aload_n 0, 1), (73, .getfield 55, 3), (76, .iload 4, 2), (78, .iaload, 1), (79, .ireturn, 1), (80, .aload_n 0, 1), (81, .getfield 58, 3), (84, .iload 4, 2), (86, .iaload, 1), (87, .ireturn, 1), (88, .bipush (-2), 2), (90, .ireturn, 1)]
abbrev cX9_included : ByteArray := prog_11_method_58_code
def yX9_included : MethodName := ⟨RX9, "included", "(I)I"⟩
def tb_163 : List (Nat × Instr × Nat) := [(0, .iconst 0, 1), (1, .istore_n 2, 1), (2, .iconst (-1), 1), (3, .istore_n 3, 1), (4, .aload_n 0, 1), (5, .getfield 64, 3), (8, .iload_n 1, 1), (9, .iaload, 1), (10, .istore 4, 2), (12, .iload_n 2, 1), (13, .iload_n 3, 1), (14, .if_icmp .eq 63, 3), (17, .iload_n 2, 1), (18, .istore_n 3, 1), (19, .iconst 0, 1), (20, .istore 5, 2), (22, .iload 5, 2), (24, .bipush 12, 2), (26, .if_icmp .ge 48, 3), (29, .iload 4, 2), (31, .iload 5, 2), (33, .ishr, 1), (34, .iconst 1, 1), (35, .iand, 1), (36, .iconst 1, 1), (37, .if_icmp .ne 31, 3), (40, .aload_n 0, 1), (41, .iload 5, 2), (43, .invokevirtual 212, 3), (46, .ifCond .eq 22, 3), (49, .iload_n 2, 1), (50, .iconst 1, 1), (51, .iload 5, 2), (53, .ishl, 1), (54, .ior, 1), (55, .istore_n 2, 1), (56, .iload 4, 2), (58, .aload_n 0, 1), (59, .getfield 64, 3), (62, .iload 5, 2), (64, .iaload, 1), (65, .ior, 1), (66, .istore 4, 2), (68, .iinc 5 1, 3), (71, .goto (-49), 3), (74, .goto (-62), 3), (77, .iload_n 2, 1), (78, .ireturn, 1)]
abbrev cX9_cycles : ByteArray := prog_11_method_59_code
def yX9_cycles : MethodName := ⟨RX9, "cycles", "()I"⟩
def tb_164 : List (Nat × Instr × Nat) := [(0, .aload_n 0, 1), (1, .invokevirtual 184, 3), (4, .iconst 0, 1), (5, .istore_n 1, 1), (6, .iconst 0, 1), (7, .istore_n 2, 1), (8, .iload_n 2, 1), (9, .bipush 12, 2), (11, .if_icmp .ge 40, 3), (14, .iload_n 1, 1), (15, .aload_n 0, 1), (16, .iload_n 2, 1), (17, .invokevirtual 212, 3), (20, .ifCond .eq 22, 3), (23, .aload_n 0, 1), (24, .iload_n 2, 1), (25, .invokevirtual 277, 3), (28, .iload_n 2, 1), (29, .ishr, 1), (30, .iconst 1, 1), (31, .iand, 1), (32, .iconst 1, 1), (33, .if_icmp .ne 9, 3), (36, .iconst 1, 1), (37, .iload_n 2, 1), (38, .ishl, 1), (39, .goto 4, 3), (42, .iconst 0, 1), (43, .ior, 1), (44, .istore_n 1, 1), (45, .iinc 2 1, 3), (48, .goto (-40), 3), (51, .iload_n 1, 1), (52, .ireturn, 1)]
abbrev cX9_turnAt : ByteArray := prog_11_method_60_code
def yX9_turnAt : MethodName := ⟨RX9, "turnAt", "(I)I"⟩
def tb_165 : List (Nat × Instr × Nat) := [(0, .sipush 1932, 3), (3, .bipush 28, 2), (5, .iload_n 1, 1), (6, .imul, 1), (7, .iadd, 1), (8, .ireturn, 1)]
abbrev cX9_turns : ByteArray := prog_11_method_61_code
def yX9_turns : MethodName := ⟨RX9, "turns", "()I"⟩
def tb_166 : List (Nat × Instr × Nat) := [(0, .aload_n 0, 1), (1, .getfield 13, 3), (4, .sipush 2268, 3), (7, .iaload, 1), (8, .ireturn, 1)]
abbrev cX9_areSamePlaces : ByteArray := prog_11_method_62_code
def yX9_areSamePlaces : MethodName := ⟨RX9, "areSamePlaces", "([II[II)Z"⟩
def tb_167 : List (Nat × Instr × Nat) := [(0, .aload_n 1, 1), (1, .iload_n 2, 1), (2, .iaload, 1), (3, .aload_n 3, 1), (4, .iload 4, 2), (6, .iaload, 1), (7, .if_icmp .ne 45, 3), (10, .aload_n 1, 1), (11, .iload_n 2, 1), (12, .iconst 1, 1), (13, .iadd, 1), (14, .iaload, 1), (15, .aload_n 3, 1), (16, .iload 4, 2), (18, .iconst 1, 1), (19, .iadd, 1), (20, .iaload, 1), (21, .if_icmp .ne 31, 3), (24, .aload_n 1, 1), (25, .iload_n 2, 1), (26, .iconst 1, 1), (27, .iadd, 1), (28, .iaload, 1), (29, .ifCond .eq 19, 3), (32, .aload_n 0, 1), (33, .aload_n 1, 1), (34, .iload_n 2, 1), (35, .iconst 2, 1), (36, .iadd, 1), (37, .aload_n 3, 1), (38, .iload 4, 2), (40, .iconst 2, 1), (41, .iadd, 1), (42, .invokevirtual 199, 3), (45, .ifCond .eq 7, 3), (48, .iconst 1, 1), (49, .goto 4, 3), (52, .iconst 0, 1), (53, .ireturn, 1)]
abbrev cX9_redirect : ByteArray := prog_11_method_63_code
def yX9_redirect : MethodName := ⟨RX9, "redirect", "()I"⟩
def tb_168 : List (Nat × Instr × Nat) := [(0, .aload_n 0, 1), (1, .invokevirtual 174, 3), (4, .bipush (-6), 2), (6, .if_icmp .eq 6, 3), (9, .bipush (-3), 2), (11, .ireturn, 1), (12, .aload_n 0, 1), (13, .aload_n 0, 1), (14, .getfield 22, 3), (17, .iconst 0, 1), (18, .aload_n 0, 1), (19, .getfield 22, 3), (22, .bipush 14, 2), (24, .invokevirtual 280, 3), (27, .istore_n 1, 1), (28, .iconst 0, 1), (29, .istore_n 2, 1), (30, .iload_n 2, 1), (31, .aload_n 0, 1), (32, .invokevirtual 283, 3), (35, .if_icmp .ge 40, 3), (38, .iload_n 1, 1), (39, .ifCond .ne 24, 3), (42, .aload_n 0, 1), (43, .aload_n 0, 1), (44, .getfield 22, 3), (47, .iconst 0, 1), (48, .aload_n 0, 1), (49, .getfield 13, 3), (52, .aload_n 0, 1), (53, .iload_n 2, 1), (54, .invokevirtual 286, 3), (57, .invokevirtual 280, 3), (60, .ifCond .eq 7, 3), (63, .iconst 1, 1), (64, .goto 4, 3), (67, .iconst 0, 1), (68, .istore_n 1, 1), (69, .iinc 2 1, 3), (72, .goto (-42), 3), (75, .iload_n 1, 1), (76, .ifCond .eq 6, 3), (79, .bipush (-5), 2), (81, .ireturn, 1), (82, .aload_n 0, 1), (83, .invokevirtual 283, 3), (86, .bipush 12, 2), (88, .if_icmp .ne 6, 3), (91, .bipush (-4), 2), (93, .ireturn, 1), (94, .aload_n 0, 1), (95, .invokevirtual 209, 3), (98, .iconst 0, 1), (99, .istore_n 2, 1), (100, .iload_n 2, 1), (101, .bipush 28, 2), (103, .if_icmp .ge 30, 3), (106, .aload_n 0, 1), (107, .getfield 13, 3), (110, .aload_n 0, 1), (111, .aload_n 0, 1), (112, .invokevirtual 283, 3), (115, .invokevirtual 286, 3), (118, .iload_n 2, 1), (119, .iadd, 1), (120, .aload_n 0, 1), (121, .getfield 22, 3), (124, .iload_n 2, 1), (125, .iaload, 1), (126, .iastore, 1), (127, .iinc 2 1, 3), (130, .goto (-30), 3), (133, .aload_n 0, 1), (134, .getfield 13, 3), (137, .sipush 2268, 3), (140, .dup2, 1), (141, .iaload, 1), (142, .iconst 1, 1), (143, .iadd, 1), (144, .iastore, 1), (145, .aload_n 0, 1), (146, .iconst 0, 1), (147, .putfield 116, 3), (150, .aload_n 0, 1), (151, .invokevirtual 283, 3), (154, .ireturn, 1)]
abbrev cX9_isTurn : ByteArray := prog_11_method_64_code
def yX9_isTurn : MethodName := ⟨RX9, "isTurn", "(I)Z"⟩
def tb_169 : List (Nat × Instr × Nat) := [(0, .iload_n 1, 1), (1, .iconst 0, 1), (2, .aload_n 0, 1), (3, .invokevirtual 283, 3), (6, .iconst 1, 1), (7, .isub, 1), (8, .invokestatic 106, 3), (11, .ireturn, 1)]
abbrev cX9_unredirect : ByteArray := prog_11_method_65_code
def yX9_unredirect : MethodName := ⟨RX9, "unredirect", "(I)I"⟩
def tb_170 : List (Nat × Instr × Nat) := [(0, .aload_n 0, 1), (1, .iload_n 1, 1), (2, .invokevirtual 289, 3), (5, .ifCond .ne 5, 3), (8, .iconst (-1), 1), (9, .ireturn, 1), (10, .aload_n 0, 1), (11, .invokevirtual 209, 3), (14, .aload_n 0, 1), (15, .iload_n 1, 1), (16, .iconst 1, 1), (17, .iadd, 1), (18, .invokevirtual 286, 3), (21, .istore_n 2, 1), (22, .iload_n 2, 1), (23, .aload_n 0, 1), (24, .aload_n 0, 1), (25, .invokevirtual 283, 3), (28, .invokevirtual 286, 3), (31, .if_icmp .ge 24, 3), (34, .aload_n 0, 1), (35, .getfield 13, 3), (38, .iload_n 2, 1), (39, .bipush 28, 2), (41, .isub, 1), (42, .aload_n 0, 1), (43, .getfield 13, 3), (46, .iload_n 2, 1), (47, .iaload, 1), (48, .iastore, 1), (49, .iinc 2 1, 3), (52, .goto (-30), 3), (55, .aload_n 0, 1), (56, .getfield 13, 3), (59, .sipush 2268, 3), (62, .dup2, 1), (63, .iaload, 1), (64, .iconst 1, 1), (65, .isub, 1), (66, .iastore, 1), (67, .aload_n 0, 1), (68, .invokevirtual 283, 3), (71, .ireturn, 1)]
abbrev cX9_redirection : ByteArray := prog_11_method_66_code
def yX9_redirection : MethodName := ⟨RX9, "redirection", "(II)I"⟩
def tb_171 : List (Nat × Instr × Nat) := [(0, .aload_n 0, 1), (1, .iload_n 1, 1), (2, .invokevirtual 289, 3), (5, .ifCond .ne 5, 3), (8, .iconst (-1), 1), (9, .ireturn, 1), (10, .iload_n 2, 1), (11, .tableswitch 91 0 4 #[33, 44, 57, 71, 85], 33), (44, .aload_n 0, 1), (45, .getfield 13, 3), (48, .aload_n 0, 1), (49, .iload_n 1, 1), (50, .invokevirtual 286, 3), (53, .iaload, 1), (54, .ireturn, 1), (55, .aload_n 0, 1), (56, .getfield 13, 3), (59, .aload_n 0, 1), (60, .iload_n 1, 1), (61, .invokevirtual 286, 3), (64, .iconst 1, 1), (65, .iadd, 1), (66, .iaload, 1), (67, .ireturn, 1), (68, .aload_n 0, 1), (69, .getfield 13, 3), (72, .aload_n 0, 1), (73, .iload_n 1, 1), (74, .invokevirtual 286, 3), (77, .bipush 14, 2), (79, .iadd, 1), (80, .iaload, 1), (81, .ireturn, 1), (82, .aload_n 0, 1), (83, .getfield 13, 3), (86, .aload_n 0, 1), (87, .iload_n 1, 1), (88, .invokevirtual 286, 3), (91, .bipush 15, 2), (93, .iadd, 1), (94, .iaload, 1), (95, .ireturn, 1), (96, .aload_n 0, 1), (97, .iload_n 1, 1), (98, .invokevirtual 292, 3), (101, .ireturn, 1), (102, .bipush (-2), 2), (104, .ireturn, 1)]
abbrev cX9_headingWith : ByteArray := prog_11_method_67_code
def yX9_headingWith : MethodName := ⟨RX9, "headingWith", "(I[II)I"⟩
def tb_172 : List (Nat × Instr × Nat) := [(0, .iconst 0, 1), (1, .istore 4, 2), (3, .iload 4, 2), (5, .aload_n 0, 1), (6, .getfield 31, 3), (9, .iload_n 1, 1), (10, .iaload, 1), (11, .if_icmp .ge 31, 3), (14, .aload_n 0, 1), (15, .aload_n 0, 1), (16, .getfield 43, 3), (19, .iload_n 1, 1), (20, .iload 4, 2), (22, .invokestatic 187, 3), (25, .aload_n 2, 1), (26, .iload_n 3, 1), (27, .invokevirtual 199, 3), (30, .ifCond .eq 6, 3), (33, .iload 4, 2), (35, .ireturn, 1), (36, .iinc 4 1, 3), (39, .goto (-36), 3), (42, .bipush (-6), 2), (44, .ireturn, 1)]
abbrev cX9_wasHere : ByteArray := prog_11_method_68_code
def yX9_wasHere : MethodName := ⟨RX9, "wasHere", "()Z"⟩
def tb_173 : List (Nat × Instr × Nat) := [(0, .iconst 0, 1), (1, .istore_n 1, 1), (2, .iconst 0, 1), (3, .istore_n 2, 1), (4, .iload_n 2, 1), (5, .aload_n 0, 1), (6, .getfield 295, 3), (9, .if_icmp .ge 45, 3), (12, .iload_n 1, 1), (13, .ifCond .ne 29, 3), (16, .aload_n 0, 1), (17, .aload_n 0, 1), (18, .getfield 91, 3), (21, .bipush 14, 2), (23, .iload_n 2, 1), (24, .imul, 1), (25, .aload_n 0, 1), (26, .getfield 91, 3), (29, .bipush 14, 2), (31, .aload_n 0, 1), (32, .getfield 295, 3), (35, .imul, 1), (36, .invokevirtual 280, 3), (39, .ifCond .eq 7, 3), (42, .iconst 1, 1), (43, .goto 4, 3), (46, .iconst 0, 1), (47, .istore_n 1, 1), (48, .iinc 2 1, 3), (51, .goto (-47), 3), (54, .iload_n 1, 1), (55, .ireturn, 1)]
abbrev cX9_isGood : ByteArray := prog_11_method_69_code
def yX9_isGood : MethodName := ⟨RX9, "isGood", "()Z"⟩
def tb_174 : List (Nat × Instr × Nat) := [(0, .bipush 14, 2), (2, .aload_n 0, 1), (3, .getfield 295, 3), (6, .imul, 1), (7, .istore_n 1, 1), (8, .aload_n 0, 1), (9, .getfield 91, 3), (12, .iload_n 1, 1), (13, .iaload, 1), (14, .istore_n 2, 1), (15, .aload_n 0, 1), (16, .bipush (-6), 2), (18, .putfield 298, 3), (21, .aload_n 0, 1), (22, .iload_n 2, 1), (23, .invokevirtual 212, 3), (26, .ifCond .ne 5, 3), (29, .iconst 0, 1), (30, .ireturn, 1), (31, .aload_n 0, 1), (32, .getfield 91, 3), (35, .iload_n 1, 1), (36, .iconst 1, 1), (37, .iadd, 1), (38, .iaload, 1), (39, .ifCond .ne 5, 3), (42, .iconst 1, 1), (43, .ireturn, 1), (44, .aload_n 0, 1), (45, .aload_n 0, 1), (46, .iload_n 2, 1), (47, .aload_n 0, 1), (48, .getfield 91, 3), (51, .iload_n 1, 1), (52, .iconst 2, 1), (53, .iadd, 1), (54, .invokevirtual 301, 3), (57, .putfield 298, 3), (60, .aload_n 0, 1), (61, .getfield 298, 3), (64, .ifCond .lt 7, 3), (67, .iconst 1, 1), (68, .goto 4, 3), (71, .iconst 0, 1), (72, .ireturn, 1)]
abbrev cX9_turnFrom : ByteArray := prog_11_method_70_code
def yX9_turnFrom : MethodName := ⟨RX9, "turnFrom", "(Z)I"⟩
def tb_175 : List (Nat × Instr × Nat) := [(0, .bipush 14, 2), (2, .aload_n 0, 1), (3, .getfield 295, 3), (6, .imul, 1), (7, .istore_n 2, 1), (8, .iconst 0, 1), (9, .istore_n 3, 1), (10, .iload_n 3, 1), (11, .aload_n 0, 1), (12, .invokevirtual 283, 3), (15, .if_icmp .ge 82, 3), (18, .iload_n 1, 1), (19, .ifCond .eq 45, 3), (22, .aload_n 0, 1), (23, .getfield 13, 3), (26, .aload_n 0, 1), (27, .iload_n 3, 1), (28, .invokevirtual 286, 3), (31, .iaload, 1), (32, .aload_n 0, 1), (33, .getfield 91, 3), (36, .iload_n 2, 1), (37, .iaload, 1), (38, .if_icmp .ne 22, 3), (41, .aload_n 0, 1), (42, .getfield 13, 3), (45, .aload_n 0, 1), (46, .iload_n 3, 1), (47, .invokevirtual 286, 3), (50, .iconst 1, 1), (51, .iadd, 1), (52, .iaload, 1), (53, .ifCond .ne 7, 3), (56, .iconst 1, 1), (57, .goto 25, 3), (60, .iconst 0, 1), (61, .goto 21, 3), (64, .aload_n 0, 1), (65, .aload_n 0, 1), (66, .getfield 13, 3), (69, .aload_n 0, 1), (70, .iload_n 3, 1), (71, .invokevirtual 286, 3), (74, .aload_n 0, 1), (75, .getfield 91, 3), (78, .iload_n 2, 1), (79, .invokevirtual 280, 3), (82, .istore 4, 2), (84, .iload 4, 2), (86, .ifCond .eq 5, 3), (89, .iload_n 3, 1), (90, .ireturn, 1), (91, .iinc 3 1, 3), (94, .goto (-84), 3), (97, .bipush (-6), 2), (99, .ireturn, 1)]
abbrev cX9_go : ByteArray := prog_11_method_71_code
def yX9_go : MethodName := ⟨RX9, "go", "(IZ)V"⟩
def tb_176 : List (Nat × Instr × Nat) := [(0, .bipush 14, 2), (2, .aload_n 0, 1), (3, .getfield 295, 3), (6, .imul, 1), (7, .istore_n 3, 1), (8, .iload_n 3, 1), (9, .bipush 14, 2), (11, .iadd, 1), (12, .istore 4, 2), (14, .aload_n 0, 1), (15, .getfield 91, 3), (18, .iload 4, 2), (20, .aload_n 0, 1), (21, .getfield 13, 3), (24, .aload_n 0, 1), (25, .iload_n 1, 1), (26, .invokevirtual 286, 3), (29, .bipush 14, 2), (31, .iadd, 1), (32, .iaload, 1), (33, .iastore, 1), (34, .iconst 1, 1), (35, .istore 5, 2), (37, .iload 5, 2), (39, .bipush 14, 2), (41, .if_icmp .ge 51, 3), (44, .aload_n 0, 1), (45, .getfield 91, 3), (48, .iload 4, 2), (50, .iload 5, 2), (52, .iadd, 1), (53, .iload_n 2, 1), (54, .ifCond .eq 15, 3), (57, .aload_n 0, 1), (58, .getfield 91, 3), (61, .iload_n 3, 1), (62, .iload 5, 2), (64, .iadd, 1), (65, .iaload, 1), (66, .goto 19, 3), (69, .aload_n 0, 1), (70, .getfield 13, 3), (73, .aload_n 0, 1), (74, .iload_n 1, 1), (75, .invokevirtual 286, 3), (78, .bipush 14, 2), (80, .iadd, 1), (81, .iload 5, 2), (83, .iadd, 1), (84, .iaload, 1), (85, .iastore, 1), (86, .iinc 5 1, 3), (89, .goto (-52), 3), (92, .aload_n 0, 1), (93, .getfield 94, 3), (96, .iload_n 1, 1), (97, .dup2, 1), (98, .iaload, 1), (99, .iconst 1, 1), (100, .iadd, 1), (101, .iastore, 1), (102, .aload_n 0, 1), (103, .dup, 1), (104, .getfield 295, 3), (107, .iconst 1, 1), (108, .iadd, 1), (109, .putfield 295, 3), (112, .return_, 1)]
abbrev cX9_resolve : ByteArray := prog_11_method_72_code
def yX9_resolve : MethodName := ⟨RX9, "resolve", "(II)V"⟩
def tb_177 : List (Nat × Instr × Nat) := [(0, .aload_n 0, 1), (1, .invokevirtual 184, 3), (4, .bipush 42, 2), (6, .iload_n 1, 1), (7, .imul, 1), (8, .iload_n 2, 1), (9, .iadd, 1), (10, .istore_n 3, 1), (11, .iload_n 1, 1), (12, .iload_n 2, 1), (13, .invokestatic 224, 3), (16, .istore 4, 2), (18, .aload_n 0, 1), (19, .getfield 91, 3), (22, .iconst 0, 1), (23, .aload_n 0, 1), (24, .getfield 76, 3), (27, .iload_n 3, 1), (28, .iaload, 1), (29, .iastore, 1), (30, .aload_n 0, 1), (31, .getfield 91, 3), (34, .iconst 1, 1), (35, .aload_n 0, 1), (36, .getfield 43, 3), (39, .iload 4, 2), (41, .iaload, 1), (42, .ifCond .le 7, 3), (45, .iconst 1, 1), (46, .goto 4, 3), (49, .iconst 0, 1), (50, .iastore, 1), (51, .iconst 0, 1), (52, .istore 5, 2), (54, .iload 5, 2), (56, .bipush 12, 2), (58, .if_icmp .ge 28, 3), (61, .aload_n 0, 1), (62, .getfield 91, 3), (65, .iconst 2, 1), (66, .iload 5, 2), (68, .iadd, 1), (69, .aload_n 0, 1), (70, .getfield 43, 3), (73, .iload 4, 2), (75, .iload 5, 2), (77, .iadd, 1), (78, .iaload, 1), (79, .iastore, 1), (80, .iinc 5 1, 3), (83, .goto (-29), 3), (86, .aload_n 0, 1), (87, .iconst 0, 1), (88, .putfield 295, 3), (91, .aload_n 0, 1), (92, .bipush (-6), 2), (94, .putfield 305, 3), (97, .aload_n 0, 1), (98, .getfield 305, 3), (101, .bipush (-6), 2), (103, .if_icmp .ne 185, 3), (106, .bipush 14, 2), (108, .aload_n 0, 1), (109, .getfield 295, 3), (112, .imul, 1), (113, .istore 5, 2), (115, .aload_n 0, 1), (116, .invokevirtual 308, 3), (119, .ifCond .eq 17, 3), (122, .aload_n 0, 1), (123, .iconst 2, 1), (124, .putfield 305, 3), (127, .aload_n 0, 1), (128, .bipush (-6), 2), (130, .putfield 298, 3), (133, .goto 152, 3), (136, .aload_n 0, 1), (137, .invokevirtual 311, 3), (140, .ifCond .eq 22, 3), (143, .aload_n 0, 1), (144, .aload_n 0, 1), (145, .getfield 295, 3), (148, .ifCond .ne 7, 3), (151, .iconst 0, 1), (152, .goto 4, 3), (155, .iconst 1, 1), (156, .putfield 305, 3), (159, .goto 126, 3), (162, .aload_n 0, 1), (163, .iconst 0, 1), (164, .invokevirtual 314, 3), (167, .ifCond .lt 16, 3), (170, .aload_n 0, 1), (171, .aload_n 0, 1), (172, .iconst 0, 1), (173, .invokevirtual 314, 3), (176, .iconst 0, 1), (177, .invokevirtual 318, 3), (180, .goto 105, 3), (183, .aload_n 0, 1), (184, .aload_n 0, 1), (185, .getfield 91, 3), (188, .iload 5, 2), (190, .iaload, 1), (191, .invokevirtual 212, 3), (194, .ifCond .ne 62, 3), (197, .aload_n 0, 1), (198, .getfield 91, 3), (201, .iload 5, 2), (203, .iconst 1, 1), (204, .iadd, 1), (205, .iaload, 1), (206, .iconst 1, 1), (207, .if_icmp .ne 49, 3), (210, .aload_n 0, 1), (211, .iconst 1, 1), (212, .invokevirtual 314, 3), (215, .ifCond .lt 41, 3), (218, .aload_n 0, 1), (219, .iconst 1, 1), (220, .invokevirtual 314, 3), (223, .istore 6, 2), (225, .aload_n 0, 1), (226, .iload 6, 2), (228, .aload_n 0, 1), (229, .getfield 13, 3), (232, .aload_n 0, 1), (233, .iload 6, 2), (235, .invokevirtual 286, 3), (238, .bipush 15, 2), (240, .iadd, 1), (241, .iaload, 1), (242, .ifCond .ne 7, 3), (245, .iconst 1, 1), (246, .goto 4, 3), (249, .iconst 0, 1), (250, .invokevirtual 318, 3), (253, .goto 32, 3), (256, .aload_n 0, 1), (257, .aload_n 0, 1), (258, .aload_n 0, 1), (259, .getfield 91, 3), (262, .iload 5, 2), (264, .iaload, 1), (265, .invokevirtual 212, 3), (268, .ifCond .eq 7, 3), (271, .iconst 4, 1), (272, .goto 4, 3), (275, .iconst 3, 1), (276, .putfield 305, 3), (279, .aload_n 0, 1), (280, .bipush (-6), 2), (282, .putfield 298, 3), (285, .goto (-188), 3), (288, .return_, 1)]
abbrev cX9_isLink : ByteArray := prog_11_method_73_code
def yX9_isLink : MethodName := ⟨RX9, "isLink", "(II)Z"⟩
def tb_178 : List (Nat × Instr × Nat) := [(0, .aload_n 0, 1), (1, .invokevirtual 184, 3), (4, .iload_n 1, 1), (5, .invokestatic 206, 3), (8, .ifCond .eq 23, 3), (11, .iload_n 2, 1), (12, .iconst 0, 1), (13, .aload_n 0, 1), (14, .getfield 67, 3), (17, .iload_n 1, 1), (18, .iaload, 1), (19, .iconst 1, 1), (20, .isub, 1), (21, .invokestatic 106, 3), (24, .ifCond .eq 7, 3), (27, .iconst 1, 1), (28, .goto 4, 3), (31, .iconst 0, 1), (32, .ireturn, 1)]
abbrev cX9_link : ByteArray := prog_11_method_74_code
def yX9_link : MethodName := ⟨RX9, "link", "(III)I"⟩
def tb_179 : List (Nat × Instr × Nat) := [(0, .aload_n 0, 1), (1, .iload_n 1, 1), (2, .iload_n 2, 1), (3, .invokevirtual 322, 3), (6, .ifCond .ne 5, 3), (9, .iconst (-1), 1), (10, .ireturn, 1), (11, .iload_n 3, 1), (12, .iconst 0, 1), (13, .iconst 5, 1), (14, .invokestatic 106, 3), (17, .ifCond .ne 6, 3), (20, .bipush (-2), 2), (22, .ireturn, 1), (23, .aload_n 0, 1), (24, .iload_n 1, 1), (25, .iload_n 2, 1), (26, .invokevirtual 325, 3), (29, .iload_n 3, 1), (30, .tableswitch 71 0 4 #[34, 39, 46, 53, 58], 34), (64, .aload_n 0, 1), (65, .getfield 305, 3), (68, .ireturn, 1), (69, .aload_n 0, 1), (70, .getfield 91, 3), (73, .iconst 0, 1), (74, .iaload, 1), (75, .ireturn, 1), (76, .aload_n 0, 1), (77, .getfield 91, 3), (80, .iconst 1, 1), (81, .iaload, 1), (82, .ireturn, 1), (83, .aload_n 0, 1), (84, .getfield 295, 3), (87, .ireturn, 1), (88, .aload_n 0, 1), (89, .getfield 91, 3), (92, .bipush 14, 2), (94, .aload_n 0, 1), (95, .getfield 295, 3), (98, .imul, 1), (99, .iaload, 1), (100, .ireturn, 1), (101, .aload_n 0, 1), (102, .getfield 298, 3), (105, .ireturn, 1)]
abbrev cX9_followedBy : ByteArray := prog_11_method_75_code
def yX9_followedBy : MethodName := ⟨RX9, "followedBy", "(I)I"⟩
def tb_180 : List (Nat × Instr × Nat) := [(0, .iconst 0, 1), (1, .istore_n 2, 1), (2, .iload_n 2, 1), (3, .bipush 12, 2), (5, .if_icmp .ge 16, 3), (8, .aload_n 0, 1), (9, .getfield 94, 3), (12, .iload_n 2, 1), (13, .iconst 0, 1), (14, .iastore, 1), (15, .iinc 2 1, 3), (18, .goto (-16), 3), (21, .aload_n 0, 1), (22, .bipush (-6), 2), (24, .invokevirtual 328, 3), (27, .pop, 1), (28, .aload_n 0, 1), (29, .getfield 94, 3), (32, .iload_n 1, 1), (33, .iaload, 1), (34, .ireturn, 1)]
abbrev cX9_tallyOf : ByteArray := prog_11_method_76_code
def yX9_tallyOf : MethodName := ⟨RX9, "tallyOf", "(I)I"⟩
def tb_181 : List (Nat × Instr × Nat) := [(0, .aload_n 0, 1), (1, .invokevirtual 184, 3), (4, .iconst 0, 1), (5, .istore_n 2, 1), (6, .iconst 0, 1), (7, .istore_n 3, 1), (8, .iload_n 3, 1), (9, .bipush 12, 2), (11, .if_icmp .ge 52, 3), (14, .iconst 0, 1), (15, .istore 4, 2), (17, .iload 4, 2), (19, .aload_n 0, 1), (20, .getfield 67, 3), (23, .iload_n 3, 1), (24, .iaload, 1), (25, .if_icmp .ge 32, 3), (28, .aload_n 0, 1), (29, .iload_n 3, 1), (30, .iload 4, 2), (32, .invokevirtual 325, 3), (35, .iload_n 2, 1), (36, .aload_n 0, 1), (37, .getfield 305, 3), (40, .iload_n 1, 1), (41, .if_icmp .ne 7, 3), (44, .iconst 1, 1), (45, .goto 4, 3), (48, .iconst 0, 1), (49, .iadd, 1), (50, .istore_n 2, 1), (51, .iinc 4 1, 3), (54, .goto (-37), 3), (57, .iinc 3 1, 3), (60, .goto (-52), 3), (63, .iload_n 2, 1), (64, .ireturn, 1)]
abbrev cX9_tally : ByteArray := prog_11_method_77_code
def yX9_tally : MethodName := ⟨RX9, "tally", "(I)I"⟩
def tb_182 : List (Nat × Instr × Nat) := [(0, .iload_n 1, 1), (1, .iconst 0, 1), (2, .iconst 4, 1), (3, .invokestatic 106, 3), (6, .ifCond .eq 11, 3), (9, .aload_n 0, 1), (10, .iload_n 1, 1), (11, .invokevirtual 328, 3), (14, .goto 5, 3), (17, .bipush (-2), 2), (19, .ireturn, 1)]
abbrev cX9_reach : ByteArray := prog_11_method_78_code
def yX9_reach : MethodName := ⟨RX9, "reach", "(II)I"⟩
def tb_183 : List (Nat × Instr × Nat) := [(0, .iload_n 1, 1), (1, .invokestatic 206, 3), (4, .ifCond .ne 5, 3), (7, .iconst (-1), 1), (8, .ireturn, 1), (9, .iload_n 2, 1), (10, .iconst 0, 1), (11, .iconst 1, 1), (12, .invokestatic 106, 3), (15, .ifCond .ne 6, 3), (18, .bipush (-2), 2), (20, .ireturn, 1), (21, .aload_n 0, 1), (22, .invokevirtual 184, 3), (25, .iconst 1, 1), (26, .iload_n 1, 1), (27, .ishl, 1), (28, .istore_n 3, 1), (29, .iconst 0, 1), (30, .istore 4, 2), (32, .iload_n 3, 1), (33, .iload 4, 2), (35, .if_icmp .eq 61, 3), (38, .iload_n 3, 1), (39, .istore 4, 2), (41, .iconst 0, 1), (42, .istore 5, 2), (44, .iload 5, 2), (46, .bipush 12, 2), (48, .if_icmp .ge 45, 3), (51, .iload_n 3, 1), (52, .iload 5, 2), (54, .ishr, 1), (55, .iconst 1, 1), (56, .iand, 1), (57, .iconst 1, 1), (58, .if_icmp .ne 29, 3), (61, .aload_n 0, 1), (62, .iload 5, 2), (64, .invokevirtual 212, 3), (67, .ifCond .eq 20, 3), (70, .iload_n 3, 1), (71, .aload_n 0, 1), (72, .getfield 64, 3), (75, .iload 5, 2), (77, .iaload, 1), (78, .aload_n 0, 1), (79, .iload 5, 2), (81, .invokevirtual 331, 3), (84, .ior, 1), (85, .ior, 1), (86, .istore_n 3, 1), (87, .iinc 5 1, 3), (90, .goto (-46), 3), (93, .goto (-61), 3), (96, .iload_n 2, 1), (97, .ifCond .ne 7, 3), (100, .iload_n 3, 1), (101, .goto 11, 3), (104, .aload_n 0, 1), (105, .invokevirtual 221, 3), (108, .iload_n 3, 1), (109, .iconst (-1), 1), (110, .ixor, 1), (111, .iand, 1), (112, .ireturn, 1)]
abbrev cX9_endsOf : ByteArray := prog_11_method_79_code
def yX9_endsOf : MethodName := ⟨RX9, "endsOf", "(I)I"⟩
def tb_184 : List (Nat × Instr × Nat) := [(0, .iconst 0, 1), (1, .istore_n 2, 1), (2, .iconst 0, 1), (3, .istore_n 3, 1), (4, .iload_n 3, 1), (5, .aload_n 0, 1), (6, .getfield 67, 3), (9, .iload_n 1, 1), (10, .iaload, 1), (11, .if_icmp .ge 44, 3), (14, .aload_n 0, 1), (15, .iload_n 1, 1), (16, .iload_n 3, 1), (17, .invokevirtual 325, 3), (20, .iload_n 2, 1), (21, .aload_n 0, 1), (22, .getfield 305, 3), (25, .iconst 1, 1), (26, .if_icmp .gt 20, 3), (29, .iconst 1, 1), (30, .aload_n 0, 1), (31, .getfield 91, 3), (34, .bipush 14, 2), (36, .aload_n 0, 1), (37, .getfield 295, 3), (40, .imul, 1), (41, .iaload, 1), (42, .ishl, 1), (43, .goto 4, 3), (46, .iconst 0, 1), (47, .ior, 1), (48, .istore_n 2, 1), (49, .iinc 3 1, 3), (52, .goto (-48), 3), (55, .iload_n 2, 1), (56, .ireturn, 1)]
abbrev cX9_alike : ByteArray := prog_11_method_80_code
def yX9_alike : MethodName := ⟨RX9, "alike", "(I)I"⟩
def tb_185 : List (Nat × Instr × Nat) := [(0, .aload_n 0, 1), (1, .invokevirtual 184, 3), (4, .iconst 0, 1), (5, .istore_n 2, 1), (6, .iconst 0, 1), (7, .istore_n 3, 1), (8, .iload_n 3, 1), (9, .bipush 12, 2), (11, .if_icmp .ge 68, 3), (14, .iconst 0, 1), (15, .istore 4, 2), (17, .iload 4, 2), (19, .aload_n 0, 1), (20, .getfield 49, 3), (23, .iload_n 3, 1), (24, .iaload, 1), (25, .if_icmp .ge 48, 3), (28, .iload_n 2, 1), (29, .aload_n 0, 1), (30, .getfield 55, 3), (33, .bipush 54, 2), (35, .iload_n 3, 1), (36, .imul, 1), (37, .iload 4, 2), (39, .iadd, 1), (40, .iaload, 1), (41, .ifCond .lt 23, 3), (44, .aload_n 0, 1), (45, .getfield 52, 3), (48, .bipush 54, 2), (50, .iload_n 3, 1), (51, .imul, 1), (52, .iload 4, 2), (54, .iadd, 1), (55, .iaload, 1), (56, .iload_n 1, 1), (57, .if_icmp .ne 7, 3), (60, .iconst 1, 1), (61, .goto 4, 3), (64, .iconst 0, 1), (65, .iadd, 1), (66, .istore_n 2, 1), (67, .iinc 4 1, 3), (70, .goto (-53), 3), (73, .iinc 3 1, 3), (76, .goto (-68), 3), (79, .iload_n 2, 1), (80, .ireturn, 1)]
abbrev cX9_memory : ByteArray := prog_11_method_81_code
def yX9_memory : MethodName := ⟨RX9, "memory", "(II)I"⟩
def tb_186 : List (Nat × Instr × Nat) := [(0, .iload_n 2, 1), (1, .iconst 0, 1), (2, .iconst 3, 1), (3, .invokestatic 106, 3), (6, .ifCond .ne 6, 3), (9, .bipush (-2), 2), (11, .ireturn, 1), (12, .iload_n 1, 1), (13, .iconst (-1), 1), (14, .if_icmp .ne 12, 3), (17, .aload_n 0, 1), (18, .getfield 13, 3), (21, .sipush 2829, 3), (24, .iaload, 1), (25, .ireturn, 1), (26, .iload_n 1, 1), (27, .iconst 0, 1), (28, .aload_n 0, 1), (29, .getfield 13, 3), (32, .sipush 2829, 3), (35, .iaload, 1), (36, .iconst 1, 1), (37, .isub, 1), (38, .invokestatic 106, 3), (41, .ifCond .ne 6, 3), (44, .bipush (-6), 2), (46, .ireturn, 1), (47, .sipush 2269, 3), (50, .bipush 14, 2), (52, .iload_n 1, 1), (53, .imul, 1), (54, .iadd, 1), (55, .istore_n 3, 1), (56, .iload_n 2, 1), (57, .iconst 3, 1), (58, .if_icmp .ne 18, 3), (61, .aload_n 0, 1), (62, .aload_n 0, 1), (63, .getfield 13, 3), (66, .iload_n 3, 1), (67, .iconst 1, 1), (68, .iadd, 1), (69, .iaload, 1), (70, .invokevirtual 334, 3), (73, .goto 11, 3), (76, .aload_n 0, 1), (77, .getfield 13, 3), (80, .iload_n 3, 1), (81, .iload_n 2, 1), (82, .iadd, 1), (83, .iaload, 1), (84, .ireturn, 1)]
abbrev cX9_lesser : ByteArray := prog_11_method_82_code
def yX9_lesser : MethodName := ⟨RX9, "lesser", "(II)I"⟩
def tb_187 : List (Nat × Instr × Nat) := [(0, .iload_n 0, 1), (1, .iload_n 1, 1), (2, .if_icmp .ge 7, 3), (5, .iload_n 0, 1), (6, .goto 4, 3), (9, .iload_n 1, 1), (10, .ireturn, 1)]
abbrev cX9_changes : ByteArray := prog_11_method_83_code
def yX9_changes : MethodName := ⟨RX9, "changes", "(II)I"⟩
def tb_188 : List (Nat × Instr × Nat) := [(0, .aload_n 0, 1), (1, .getfield 43, 3), (4, .iload_n 1, 1), (5, .iaload, 1), (6, .istore_n 3, 1), (7, .aload_n 0, 1), (8, .getfield 43, 3), (11, .iload_n 2, 1), (12, .iaload, 1), (13, .istore 4, 2), (15, .iconst 0, 1), (16, .istore 5, 2), (18, .iload 5, 2), (20, .iload 4, 2), (22, .if_icmp .gt 18, 3), (25, .aload_n 0, 1), (26, .getfield 97, 3), (29, .iload 5, 2), (31, .iload 5, 2), (33, .iastore, 1), (34, .iinc 5 1, 3), (37, .goto (-19), 3), (40, .iconst 1, 1), (41, .istore 5, 2), (43, .iload 5, 2), (45, .iload_n 3, 1), (46, .if_icmp .gt 114, 3), (49, .aload_n 0, 1), (50, .getfield 97, 3), (53, .iconst 0, 1), (54, .iaload, 1), (55, .istore 6, 2), (57, .aload_n 0, 1), (58, .getfield 97, 3), (61, .iconst 0, 1), (62, .iload 5, 2), (64, .iastore, 1), (65, .iconst 1, 1), (66, .istore 7, 2), (68, .iload 7, 2), (70, .iload 4, 2), (72, .if_icmp .gt 82, 3), (75, .iload 6, 2), (77, .aload_n 0, 1), (78, .getfield 43, 3), (81, .iload_n 1, 1), (82, .iload 5, 2), (84, .iadd, 1), (85, .iaload, 1), (86, .aload_n 0, 1), (87, .getfield 43, 3), (90, .iload_n 2, 1), (91, .iload 7, 2), (93, .iadd, 1), (94, .iaload, 1), (95, .if_icmp .ne 7, 3), (98, .iconst 0, 1), (99, .goto 4, 3), (102, .iconst 1, 1), (103, .iadd, 1), (104, .istore 8, 2), (106, .aload_n 0, 1), (107, .getfield 97, 3), (110, .iload 7, 2), (112, .iaload, 1), (113, .istore 6, 2), (115, .aload_n 0, 1), (116, .getfield 97, 3), (119, .iload 7, 2), (121, .iload 8, 2), (123, .aload_n 0, 1), (124, .getfield 97, 3), (127, .iload 7, 2), (129, .iaload, 1), (130, .aload_n 0, 1), (131, .getfield 97, 3), (134, .iload 7, 2), (136, .iconst 1, 1), (137, .isub, 1), (138, .iaload, 1), (139, .invokestatic 337, 3), (142, .iconst 1, 1), (143, .iadd, 1), (144, .invokestatic 337, 3), (147, .iastore, 1), (148, .iinc 7 1, 3), (151, .goto (-83), 3), (154, .iinc 5 1, 3), (157, .goto (-114), 3), (160, .aload_n 0, 1), (161, .getfield 97, 3), (164, .iload 4, 2), (166, .iaload, 1), (167, .ireturn, 1)]
abbrev cX9_remembered : ByteArray := prog_11_method_84_code
def yX9_remembered : MethodName := ⟨RX9, "remembered", "(II)I"⟩
def tb_189 : List (Nat × Instr × Nat) := [(0, .iconst 0, 1), (1, .istore_n 3, 1), (2, .iload_n 3, 1), (3, .aload_n 0, 1), (4, .getfield 13, 3), (7, .sipush 2829, 3), (10, .iaload, 1), (11, .if_icmp .ge 60, 3), (14, .sipush 2269, 3), (17, .bipush 14, 2), (19, .iload_n 3, 1), (20, .imul, 1), (21, .iadd, 1), (22, .istore 4, 2), (24, .aload_n 0, 1), (25, .getfield 13, 3), (28, .iload 4, 2), (30, .iaload, 1), (31, .iload_n 1, 1), (32, .if_icmp .ne 33, 3), (35, .aload_n 0, 1), (36, .aload_n 0, 1), (37, .getfield 13, 3), (40, .iload 4, 2), (42, .iconst 2, 1), (43, .iadd, 1), (44, .aload_n 0, 1), (45, .getfield 43, 3), (48, .iload_n 2, 1), (49, .invokevirtual 199, 3), (52, .ifCond .eq 13, 3), (55, .aload_n 0, 1), (56, .getfield 13, 3), (59, .iload 4, 2), (61, .iconst 1, 1), (62, .iadd, 1), (63, .iaload, 1), (64, .ireturn, 1), (65, .iinc 3 1, 3), (68, .goto (-66), 3), (71, .bipush (-6), 2), (73, .ireturn, 1)]
abbrev cX9_isSectionWith : ByteArray := prog_11_method_85_code
def yX9_isSectionWith : MethodName := ⟨RX9, "isSectionWith", "(III)Z"⟩
def tb_190 : List (Nat × Instr × Nat) := [(0, .iconst 0, 1), (1, .istore 4, 2), (3, .iconst 0, 1), (4, .istore 5, 2), (6, .iload 5, 2), (8, .aload_n 0, 1), (9, .getfield 49, 3), (12, .iload_n 1, 1), (13, .iaload, 1), (14, .if_icmp .ge 53, 3), (17, .iload 4, 2), (19, .ifCond .ne 35, 3), (22, .aload_n 0, 1), (23, .getfield 55, 3), (26, .bipush 54, 2), (28, .iload_n 1, 1), (29, .imul, 1), (30, .iload 5, 2), (32, .iadd, 1), (33, .iaload, 1), (34, .iload_n 2, 1), (35, .if_icmp .ne 23, 3), (38, .aload_n 0, 1), (39, .getfield 52, 3), (42, .bipush 54, 2), (44, .iload_n 1, 1), (45, .imul, 1), (46, .iload 5, 2), (48, .iadd, 1), (49, .iaload, 1), (50, .iload_n 3, 1), (51, .if_icmp .ne 7, 3), (54, .iconst 1, 1), (55, .goto 4, 3), (58, .iconst 0, 1), (59, .istore 4, 2), (61, .iinc 5 1, 3), (64, .goto (-58), 3), (67, .iload 4, 2), (69, .ireturn, 1)]
abbrev cX9_offer : ByteArray := prog_11_method_86_code
def yX9_offer : MethodName := ⟨RX9, "offer", "(III)V"⟩
def tb_191 : List (Nat × Instr × Nat) := [(0, .aload_n 0, 1), (1, .getfield 340, 3), (4, .bipush (-6), 2), (6, .if_icmp .eq 11, 3), (9, .iload_n 1, 1), (10, .aload_n 0, 1), (11, .getfield 340, 3), (14, .if_icmp .ge 18, 3), (17, .aload_n 0, 1), (18, .iload_n 1, 1), (19, .putfield 340, 3), (22, .aload_n 0, 1), (23, .iload_n 2, 1), (24, .putfield 343, 3), (27, .aload_n 0, 1), (28, .iload_n 3, 1), (29, .putfield 346, 3), (32, .return_, 1)]
abbrev cX9_layRepair : ByteArray := prog_11_method_87_code
def yX9_layRepair : MethodName := ⟨RX9, "layRepair", "(II)V"⟩
def tb_192 : List (Nat × Instr × Nat) := [(0, .aload_n 0, 1), (1, .invokevirtual 184, 3), (4, .aload_n 0, 1), (5, .getfield 76, 3), (8, .bipush 42, 2), (10, .iload_n 1, 1), (11, .imul, 1), (12, .iload_n 2, 1), (13, .iadd, 1), (14, .iaload, 1), (15, .istore_n 3, 1), (16, .iload_n 1, 1), (17, .iload_n 2, 1), (18, .invokestatic 224, 3), (21, .istore 4, 2), (23, .aload_n 0, 1), (24, .getfield 43, 3), (27, .iload 4, 2), (29, .iaload, 1), (30, .ifCond .le 7, 3), (33, .iconst 1, 1), (34, .goto 4, 3), (37, .iconst 0, 1), (38, .istore 5, 2), (40, .iload 5, 2), (42, .ifCond .eq 13, 3), (45, .aload_n 0, 1), (46, .iload_n 3, 1), (47, .iload 4, 2), (49, .invokevirtual 349, 3), (52, .goto 5, 3), (55, .bipush (-6), 2), (57, .istore 6, 2), (59, .aload_n 0, 1), (60, .bipush (-6), 2), (62, .putfield 340, 3), (65, .iconst 0, 1), (66, .istore 7, 2), (68, .iload 7, 2), (70, .bipush 12, 2), (72, .if_icmp .ge 176, 3), (75, .aload_n 0, 1), (76, .iload 7, 2), (78, .invokevirtual 212, 3), (81, .ifCond .eq 161, 3), (84, .iload 7, 2), (86, .iload_n 3, 1), (87, .if_icmp .le 10, 3), (90, .iload 7, 2), (92, .iload_n 3, 1), (93, .isub, 1), (94, .goto 7, 3), (97, .iload_n 3, 1), (98, .iload 7, 2), (100, .isub, 1), (101, .istore 8, 2), (103, .aload_n 0, 1), (104, .iload 5, 2), (106, .ifCond .eq 19, 3), (109, .iload 7, 2), (111, .iload_n 3, 1), (112, .if_icmp .ne 8, 3), (115, .bipush 6, 2), (117, .goto 12, 3), (120, .bipush 10, 2), (122, .goto 7, 3), (125, .iconst 4, 1), (126, .iload 8, 2), (128, .iadd, 1), (129, .iload 7, 2), (131, .bipush (-6), 2), (133, .invokevirtual 352, 3), (136, .iconst 0, 1), (137, .istore 9, 2), (139, .iload 9, 2), (141, .aload_n 0, 1), (142, .getfield 31, 3), (145, .iload 7, 2), (147, .iaload, 1), (148, .if_icmp .ge 94, 3), (151, .iload 5, 2), (153, .ifCond .eq 89, 3), (156, .iconst 2, 1), (157, .aload_n 0, 1), (158, .iload 4, 2), (160, .iload 7, 2), (162, .iload 9, 2), (164, .invokestatic 187, 3), (167, .invokevirtual 355, 3), (170, .imul, 1), (171, .iload 7, 2), (173, .iload_n 3, 1), (174, .if_icmp .ne 7, 3), (177, .iconst 0, 1), (178, .goto 4, 3), (181, .iconst 4, 1), (182, .iadd, 1), (183, .istore 10, 2), (185, .iload 6, 2), (187, .bipush (-6), 2), (189, .if_icmp .eq 20, 3), (192, .aload_n 0, 1), (193, .iload 7, 2), (195, .iload 9, 2), (197, .iload 6, 2), (199, .invokevirtual 358, 3), (202, .ifCond .eq 7, 3), (205, .iconst 1, 1), (206, .goto 4, 3), (209, .iconst 0, 1), (210, .istore 11, 2), (212, .aload_n 0, 1), (213, .iload 11, 2), (215, .ifCond .eq 12, 3), (218, .iload 10, 2), (220, .iconst 1, 1), (221, .invokestatic 337, 3), (224, .goto 5, 3), (227, .iload 10, 2), (229, .iload 7, 2), (231, .iload 9, 2), (233, .invokevirtual 352, 3), (236, .iinc 9 1, 3), (239, .goto (-100), 3), (242, .iinc 7 1, 3), (245, .goto (-177), 3), (248, .return_, 1)]
abbrev cX9_isBroken : ByteArray := prog_11_method_88_code
def yX9_isBroken : MethodName := ⟨RX9, "isBroken", "(II)Z"⟩
def tb_193 : List (Nat × Instr × Nat) := [(0, .aload_n 0, 1), (1, .iload_n 1, 1), (2, .iload_n 2, 1), (3, .invokevirtual 325, 3), (6, .aload_n 0, 1), (7, .getfield 305, 3), (10, .iconst 1, 1), (11, .if_icmp .le 7, 3), (14, .iconst 1, 1), (15, .goto 4, 3), (18, .iconst 0, 1), (19, .ireturn, 1)]
abbrev cX9_repair : ByteArray := prog_11_method_89_code
def yX9_repair : MethodName := ⟨RX9, "repair", "(III)I"⟩
def tb_194 : List (Nat × Instr × Nat) := [(0, .aload_n 0, 1), (1, .iload_n 1, 1), (2, .iload_n 2, 1), (3, .invokevirtual 322, 3), (6, .ifCond .ne 5, 3), (9, .iconst (-1), 1), (10, .ireturn, 1), (11, .iload_n 3, 1), (12, .iconst 0, 1), (13, .iconst 2, 1), (14, .invokestatic 106, 3), (17, .ifCond .ne 6, 3), (20, .bipush (-2), 2), (22, .ireturn, 1), (23, .aload_n 0, 1), (24, .iload_n 1, 1), (25, .iload_n 2, 1), (26, .invokevirtual 361, 3), (29, .ifCond .ne 6, 3), (32, .bipush (-5), 2), (34, .ireturn, 1), (35, .aload_n 0, 1), (36, .iload_n 1, 1), (37, .iload_n 2, 1), (38, .invokevirtual 364, 3), (41, .iload_n 3, 1), (42, .ifCond .ne 10, 3), (45, .aload_n 0, 1), (46, .getfield 340, 3), (49, .goto 19, 3), (52, .iload_n 3, 1), (53, .iconst 1, 1), (54, .if_icmp .ne 10, 3), (57, .aload_n 0, 1), (58, .getfield 343, 3), (61, .goto 7, 3), (64, .aload_n 0, 1), (65, .getfield 346, 3), (68, .ireturn, 1)]
abbrev cX9_say : ByteArray := prog_11_method_90_code
def yX9_say : MethodName := ⟨RX9, "say", "(I)V"⟩
def tb_195 : List (Nat × Instr × Nat) := [(0, .aload_n 0, 1), (1, .getfield 100, 3), (4, .aload_n 0, 1), (5, .getfield 367, 3), (8, .iload_n 1, 1), (9, .iastore, 1), (10, .aload_n 0, 1), (11, .dup, 1), (12, .getfield 367, 3), (15, .iconst 1, 1), (16, .iadd, 1), (17, .putfield 367, 3), (20, .return_, 1)]
abbrev cX9_layTarget : ByteArray := prog_11_method_91_code
def yX9_layTarget : MethodName := ⟨RX9, "layTarget", "(III)V"⟩
def tb_196 : List (Nat × Instr × Nat) := [(0, .aload_n 0, 1), (1, .iconst 0, 1), (2, .putfield 367, 3), (5, .iload_n 3, 1), (6, .ifCond .lt 8, 3), (9, .iload_n 2, 1), (10, .iload_n 1, 1), (11, .if_icmp .eq 11, 3), (14, .aload_n 0, 1), (15, .bipush 65, 2), (17, .iload_n 2, 1), (18, .iadd, 1), (19, .invokevirtual 370, 3), (22, .iload_n 3, 1), (23, .ifCond .lt 51, 3), (26, .aload_n 0, 1), (27, .bipush 35, 2), (29, .invokevirtual 370, 3), (32, .iload_n 2, 1), (33, .iload_n 3, 1), (34, .invokestatic 187, 3), (37, .istore 4, 2), (39, .iconst 1, 1), (40, .istore 5, 2), (42, .iload 5, 2), (44, .aload_n 0, 1), (45, .getfield 43, 3), (48, .iload 4, 2), (50, .iaload, 1), (51, .if_icmp .gt 23, 3), (54, .aload_n 0, 1), (55, .aload_n 0, 1), (56, .getfield 43, 3), (59, .iload 4, 2), (61, .iload 5, 2), (63, .iadd, 1), (64, .iaload, 1), (65, .invokevirtual 370, 3), (68, .iinc 5 1, 3), (71, .goto (-29), 3), (74, .return_, 1)]
abbrev cX9_fitsTarget : ByteArray := prog_11_method_92_code
def yX9_fitsTarget : MethodName := ⟨RX9, "fitsTarget", "(II)Z"⟩
def tb_197 : List (Nat × Instr × Nat) := [(0, .bipush 42, 2), (2, .iload_n 1, 1), (3, .imul, 1), (4, .iload_n 2, 1), (5, .iadd, 1), (6, .istore_n 3, 1), (7, .aload_n 0, 1), (8, .iload_n 1, 1), (9, .invokevirtual 110, 3), (12, .aload_n 0, 1), (13, .getfield 73, 3), (16, .iload_n 3, 1), (17, .iaload, 1), (18, .aload_n 0, 1), (19, .getfield 70, 3), (22, .iload_n 3, 1), (23, .iaload, 1), (24, .isub, 1), (25, .isub, 1), (26, .aload_n 0, 1), (27, .getfield 367, 3), (30, .iadd, 1), (31, .sipush 160, 3), (34, .if_icmp .gt 7, 3), (37, .iconst 1, 1), (38, .goto 4, 3), (41, .iconst 0, 1), (42, .ireturn, 1)]
abbrev cX9_writeTarget : ByteArray := prog_11_method_93_code
def yX9_writeTarget : MethodName := ⟨RX9, "writeTarget", "(II)V"⟩
def tb_198 : List (Nat × Instr × Nat) := [(0, .bipush 42, 2), (2, .iload_n 1, 1), (3, .imul, 1), (4, .iload_n 2, 1), (5, .iadd, 1), (6, .istore_n 3, 1), (7, .aload_n 0, 1), (8, .getfield 70, 3), (11, .iload_n 3, 1), (12, .iaload, 1), (13, .istore 4, 2), (15, .aload_n 0, 1), (16, .iload_n 1, 1), (17, .invokevirtual 110, 3), (20, .aload_n 0, 1), (21, .getfield 73, 3), (24, .iload_n 3, 1), (25, .iaload, 1), (26, .isub, 1), (27, .istore 5, 2), (29, .iconst 0, 1), (30, .istore 6, 2), (32, .iload 6, 2), (34, .iload 5, 2), (36, .if_icmp .ge 30, 3), (39, .aload_n 0, 1), (40, .getfield 103, 3), (43, .iload 6, 2), (45, .aload_n 0, 1), (46, .iload_n 1, 1), (47, .aload_n 0, 1), (48, .getfield 73, 3), (51, .iload_n 3, 1), (52, .iaload, 1), (53, .iload 6, 2), (55, .iadd, 1), (56, .invokevirtual 203, 3), (59, .iastore, 1), (60, .iinc 6 1, 3), (63, .goto (-31), 3), (66, .iconst 0, 1), (67, .istore 6, 2), (69, .iload 6, 2), (71, .aload_n 0, 1), (72, .getfield 367, 3), (75, .if_icmp .ge 32, 3), (78, .aload_n 0, 1), (79, .getfield 13, 3), (82, .sipush 160, 3), (85, .iload_n 1, 1), (86, .imul, 1), (87, .iload 4, 2), (89, .iadd, 1), (90, .iload 6, 2), (92, .iadd, 1), (93, .aload_n 0, 1), (94, .getfield 100, 3), (97, .iload 6, 2), (99, .iaload, 1), (100, .iastore, 1), (101, .iinc 6 1, 3), (104, .goto (-35), 3), (107, .iconst 0, 1), (108, .istore 6, 2), (110, .iload 6, 2), (112, .iload 5, 2), (114, .if_icmp .ge 37, 3), (117, .aload_n 0, 1), (118, .getfield 13, 3), (121, .sipush 160, 3), (124, .iload_n 1, 1), (125, .imul, 1), (126, .iload 4, 2), (128, .iadd, 1), (129, .aload_n 0, 1), (130, .getfield 367, 3), (133, .iadd, 1), (134, .iload 6, 2), (136, .iadd, 1), (137, .aload_n 0, 1), (138, .getfield 103, 3), (141, .iload 6, 2), (143, .iaload, 1), (144, .iastore, 1), (145, .iinc 6 1, 3), (148, .goto (-38), 3), (151, .aload_n 0, 1), (152, .getfield 13, 3), (155, .sipush 1920, 3), (158, .iload_n 1, 1), (159, .iadd, 1), (160, .iload 4, 2), (162, .aload_n 0, 1), (163, .getfield 367, 3), (166, .iadd, 1), (167, .iload 5, 2), (169, .iadd, 1), (170, .iastore, 1), (171, .aload_n 0, 1), (172, .iconst 0, 1), (173, .putfield 180, 3), (176, .return_, 1)]
abbrev cX9_mend : ByteArray := prog_11_method_94_code
def yX9_mend : MethodName := ⟨RX9, "mend", "(II)I"⟩
def tb_199 : List (Nat × Instr × Nat) := [(0, .aload_n 0, 1), (1, .iload_n 1, 1), (2, .iload_n 2, 1), (3, .invokevirtual 322, 3), (6, .ifCond .ne 5, 3), (9, .iconst (-1), 1), (10, .ireturn, 1), (11, .aload_n 0, 1), (12, .iload_n 1, 1), (13, .iload_n 2, 1), (14, .invokevirtual 361, 3), (17, .ifCond .ne 6, 3), (20, .bipush (-5), 2), (22, .ireturn, 1), (23, .aload_n 0, 1), (24, .iload_n 1, 1), (25, .iload_n 2, 1), (26, .invokevirtual 364, 3), (29, .aload_n 0, 1), (30, .iload_n 1, 1), (31, .aload_n 0, 1), (32, .getfield 343, 3), (35, .aload_n 0, 1), (36, .getfield 346, 3), (39, .invokevirtual 373, 3), (42, .aload_n 0, 1), (43, .iload_n 1, 1), (44, .iload_n 2, 1), (45, .invokevirtual 376, 3), (48, .ifCond .ne 6, 3), (51, .bipush (-4), 2), (53, .ireturn, 1), (54, .aload_n 0, 1), (55, .invokevirtual 209, 3), (58, .aload_n 0, 1), (59, .iload_n 1, 1), (60, .iload_n 2, 1), (61, .invokevirtual 379, 3), (64, .aload_n 0, 1), (65, .iload_n 1, 1), (66, .invokevirtual 110, 3), (69, .ireturn, 1)]
abbrev cX9_mendAll : ByteArray := prog_11_method_95_code
def yX9_mendAll : MethodName := ⟨RX9, "mendAll", "()I"⟩
def tb_200 : List (Nat × Instr × Nat) := [(0, .iconst 0, 1), (1, .istore_n 1, 1), (2, .iconst 0, 1), (3, .istore_n 2, 1), (4, .iload_n 2, 1), (5, .bipush 12, 2), (7, .if_icmp .ge 89, 3), (10, .aload_n 0, 1), (11, .invokevirtual 184, 3), (14, .iconst 0, 1), (15, .istore_n 3, 1), (16, .iload_n 3, 1), (17, .aload_n 0, 1), (18, .getfield 67, 3), (21, .iload_n 2, 1), (22, .iaload, 1), (23, .if_icmp .ge 67, 3), (26, .aload_n 0, 1), (27, .iload_n 2, 1), (28, .iload_n 3, 1), (29, .invokevirtual 361, 3), (32, .ifCond .eq 52, 3), (35, .aload_n 0, 1), (36, .iload_n 2, 1), (37, .iload_n 3, 1), (38, .invokevirtual 364, 3), (41, .aload_n 0, 1), (42, .iload_n 2, 1), (43, .aload_n 0, 1), (44, .getfield 343, 3), (47, .aload_n 0, 1), (48, .getfield 346, 3), (51, .invokevirtual 373, 3), (54, .aload_n 0, 1), (55, .iload_n 2, 1), (56, .iload_n 3, 1), (57, .invokevirtual 376, 3), (60, .ifCond .eq 24, 3), (63, .iload_n 1, 1), (64, .ifCond .ne 7, 3), (67, .aload_n 0, 1), (68, .invokevirtual 209, 3), (71, .aload_n 0, 1), (72, .iload_n 2, 1), (73, .iload_n 3, 1), (74, .invokevirtual 379, 3), (77, .iinc 1 1, 3), (80, .aload_n 0, 1), (81, .invokevirtual 184, 3), (84, .iinc 3 1, 3), (87, .goto (-71), 3), (90, .iinc 2 1, 3), (93, .goto (-89), 3), (96, .iload_n 1, 1), (97, .ireturn, 1)]
abbrev cX9_straighten : ByteArray := prog_11_method_96_code
def yX9_straighten : MethodName := ⟨RX9, "straighten", "(II)I"⟩
def tb_201 : List (Nat × Instr × Nat) := [(0, .aload_n 0, 1), (1, .iload_n 1, 1), (2, .iload_n 2, 1), (3, .invokevirtual 322, 3), (6, .ifCond .ne 5, 3), (9, .iconst (-1), 1), (10, .ireturn, 1), (11, .aload_n 0, 1), (12, .iload_n 1, 1), (13, .iload_n 2, 1), (14, .invokevirtual 325, 3), (17, .aload_n 0, 1), (18, .getfield 305, 3), (21, .iconst 1, 1), (22, .if_icmp .eq 6, 3), (25, .bipush (-5), 2), (27, .ireturn, 1), (28, .aload_n 0, 1), (29, .iload_n 1, 1), (30, .aload_n 0, 1), (31, .getfield 91, 3), (34, .bipush 14, 2), (36, .aload_n 0, 1), (37, .getfield 295, 3), (40, .imul, 1), (41, .iaload, 1), (42, .aload_n 0, 1), (43, .getfield 298, 3), (46, .invokevirtual 373, 3), (49, .aload_n 0, 1), (50, .iload_n 1, 1), (51, .iload_n 2, 1), (52, .invokevirtual 376, 3), (55, .ifCond .ne 6, 3), (58, .bipush (-4), 2), (60, .ireturn, 1), (61, .aload_n 0, 1), (62, .invokevirtual 209, 3), (65, .aload_n 0, 1), (66, .iload_n 1, 1), (67, .iload_n 2, 1), (68, .invokevirtual 379, 3), (71, .aload_n 0, 1), (72, .iload_n 1, 1), (73, .invokevirtual 110, 3), (76, .ireturn, 1)]
abbrev cX9_count : ByteArray := prog_11_method_97_code
def yX9_count : MethodName := ⟨RX9, "count", "(I)I"⟩
def tb_202 : List (Nat × Instr × Nat) := [(0, .aload_n 0, 1), (1, .invokevirtual 184, 3), (4, .iload_n 1, 1), (5, .tableswitch 94 0 6 #[43, 48, 53, 58, 67, 72, 89], 43), (48, .aload_n 0, 1), (49, .invokevirtual 221, 3), (52, .ireturn, 1), (53, .aload_n 0, 1), (54, .getfield 116, 3), (57, .ireturn, 1), (58, .aload_n 0, 1), (59, .invokevirtual 283, 3), (62, .ireturn, 1), (63, .aload_n 0, 1), (64, .getfield 13, 3), (67, .sipush 2829, 3), (70, .iaload, 1), (71, .ireturn, 1), (72, .aload_n 0, 1), (73, .invokevirtual 382, 3), (76, .ireturn, 1), (77, .aload_n 0, 1), (78, .invokevirtual 382, 3), (81, .aload_n 0, 1), (82, .iconst 0, 1), (83, .invokevirtual 328, 3), (86, .isub, 1), (87, .aload_n 0, 1), (88, .iconst 1, 1), (89, .invokevirtual 328, 3), (92, .isub, 1), (93, .ireturn, 1), (94, .aload_n 0, 1), (95, .getfield 177, 3), (98, .ireturn, 1), (99, .bipush (-2), 2), (101, .ireturn, 1)]
abbrev cX9_linksOfAll : ByteArray := prog_11_method_98_code
def yX9_linksOfAll : MethodName := ⟨RX9, "linksOfAll", "()I"⟩
def tb_203 : List (Nat × Instr × Nat) := [(0, .iconst 0, 1), (1, .istore_n 1, 1), (2, .iconst 0, 1), (3, .istore_n 2, 1), (4, .iload_n 2, 1), (5, .bipush 12, 2), (7, .if_icmp .ge 18, 3), (10, .iload_n 1, 1), (11, .aload_n 0, 1), (12, .getfield 67, 3), (15, .iload_n 2, 1), (16, .iaload, 1), (17, .iadd, 1), (18, .istore_n 1, 1), (19, .iinc 2 1, 3), (22, .goto (-18), 3), (25, .iload_n 1, 1), (26, .ireturn, 1)]
abbrev cL_law : ByteArray := code
def tbl_0 : List (Nat × Instr × Nat) := [(0, .new 7, 3), (3, .dup, 1), (4, .invokespecial 9, 3), (7, .astore_n 1, 1), (8, .new 10, 3), (11, .dup, 1), (12, .invokespecial 12, 3), (15, .astore_n 2, 1), (16, .iconst 0, 1), (17, .istore_n 3, 1), (18, .iload_n 3, 1), (19, .aload_n 0, 1), (20, .arraylength, 1), (21, .iconst 4, 1), (22, .isub, 1), (23, .if_icmp .gt 829, 3), (26, .aload_n 0, 1), (27, .iload_n 3, 1), (28, .iaload, 1), (29, .bipush 31, 2), (31, .iand, 1), (32, .tableswitch 814 0 23 #[112, 165, 178, 201, 224, 247, 280, 313, 356, 399, 442, 455, 468, 491, 524, 567, 590, 623, 656, 699, 732, 745, 778, 791], 112), (144, .aload_n 1, 1), (145, .aload_n 0, 1), (146, .iload_n 3, 1), (147, .iconst 1, 1), (148, .iadd, 1), (149, .iaload, 1), (150, .i2l, 1), (151, .bipush 32, 2), (153, .lshl, 1), (154, .aload_n 0, 1), (155, .iload_n 3, 1), (156, .iconst 2, 1), (157, .iadd, 1), (158, .iaload, 1), (159, .i2l, 1), (160, .ldc2_w 13, 3), (163, .land, 1), (164, .lor, 1), (165, .invokevirtual 15, 3), (168, .aload_n 2, 1), (169, .aload_n 0, 1), (170, .iload_n 3, 1), (171, .iconst 1, 1), (172, .iadd, 1), (173, .iaload, 1), (174, .i2l, 1), (175, .bipush 32, 2), (177, .lshl, 1), (178, .aload_n 0, 1), (179, .iload_n 3, 1), (180, .iconst 2, 1), (181, .iadd, 1), (182, .iaload, 1), (183, .i2l, 1), (184, .ldc2_w 13, 3), (187, .land, 1), (188, .lor, 1), (189, .invokevirtual 19, 3)]
def tbl_1 : List (Nat × Instr × Nat) := [(192, .if_icmp .eq 654, 3), (195, .iconst 0, 1), (196, .ireturn, 1), (197, .aload_n 1, 1), (198, .invokevirtual 20, 3), (201, .aload_n 2, 1), (202, .invokevirtual 24, 3), (205, .if_icmp .eq 641, 3), (208, .iconst 0, 1), (209, .ireturn, 1), (210, .aload_n 1, 1), (211, .aload_n 0, 1), (212, .iload_n 3, 1), (213, .iconst 1, 1), (214, .iadd, 1), (215, .iaload, 1), (216, .invokevirtual 25, 3), (219, .aload_n 2, 1), (220, .aload_n 0, 1), (221, .iload_n 3, 1), (222, .iconst 1, 1), (223, .iadd, 1), (224, .iaload, 1), (225, .invokevirtual 29, 3), (228, .if_icmp .eq 618, 3), (231, .iconst 0, 1), (232, .ireturn, 1), (233, .aload_n 1, 1), (234, .aload_n 0, 1), (235, .iload_n 3, 1), (236, .iconst 1, 1), (237, .iadd, 1), (238, .iaload, 1), (239, .invokevirtual 30, 3), (242, .aload_n 2, 1), (243, .aload_n 0, 1), (244, .iload_n 3, 1), (245, .iconst 1, 1), (246, .iadd, 1), (247, .iaload, 1), (248, .invokevirtual 33, 3), (251, .if_icmp .eq 595, 3), (254, .iconst 0, 1), (255, .ireturn, 1), (256, .aload_n 1, 1), (257, .aload_n 0, 1), (258, .iload_n 3, 1), (259, .iconst 1, 1), (260, .iadd, 1), (261, .iaload, 1), (262, .invokevirtual 34, 3), (265, .aload_n 2, 1), (266, .aload_n 0, 1), (267, .iload_n 3, 1), (268, .iconst 1, 1), (269, .iadd, 1), (270, .iaload, 1), (271, .invokevirtual 37, 3), (274, .if_icmp .eq 572, 3), (277, .iconst 0, 1)]
def tbl_2 : List (Nat × Instr × Nat) := [(278, .ireturn, 1), (279, .aload_n 1, 1), (280, .aload_n 0, 1), (281, .iload_n 3, 1), (282, .iconst 1, 1), (283, .iadd, 1), (284, .iaload, 1), (285, .aload_n 0, 1), (286, .iload_n 3, 1), (287, .iconst 2, 1), (288, .iadd, 1), (289, .iaload, 1), (290, .invokevirtual 38, 3), (293, .aload_n 2, 1), (294, .aload_n 0, 1), (295, .iload_n 3, 1), (296, .iconst 1, 1), (297, .iadd, 1), (298, .iaload, 1), (299, .aload_n 0, 1), (300, .iload_n 3, 1), (301, .iconst 2, 1), (302, .iadd, 1), (303, .iaload, 1), (304, .invokevirtual 42, 3), (307, .if_icmp .eq 539, 3), (310, .iconst 0, 1), (311, .ireturn, 1), (312, .aload_n 1, 1), (313, .aload_n 0, 1), (314, .iload_n 3, 1), (315, .iconst 1, 1), (316, .iadd, 1), (317, .iaload, 1), (318, .aload_n 0, 1), (319, .iload_n 3, 1), (320, .iconst 2, 1), (321, .iadd, 1), (322, .iaload, 1), (323, .invokevirtual 43, 3), (326, .aload_n 2, 1), (327, .aload_n 0, 1), (328, .iload_n 3, 1), (329, .iconst 1, 1), (330, .iadd, 1), (331, .iaload, 1), (332, .aload_n 0, 1), (333, .iload_n 3, 1), (334, .iconst 2, 1), (335, .iadd, 1), (336, .iaload, 1), (337, .invokevirtual 46, 3), (340, .if_icmp .eq 506, 3), (343, .iconst 0, 1), (344, .ireturn, 1), (345, .aload_n 1, 1), (346, .aload_n 0, 1), (347, .iload_n 3, 1), (348, .iconst 1, 1), (349, .iadd, 1)]
def tbl_3 : List (Nat × Instr × Nat) := [(350, .iaload, 1), (351, .aload_n 0, 1), (352, .iload_n 3, 1), (353, .iconst 2, 1), (354, .iadd, 1), (355, .iaload, 1), (356, .aload_n 0, 1), (357, .iload_n 3, 1), (358, .iconst 3, 1), (359, .iadd, 1), (360, .iaload, 1), (361, .invokevirtual 47, 3), (364, .aload_n 2, 1), (365, .aload_n 0, 1), (366, .iload_n 3, 1), (367, .iconst 1, 1), (368, .iadd, 1), (369, .iaload, 1), (370, .aload_n 0, 1), (371, .iload_n 3, 1), (372, .iconst 2, 1), (373, .iadd, 1), (374, .iaload, 1), (375, .aload_n 0, 1), (376, .iload_n 3, 1), (377, .iconst 3, 1), (378, .iadd, 1), (379, .iaload, 1), (380, .invokevirtual 51, 3), (383, .if_icmp .eq 463, 3), (386, .iconst 0, 1), (387, .ireturn, 1), (388, .aload_n 1, 1), (389, .aload_n 0, 1), (390, .iload_n 3, 1), (391, .iconst 1, 1), (392, .iadd, 1), (393, .iaload, 1), (394, .aload_n 0, 1), (395, .iload_n 3, 1), (396, .iconst 2, 1), (397, .iadd, 1), (398, .iaload, 1), (399, .aload_n 0, 1), (400, .iload_n 3, 1), (401, .iconst 3, 1), (402, .iadd, 1), (403, .iaload, 1), (404, .invokevirtual 52, 3), (407, .aload_n 2, 1), (408, .aload_n 0, 1), (409, .iload_n 3, 1), (410, .iconst 1, 1), (411, .iadd, 1), (412, .iaload, 1), (413, .aload_n 0, 1), (414, .iload_n 3, 1), (415, .iconst 2, 1), (416, .iadd, 1), (417, .iaload, 1)]
def tbl_4 : List (Nat × Instr × Nat) := [(418, .aload_n 0, 1), (419, .iload_n 3, 1), (420, .iconst 3, 1), (421, .iadd, 1), (422, .iaload, 1), (423, .invokevirtual 55, 3), (426, .if_icmp .eq 420, 3), (429, .iconst 0, 1), (430, .ireturn, 1), (431, .aload_n 1, 1), (432, .aload_n 0, 1), (433, .iload_n 3, 1), (434, .iconst 1, 1), (435, .iadd, 1), (436, .iaload, 1), (437, .aload_n 0, 1), (438, .iload_n 3, 1), (439, .iconst 2, 1), (440, .iadd, 1), (441, .iaload, 1), (442, .aload_n 0, 1), (443, .iload_n 3, 1), (444, .iconst 3, 1), (445, .iadd, 1), (446, .iaload, 1), (447, .invokevirtual 56, 3), (450, .aload_n 2, 1), (451, .aload_n 0, 1), (452, .iload_n 3, 1), (453, .iconst 1, 1), (454, .iadd, 1), (455, .iaload, 1), (456, .aload_n 0, 1), (457, .iload_n 3, 1), (458, .iconst 2, 1), (459, .iadd, 1), (460, .iaload, 1), (461, .aload_n 0, 1), (462, .iload_n 3, 1), (463, .iconst 3, 1), (464, .iadd, 1), (465, .iaload, 1), (466, .invokevirtual 59, 3), (469, .if_icmp .eq 377, 3), (472, .iconst 0, 1), (473, .ireturn, 1), (474, .aload_n 1, 1), (475, .invokevirtual 60, 3), (478, .aload_n 2, 1), (479, .invokevirtual 63, 3), (482, .if_icmp .eq 364, 3), (485, .iconst 0, 1), (486, .ireturn, 1), (487, .aload_n 1, 1), (488, .invokevirtual 64, 3), (491, .aload_n 2, 1), (492, .invokevirtual 67, 3), (495, .if_icmp .eq 351, 3), (498, .iconst 0, 1), (499, .ireturn, 1)]
def tbl_5 : List (Nat × Instr × Nat) := [(500, .aload_n 1, 1), (501, .aload_n 0, 1), (502, .iload_n 3, 1), (503, .iconst 1, 1), (504, .iadd, 1), (505, .iaload, 1), (506, .invokevirtual 68, 3), (509, .aload_n 2, 1), (510, .aload_n 0, 1), (511, .iload_n 3, 1), (512, .iconst 1, 1), (513, .iadd, 1), (514, .iaload, 1), (515, .invokevirtual 71, 3), (518, .if_icmp .eq 328, 3), (521, .iconst 0, 1), (522, .ireturn, 1), (523, .aload_n 1, 1), (524, .aload_n 0, 1), (525, .iload_n 3, 1), (526, .iconst 1, 1), (527, .iadd, 1), (528, .iaload, 1), (529, .aload_n 0, 1), (530, .iload_n 3, 1), (531, .iconst 2, 1), (532, .iadd, 1), (533, .iaload, 1), (534, .invokevirtual 72, 3), (537, .aload_n 2, 1), (538, .aload_n 0, 1), (539, .iload_n 3, 1), (540, .iconst 1, 1), (541, .iadd, 1), (542, .iaload, 1), (543, .aload_n 0, 1), (544, .iload_n 3, 1), (545, .iconst 2, 1), (546, .iadd, 1), (547, .iaload, 1), (548, .invokevirtual 75, 3), (551, .if_icmp .eq 295, 3), (554, .iconst 0, 1), (555, .ireturn, 1), (556, .aload_n 1, 1), (557, .aload_n 0, 1), (558, .iload_n 3, 1), (559, .iconst 1, 1), (560, .iadd, 1), (561, .iaload, 1), (562, .aload_n 0, 1), (563, .iload_n 3, 1), (564, .iconst 2, 1), (565, .iadd, 1), (566, .iaload, 1), (567, .aload_n 0, 1), (568, .iload_n 3, 1), (569, .iconst 3, 1), (570, .iadd, 1), (571, .iaload, 1)]
def tbl_6 : List (Nat × Instr × Nat) := [(572, .invokevirtual 76, 3), (575, .aload_n 2, 1), (576, .aload_n 0, 1), (577, .iload_n 3, 1), (578, .iconst 1, 1), (579, .iadd, 1), (580, .iaload, 1), (581, .aload_n 0, 1), (582, .iload_n 3, 1), (583, .iconst 2, 1), (584, .iadd, 1), (585, .iaload, 1), (586, .aload_n 0, 1), (587, .iload_n 3, 1), (588, .iconst 3, 1), (589, .iadd, 1), (590, .iaload, 1), (591, .invokevirtual 79, 3), (594, .if_icmp .eq 252, 3), (597, .iconst 0, 1), (598, .ireturn, 1), (599, .aload_n 1, 1), (600, .aload_n 0, 1), (601, .iload_n 3, 1), (602, .iconst 1, 1), (603, .iadd, 1), (604, .iaload, 1), (605, .invokevirtual 80, 3), (608, .aload_n 2, 1), (609, .aload_n 0, 1), (610, .iload_n 3, 1), (611, .iconst 1, 1), (612, .iadd, 1), (613, .iaload, 1), (614, .invokevirtual 83, 3), (617, .if_icmp .eq 229, 3), (620, .iconst 0, 1), (621, .ireturn, 1), (622, .aload_n 1, 1), (623, .aload_n 0, 1), (624, .iload_n 3, 1), (625, .iconst 1, 1), (626, .iadd, 1), (627, .iaload, 1), (628, .aload_n 0, 1), (629, .iload_n 3, 1), (630, .iconst 2, 1), (631, .iadd, 1), (632, .iaload, 1), (633, .invokevirtual 84, 3), (636, .aload_n 2, 1), (637, .aload_n 0, 1), (638, .iload_n 3, 1), (639, .iconst 1, 1), (640, .iadd, 1), (641, .iaload, 1), (642, .aload_n 0, 1), (643, .iload_n 3, 1), (644, .iconst 2, 1), (645, .iadd, 1)]
def tbl_7 : List (Nat × Instr × Nat) := [(646, .iaload, 1), (647, .invokevirtual 87, 3), (650, .if_icmp .eq 196, 3), (653, .iconst 0, 1), (654, .ireturn, 1), (655, .aload_n 1, 1), (656, .aload_n 0, 1), (657, .iload_n 3, 1), (658, .iconst 1, 1), (659, .iadd, 1), (660, .iaload, 1), (661, .aload_n 0, 1), (662, .iload_n 3, 1), (663, .iconst 2, 1), (664, .iadd, 1), (665, .iaload, 1), (666, .invokevirtual 88, 3), (669, .aload_n 2, 1), (670, .aload_n 0, 1), (671, .iload_n 3, 1), (672, .iconst 1, 1), (673, .iadd, 1), (674, .iaload, 1), (675, .aload_n 0, 1), (676, .iload_n 3, 1), (677, .iconst 2, 1), (678, .iadd, 1), (679, .iaload, 1), (680, .invokevirtual 91, 3), (683, .if_icmp .eq 163, 3), (686, .iconst 0, 1), (687, .ireturn, 1), (688, .aload_n 1, 1), (689, .aload_n 0, 1), (690, .iload_n 3, 1), (691, .iconst 1, 1), (692, .iadd, 1), (693, .iaload, 1), (694, .aload_n 0, 1), (695, .iload_n 3, 1), (696, .iconst 2, 1), (697, .iadd, 1), (698, .iaload, 1), (699, .aload_n 0, 1), (700, .iload_n 3, 1), (701, .iconst 3, 1), (702, .iadd, 1), (703, .iaload, 1), (704, .invokevirtual 92, 3), (707, .aload_n 2, 1), (708, .aload_n 0, 1), (709, .iload_n 3, 1), (710, .iconst 1, 1), (711, .iadd, 1), (712, .iaload, 1), (713, .aload_n 0, 1), (714, .iload_n 3, 1), (715, .iconst 2, 1), (716, .iadd, 1), (717, .iaload, 1)]
def tbl_8 : List (Nat × Instr × Nat) := [(718, .aload_n 0, 1), (719, .iload_n 3, 1), (720, .iconst 3, 1), (721, .iadd, 1), (722, .iaload, 1), (723, .invokevirtual 95, 3), (726, .if_icmp .eq 120, 3), (729, .iconst 0, 1), (730, .ireturn, 1), (731, .aload_n 1, 1), (732, .aload_n 0, 1), (733, .iload_n 3, 1), (734, .iconst 1, 1), (735, .iadd, 1), (736, .iaload, 1), (737, .aload_n 0, 1), (738, .iload_n 3, 1), (739, .iconst 2, 1), (740, .iadd, 1), (741, .iaload, 1), (742, .invokevirtual 96, 3), (745, .aload_n 2, 1), (746, .aload_n 0, 1), (747, .iload_n 3, 1), (748, .iconst 1, 1), (749, .iadd, 1), (750, .iaload, 1), (751, .aload_n 0, 1), (752, .iload_n 3, 1), (753, .iconst 2, 1), (754, .iadd, 1), (755, .iaload, 1), (756, .invokevirtual 99, 3), (759, .if_icmp .eq 87, 3), (762, .iconst 0, 1), (763, .ireturn, 1), (764, .aload_n 1, 1), (765, .invokevirtual 100, 3), (768, .aload_n 2, 1), (769, .invokevirtual 103, 3), (772, .if_icmp .eq 74, 3), (775, .iconst 0, 1), (776, .ireturn, 1), (777, .aload_n 1, 1), (778, .aload_n 0, 1), (779, .iload_n 3, 1), (780, .iconst 1, 1), (781, .iadd, 1), (782, .iaload, 1), (783, .aload_n 0, 1), (784, .iload_n 3, 1), (785, .iconst 2, 1), (786, .iadd, 1), (787, .iaload, 1), (788, .invokevirtual 104, 3), (791, .aload_n 2, 1), (792, .aload_n 0, 1), (793, .iload_n 3, 1), (794, .iconst 1, 1), (795, .iadd, 1)]
def tbl_9 : List (Nat × Instr × Nat) := [(796, .iaload, 1), (797, .aload_n 0, 1), (798, .iload_n 3, 1), (799, .iconst 2, 1), (800, .iadd, 1), (801, .iaload, 1), (802, .invokevirtual 107, 3), (805, .if_icmp .eq 41, 3), (808, .iconst 0, 1), (809, .ireturn, 1), (810, .aload_n 1, 1), (811, .invokevirtual 108, 3), (814, .aload_n 2, 1), (815, .invokevirtual 111, 3), (818, .if_icmp .eq 28, 3), (821, .iconst 0, 1), (822, .ireturn, 1), (823, .aload_n 1, 1), (824, .aload_n 0, 1), (825, .iload_n 3, 1), (826, .iconst 1, 1), (827, .iadd, 1), (828, .iaload, 1), (829, .invokevirtual 112, 3), (832, .aload_n 2, 1), (833, .aload_n 0, 1), (834, .iload_n 3, 1), (835, .iconst 1, 1), (836, .iadd, 1), (837, .iaload, 1), (838, .invokevirtual 115, 3), (841, .if_icmp .eq 5, 3), (844, .iconst 0, 1), (845, .ireturn, 1), (846, .iinc 3 4, 3), (849, .goto (-831), 3), (852, .iconst 1, 1), (853, .ireturn, 1)]
def tb_204 : List (Nat × Instr × Nat) := tbl_0 ++ (tbl_1 ++ (tbl_2 ++ (tbl_3 ++ (tbl_4 ++ (tbl_5 ++ (tbl_6 ++ (tbl_7 ++ (tbl_8 ++ (tbl_9)))))))))
abbrev MEnt : Type := MethodName × ByteArray × Nat × Option FieldType × Nat × List (Nat × Instr × Nat)
def MT_0 : List MEnt := [(yX0_nameIn, cX0_nameIn, 7, some FieldType.long, 0, tb_0), (yX0_numbered, cX0_numbered, 3, some FieldType.long, 0, tb_1), (yX0_nameOf, cX0_nameOf, 2, some FieldType.long, 0, tb_2), (yX0_placeAnchor, cX0_placeAnchor, 7, some FieldType.long, 0, tb_3), (yX0_indexOf, cX0_indexOf, 5, some FieldType.int, 0, tb_4), (yX0_spell, cX0_spell, 10, some FieldType.int, 0, tb_5), (yX0_spellNumber, cX0_spellNumber, 4, some FieldType.int, 0, tb_6), (yX1_init, cX1_init, 1, none, 1, tb_7), (yX1_build, cX1_build, 4, none, 1, tb_8), (yX1_addPage, cX1_addPage, 9, none, 1, tb_9), (yX1_isReplaced, cX1_isReplaced, 3, some FieldType.boolean, 1, tb_10), (yX1_addHeading, cX1_addHeading, 6, none, 1, tb_11), (yX1_headingsNamed, cX1_headingsNamed, 5, some FieldType.int, 1, tb_12), (yX1_headingWith, cX1_headingWith, 4, some FieldType.int, 1, tb_13), (yX1_partOf, cX1_partOf, 5, some FieldType.int, 1, tb_14), (yX2_init, cX2_init, 2, none, 2, tb_15)]
def MT_1 : List MEnt := [(yX2_find, cX2_find, 8, none, 2, tb_16), (yX2_offerHeadings, cX2_offerHeadings, 10, none, 2, tb_17), (yX2_offer, cX2_offer, 6, none, 2, tb_18), (yX2_stepsTo, cX2_stepsTo, 6, some FieldType.int, 2, tb_19), (yX2_fillRow, cX2_fillRow, 7, some FieldType.int, 2, tb_20), (yX3_init, cX3_init, 2, none, 3, tb_21), (yX3_read, cX3_read, 6, none, 3, tb_22), (yX3_addLine, cX3_addLine, 4, none, 3, tb_23), (yX3_addHeading, cX3_addHeading, 5, none, 3, tb_24), (yX3_addInclude, cX3_addInclude, 5, none, 3, tb_25), (yX3_readLinks, cX3_readLinks, 6, none, 3, tb_26), (yX3_growSection, cX3_growSection, 7, none, 3, tb_27), (yX4_init, cX4_init, 1, none, 4, tb_28), (yX4_pageFault, cX4_pageFault, 4, some FieldType.int, 4, tb_29), (yX4_redirectFault, cX4_redirectFault, 3, some FieldType.int, 4, tb_30), (yX4_begin, cX4_begin, 3, none, 4, tb_31)]
def MT_2 : List MEnt := [(yX4_isNext, cX4_isNext, 2, some FieldType.boolean, 4, tb_32), (yX4_take, cX4_take, 2, some FieldType.boolean, 4, tb_33), (yX4_takeBetween, cX4_takeBetween, 3, some FieldType.boolean, 4, tb_34), (yX4_takeLine, cX4_takeLine, 2, some FieldType.boolean, 4, tb_35), (yX4_takeHeading, cX4_takeHeading, 2, some FieldType.boolean, 4, tb_36), (yX4_takeInclude, cX4_takeInclude, 1, some FieldType.boolean, 4, tb_37), (yX4_takeElement, cX4_takeElement, 2, some FieldType.boolean, 4, tb_38), (yX4_takePlace, cX4_takePlace, 1, some FieldType.boolean, 4, tb_39), (yX4_takeAnchor, cX4_takeAnchor, 1, some FieldType.boolean, 4, tb_40), (yX4_takeName, cX4_takeName, 2, some FieldType.boolean, 4, tb_41), (yX5_init, cX5_init, 2, none, 5, tb_42), (yX5_follow, cX5_follow, 3, none, 5, tb_43), (yX5_usesOf, cX5_usesOf, 4, some FieldType.int, 5, tb_44), (yX5_wasHere, cX5_wasHere, 2, some FieldType.boolean, 5, tb_45), (yX5_isGood, cX5_isGood, 1, some FieldType.boolean, 5, tb_46), (yX5_goOn, cX5_goOn, 4, some FieldType.boolean, 5, tb_47)]
def MT_3 : List MEnt := [(yX6_init, cX6_init, 2, none, 6, tb_48), (yX6_replaceSource, cX6_replaceSource, 4, none, 6, tb_49), (yX6_restore, cX6_restore, 3, none, 6, tb_50), (yX6_readSource, cX6_readSource, 3, none, 6, tb_51), (yX6_expandAll, cX6_expandAll, 2, none, 6, tb_52), (yX6_rememberSections, cX6_rememberSections, 6, none, 6, tb_53), (yX6_sectionsWith, cX6_sectionsWith, 6, some FieldType.int, 6, tb_54), (yX6_includedFrom, cX6_includedFrom, 6, some FieldType.int, 6, tb_55), (yX6_spellTarget, cX6_spellTarget, 7, some FieldType.int, 6, tb_56), (yX6_writeTarget, cX6_writeTarget, 6, none, 6, tb_57), (yX7_init, cX7_init, 1, none, 7, tb_58), (yX7_become, cX7_become, 2, none, 7, tb_59), (yX7_hasSource, cX7_hasSource, 2, some FieldType.boolean, 7, tb_60), (yX7_sources, cX7_sources, 3, some FieldType.int, 7, tb_61), (yX7_redirectFrom, cX7_redirectFrom, 5, some FieldType.int, 7, tb_62), (yX7_addRedirect, cX7_addRedirect, 7, none, 7, tb_63)]
def MT_4 : List MEnt := [(yX7_dropRedirect, cX7_dropRedirect, 3, none, 7, tb_64), (yX7_entryWith, cX7_entryWith, 5, some FieldType.int, 7, tb_65), (yX7_addEntry, cX7_addEntry, 5, none, 7, tb_66), (yX7_dropEntry, cX7_dropEntry, 3, none, 7, tb_67), (yX8_init, cX8_init, 1, none, 8, tb_68), (yX8_put, cX8_put, 5, some FieldType.int, 8, tb_69), (yX8_wipe, cX8_wipe, 2, some FieldType.int, 8, tb_70), (yX8_fault, cX8_fault, 2, some FieldType.int, 8, tb_71), (yX8_load, cX8_load, 2, some FieldType.int, 8, tb_72), (yX8_remove, cX8_remove, 2, some FieldType.int, 8, tb_73), (yX8_character, cX8_character, 4, some FieldType.int, 8, tb_74), (yX8_about, cX8_about, 5, some FieldType.int, 8, tb_75), (yX8_heading, cX8_heading, 5, some FieldType.int, 8, tb_76), (yX8_anchor, cX8_anchor, 5, some FieldType.int, 8, tb_77), (yX8_section, cX8_section, 4, some FieldType.int, 8, tb_78), (yX8_cycles, cX8_cycles, 3, some FieldType.int, 8, tb_79)]
def MT_5 : List MEnt := [(yX8_redirect, cX8_redirect, 8, some FieldType.int, 8, tb_80), (yX8_unredirect, cX8_unredirect, 2, some FieldType.int, 8, tb_81), (yX8_redirection, cX8_redirection, 3, some FieldType.int, 8, tb_82), (yX8_link, cX8_link, 5, some FieldType.int, 8, tb_83), (yX8_tally, cX8_tally, 2, some FieldType.int, 8, tb_84), (yX8_reach, cX8_reach, 4, some FieldType.int, 8, tb_85), (yX8_memory, cX8_memory, 4, some FieldType.int, 8, tb_86), (yX8_repair, cX8_repair, 4, some FieldType.int, 8, tb_87), (yX8_mend, cX8_mend, 3, some FieldType.int, 8, tb_88), (yX8_mendAll, cX8_mendAll, 5, some FieldType.int, 8, tb_89), (yX8_straighten, cX8_straighten, 4, some FieldType.int, 8, tb_90), (yX8_undo, cX8_undo, 2, some FieldType.int, 8, tb_91), (yX8_count, cX8_count, 2, some FieldType.int, 8, tb_92), (yX8_isPage, cX8_isPage, 1, some FieldType.boolean, 8, tb_93), (yX8_isHeading, cX8_isHeading, 3, some FieldType.boolean, 8, tb_94), (yX8_isLink, cX8_isLink, 3, some FieldType.boolean, 8, tb_95)]
def MT_6 : List MEnt := [(yX8_isRedirect, cX8_isRedirect, 2, some FieldType.boolean, 8, tb_96), (yX8_isIn, cX8_isIn, 2, some FieldType.boolean, 8, tb_97), (yX8_charactersIn, cX8_charactersIn, 7, some FieldType.int, 8, tb_98), (yX8_arrowInPad, cX8_arrowInPad, 2, some FieldType.int, 8, tb_99), (yX8_isBroken, cX8_isBroken, 4, some FieldType.boolean, 8, tb_100), (yX8_linksOfKinds, cX8_linksOfKinds, 7, some FieldType.int, 8, tb_101), (yX8_usesOf, cX8_usesOf, 6, some FieldType.int, 8, tb_102), (yX8_reachedFrom, cX8_reachedFrom, 6, some FieldType.int, 8, tb_103), (yX8_neighboursOf, cX8_neighboursOf, 5, some FieldType.int, 8, tb_104), (yX8_writePlace, cX8_writePlace, 8, some FieldType.int, 8, tb_105), (yX8_keepState, cX8_keepState, 3, none, 8, tb_106), (yX9_init, cX9_init, 2, none, 9, tb_107), (yX9_in, cX9_in, 3, some FieldType.boolean, 9, tb_108), (yX9_isPage, cX9_isPage, 1, some FieldType.boolean, 9, tb_109), (yX9_size, cX9_size, 2, some FieldType.int, 9, tb_110), (yX9_hasSource, cX9_hasSource, 2, some FieldType.boolean, 9, tb_111)]
def MT_7 : List MEnt := [(yX9_sign, cX9_sign, 3, some FieldType.int, 9, tb_112), (yX9_put, cX9_put, 7, some FieldType.int, 9, tb_113), (yX9_wipe, cX9_wipe, 2, some FieldType.int, 9, tb_114), (yX9_next, cX9_next, 1, some FieldType.int, 9, tb_115), (yX9_isNext, cX9_isNext, 2, some FieldType.boolean, 9, tb_116), (yX9_isSmallNext, cX9_isSmallNext, 1, some FieldType.boolean, 9, tb_117), (yX9_isDigitNext, cX9_isDigitNext, 1, some FieldType.boolean, 9, tb_118), (yX9_keepSign, cX9_keepSign, 1, none, 9, tb_119), (yX9_readName, cX9_readName, 1, some FieldType.boolean, 9, tb_120), (yX9_readAnchor, cX9_readAnchor, 1, some FieldType.boolean, 9, tb_121), (yX9_readLetter, cX9_readLetter, 1, some FieldType.boolean, 9, tb_122), (yX9_readPlace, cX9_readPlace, 1, some FieldType.boolean, 9, tb_123), (yX9_readHeading, cX9_readHeading, 2, some FieldType.boolean, 9, tb_124), (yX9_readInclude, cX9_readInclude, 1, some FieldType.boolean, 9, tb_125), (yX9_readElement, cX9_readElement, 2, some FieldType.boolean, 9, tb_126), (yX9_readElements, cX9_readElements, 2, some FieldType.boolean, 9, tb_127)]
def MT_8 : List MEnt := [(yX9_readLine, cX9_readLine, 1, some FieldType.boolean, 9, tb_128), (yX9_faultOfPage, cX9_faultOfPage, 2, some FieldType.int, 9, tb_129), (yX9_readSide, cX9_readSide, 3, some FieldType.boolean, 9, tb_130), (yX9_faultOfRedirect, cX9_faultOfRedirect, 2, some FieldType.int, 9, tb_131), (yX9_fault, cX9_fault, 2, some FieldType.int, 9, tb_132), (yX9_putDown, cX9_putDown, 2, none, 9, tb_133), (yX9_undo, cX9_undo, 2, some FieldType.int, 9, tb_134), (yX9_areSameAnchors, cX9_areSameAnchors, 7, some FieldType.boolean, 9, tb_135), (yX9_remember, cX9_remember, 6, none, 9, tb_136), (yX9_dropEntry, cX9_dropEntry, 3, none, 9, tb_137), (yX9_forget, cX9_forget, 5, none, 9, tb_138), (yX9_linesOf, cX9_linesOf, 4, some FieldType.int, 9, tb_139), (yX9_load, cX9_load, 3, some FieldType.int, 9, tb_140), (yX9_sources, cX9_sources, 3, some FieldType.int, 9, tb_141), (yX9_remove, cX9_remove, 2, some FieldType.int, 9, tb_142), (yX9_character, cX9_character, 3, some FieldType.int, 9, tb_143)]
def MT_9 : List MEnt := [(yX9_anchorAt, cX9_anchorAt, 2, some FieldType.int, 9, tb_144), (yX9_linkAnchor, cX9_linkAnchor, 2, some FieldType.int, 9, tb_145), (yX9_lineEnd, cX9_lineEnd, 4, some FieldType.int, 9, tb_146), (yX9_keepAnchor, cX9_keepAnchor, 6, none, 9, tb_147), (yX9_keepLink, cX9_keepLink, 7, none, 9, tb_148), (yX9_layLinks, cX9_layLinks, 6, none, 9, tb_149), (yX9_digestLine, cX9_digestLine, 7, none, 9, tb_150), (yX9_layOwn, cX9_layOwn, 5, none, 9, tb_151), (yX9_push, cX9_push, 3, none, 9, tb_152), (yX9_namesakes, cX9_namesakes, 9, some FieldType.int, 9, tb_153), (yX9_appendSign, cX9_appendSign, 3, none, 9, tb_154), (yX9_keepHeading, cX9_keepHeading, 12, none, 9, tb_155), (yX9_layExpansion, cX9_layExpansion, 10, none, 9, tb_156), (yX9_layAll, cX9_layAll, 2, none, 9, tb_157), (yX9_about, cX9_about, 3, some FieldType.int, 9, tb_158), (yX9_isHeading, cX9_isHeading, 3, some FieldType.boolean, 9, tb_159)]
def MT_10 : List MEnt := [(yX9_heading, cX9_heading, 5, some FieldType.int, 9, tb_160), (yX9_anchor, cX9_anchor, 5, some FieldType.int, 9, tb_161), (yX9_section, cX9_section, 5, some FieldType.int, 9, tb_162), (yX9_included, cX9_included, 6, some FieldType.int, 9, tb_163), (yX9_cycles, cX9_cycles, 3, some FieldType.int, 9, tb_164), (yX9_turnAt, cX9_turnAt, 2, some FieldType.int, 9, tb_165), (yX9_turns, cX9_turns, 1, some FieldType.int, 9, tb_166), (yX9_areSamePlaces, cX9_areSamePlaces, 5, some FieldType.boolean, 9, tb_167), (yX9_redirect, cX9_redirect, 3, some FieldType.int, 9, tb_168), (yX9_isTurn, cX9_isTurn, 2, some FieldType.boolean, 9, tb_169), (yX9_unredirect, cX9_unredirect, 3, some FieldType.int, 9, tb_170), (yX9_redirection, cX9_redirection, 3, some FieldType.int, 9, tb_171), (yX9_headingWith, cX9_headingWith, 5, some FieldType.int, 9, tb_172), (yX9_wasHere, cX9_wasHere, 3, some FieldType.boolean, 9, tb_173), (yX9_isGood, cX9_isGood, 3, some FieldType.boolean, 9, tb_174), (yX9_turnFrom, cX9_turnFrom, 5, some FieldType.int, 9, tb_175)]
def MT_11 : List MEnt := [(yX9_go, cX9_go, 6, none, 9, tb_176), (yX9_resolve, cX9_resolve, 7, none, 9, tb_177), (yX9_isLink, cX9_isLink, 3, some FieldType.boolean, 9, tb_178), (yX9_link, cX9_link, 4, some FieldType.int, 9, tb_179), (yX9_followedBy, cX9_followedBy, 3, some FieldType.int, 9, tb_180), (yX9_tallyOf, cX9_tallyOf, 5, some FieldType.int, 9, tb_181), (yX9_tally, cX9_tally, 2, some FieldType.int, 9, tb_182), (yX9_reach, cX9_reach, 6, some FieldType.int, 9, tb_183), (yX9_endsOf, cX9_endsOf, 4, some FieldType.int, 9, tb_184), (yX9_alike, cX9_alike, 5, some FieldType.int, 9, tb_185), (yX9_memory, cX9_memory, 4, some FieldType.int, 9, tb_186), (yX9_lesser, cX9_lesser, 2, some FieldType.int, 9, tb_187), (yX9_changes, cX9_changes, 9, some FieldType.int, 9, tb_188), (yX9_remembered, cX9_remembered, 5, some FieldType.int, 9, tb_189), (yX9_isSectionWith, cX9_isSectionWith, 6, some FieldType.boolean, 9, tb_190), (yX9_offer, cX9_offer, 4, none, 9, tb_191)]
def MT_12 : List MEnt := [(yX9_layRepair, cX9_layRepair, 12, none, 9, tb_192), (yX9_isBroken, cX9_isBroken, 3, some FieldType.boolean, 9, tb_193), (yX9_repair, cX9_repair, 4, some FieldType.int, 9, tb_194), (yX9_say, cX9_say, 2, none, 9, tb_195), (yX9_layTarget, cX9_layTarget, 6, none, 9, tb_196), (yX9_fitsTarget, cX9_fitsTarget, 4, some FieldType.boolean, 9, tb_197), (yX9_writeTarget, cX9_writeTarget, 7, none, 9, tb_198), (yX9_mend, cX9_mend, 3, some FieldType.int, 9, tb_199), (yX9_mendAll, cX9_mendAll, 4, some FieldType.int, 9, tb_200), (yX9_straighten, cX9_straighten, 3, some FieldType.int, 9, tb_201), (yX9_count, cX9_count, 2, some FieldType.int, 9, tb_202), (yX9_linksOfAll, cX9_linksOfAll, 3, some FieldType.int, 9, tb_203)]
def MT : List MEnt := MT_0 ++ (MT_1 ++ (MT_2 ++ (MT_3 ++ (MT_4 ++ (MT_5 ++ (MT_6 ++ (MT_7 ++ (MT_8 ++ (MT_9 ++ (MT_10 ++ (MT_11 ++ (MT_12))))))))))))
def eLaw : MEnt := (x, cL_law, 4, some FieldType.boolean, 10, tb_204)
def ownN (c : Nat) : String := [RX0, RX1, RX2, RX3, RX4, RX5, RX6, RX7, RX8, RX9, "LinkAuditorLaw"].getD c ""
def flT : List (Nat × Nat × Nat × Nat × Nat) := [(4, 9, 4, 0, 137), (4, 15, 4, 1, 138), (4, 19, 4, 2, 139), (7, 9, 7, 0, 160), (6, 42, 7, 0, 161), (8, 111, 7, 0, 162), (7, 15, 7, 1, 163), (6, 51, 7, 1, 164), (8, 107, 7, 1, 165), (7, 19, 7, 2, 166), (8, 190, 7, 2, 167), (7, 23, 7, 3, 168), (8, 203, 7, 3, 169), (7, 26, 7, 4, 170), (8, 206, 7, 4, 171), (7, 30, 7, 5, 172), (5, 87, 7, 5, 173), (8, 209, 7, 5, 174), (7, 33, 7, 6, 175), (5, 90, 7, 6, 176), (8, 212, 7, 6, 177), (7, 36, 7, 7, 178), (8, 249, 7, 7, 179), (7, 39, 7, 8, 180), (8, 252, 7, 8, 181), (7, 42, 7, 9, 182), (8, 258, 7, 9, 183), (7, 45, 7, 10, 184), (2, 73, 7, 10, 185), (8, 255, 7, 10, 186), (3, 59, 3, 0, 221), (3, 9, 3, 1, 222), (1, 53, 3, 1, 223), (8, 91, 3, 1, 224), (3, 15, 3, 2, 225), (1, 54, 3, 2, 226), (3, 19, 3, 3, 227), (1, 67, 3, 3, 228), (3, 23, 3, 4, 229), (1, 57, 3, 4, 230), (3, 26, 3, 5, 231), (1, 64, 3, 5, 232), (3, 29, 3, 6, 233), (8, 130, 3, 6, 234), (3, 32, 3, 7, 235), (6, 93, 3, 7, 236), (8, 133, 3, 7, 237), (3, 35, 3, 8, 238), (8, 127, 3, 8, 239), (3, 38, 3, 9, 240), (2, 46, 3, 9, 241), (5, 43, 3, 9, 242), (8, 228, 3, 9, 243), (3, 41, 3, 10, 244), (2, 51, 3, 10, 245), (5, 48, 3, 10, 246), (8, 231, 3, 10, 247), (3, 44, 3, 11, 248), (6, 109, 3, 11, 249), (3, 47, 3, 12, 250), (6, 106, 3, 12, 251), (3, 50, 3, 13, 252), (1, 44, 3, 13, 253), (6, 73, 3, 13, 254), (8, 124, 3, 13, 255), (3, 53, 3, 14, 256), (6, 79, 3, 14, 257), (8, 169, 3, 14, 258), (3, 56, 3, 15, 259), (2, 112, 3, 15, 260), (6, 86, 3, 15, 261), (8, 163, 3, 15, 262), (1, 9, 1, 0, 301), (8, 118, 1, 0, 302), (1, 15, 1, 1, 303), (8, 136, 1, 1, 304), (1, 18, 1, 2, 305), (2, 98, 1, 2, 306), (8, 121, 1, 2, 307), (1, 21, 1, 3, 308), (8, 143, 1, 3, 309), (1, 25, 1, 4, 310), (8, 146, 1, 4, 311), (1, 28, 1, 5, 312), (2, 103, 1, 5, 313), (6, 82, 1, 5, 314), (8, 149, 1, 5, 315), (1, 32, 1, 6, 316), (2, 105, 1, 6, 317), (1, 35, 1, 7, 318), (6, 76, 1, 7, 319), (8, 166, 1, 7, 320), (1, 38, 1, 8, 321), (1, 41, 1, 9, 322), (6, 12, 6, 0, 344), (2, 61, 6, 0, 345), (5, 61, 6, 0, 346), (8, 96, 6, 0, 347), (6, 20, 6, 1, 348), (2, 108, 6, 1, 349), (8, 87, 6, 1, 350), (6, 26, 6, 2, 351), (2, 94, 6, 2, 352), (5, 73, 6, 2, 353), (8, 114, 6, 2, 354), (6, 30, 6, 3, 355), (6, 34, 6, 4, 356), (5, 39, 5, 0, 374), (5, 9, 5, 1, 375), (8, 225, 5, 1, 376), (5, 15, 5, 2, 377), (8, 237, 5, 2, 378), (5, 18, 5, 3, 379), (8, 282, 5, 3, 380), (5, 22, 5, 4, 381), (8, 240, 5, 4, 382), (5, 25, 5, 5, 383), (8, 234, 5, 5, 384), (5, 28, 5, 6, 385), (5, 32, 5, 7, 386), (5, 36, 5, 8, 387), (2, 42, 2, 0, 413), (2, 11, 2, 1, 414), (8, 270, 2, 1, 415), (2, 15, 2, 2, 416), (8, 273, 2, 2, 417), (2, 18, 2, 3, 418), (8, 274, 2, 3, 419), (2, 21, 2, 4, 420), (8, 275, 2, 4, 421), (2, 25, 2, 5, 422), (2, 28, 2, 6, 423), (2, 32, 2, 7, 424), (2, 35, 2, 8, 425), (2, 38, 2, 9, 426), (8, 9, 8, 0, 448), (8, 22, 8, 1, 449), (8, 32, 8, 2, 450), (8, 39, 8, 3, 451), (8, 48, 8, 4, 452), (8, 55, 8, 5, 453), (8, 15, 8, 6, 454), (8, 26, 8, 7, 455), (8, 19, 8, 8, 456), (9, 7, 9, 0, 900), (9, 116, 9, 1, 901), (9, 13, 9, 2, 902), (9, 16, 9, 3, 903), (9, 177, 9, 4, 904), (9, 180, 9, 5, 905), (9, 120, 9, 6, 906), (9, 19, 9, 7, 907), (9, 22, 9, 8, 908), (9, 25, 9, 9, 909), (9, 28, 9, 10, 910), (9, 31, 9, 11, 911), (9, 34, 9, 12, 912), (9, 37, 9, 13, 913), (9, 40, 9, 14, 914), (9, 43, 9, 15, 915), (9, 46, 9, 16, 916), (9, 49, 9, 17, 917), (9, 52, 9, 18, 918), (9, 55, 9, 19, 919), (9, 58, 9, 20, 920), (9, 61, 9, 21, 921), (9, 64, 9, 22, 922), (9, 67, 9, 23, 923), (9, 70, 9, 24, 924), (9, 73, 9, 25, 925), (9, 76, 9, 26, 926), (9, 79, 9, 27, 927), (9, 82, 9, 28, 928), (9, 85, 9, 29, 929), (9, 245, 9, 30, 930), (9, 248, 9, 31, 931), (9, 88, 9, 32, 932), (9, 257, 9, 33, 933), (9, 91, 9, 34, 934), (9, 295, 9, 35, 935), (9, 305, 9, 36, 936), (9, 298, 9, 37, 937), (9, 94, 9, 38, 938), (9, 340, 9, 39, 939), (9, 343, 9, 40, 940), (9, 346, 9, 41, 941), (9, 97, 9, 42, 942), (9, 100, 9, 43, 943), (9, 367, 9, 44, 944), (9, 103, 9, 45, 945)]
def mkT : List (Nat × Nat × Nat × Nat × Nat) := [(10, 9, 2, 68, 123), (8, 3, 5, 0, 126), (8, 31, 4, 28, 133), (4, 3, 5, 0, 136), (8, 38, 2, 48, 150), (6, 3, 5, 0, 153), (6, 11, 4, 58, 156), (7, 3, 5, 0, 159), (6, 38, 2, 21, 217), (3, 3, 5, 0, 220), (6, 41, 4, 7, 297), (1, 3, 5, 0, 300), (8, 45, 2, 42, 370), (5, 3, 5, 0, 373), (8, 54, 2, 15, 409), (2, 3, 5, 0, 412), (10, 15, 0, 69, 476), (8, 59, 1, 98, 480), (10, 20, 0, 70, 486), (10, 25, 0, 71, 490), (8, 65, 0, 29, 494), (4, 22, 0, 31, 498), (4, 26, 0, 35, 502), (4, 41, 0, 32, 506), (4, 44, 0, 36, 510), (4, 30, 0, 33, 514), (4, 37, 0, 34, 518), (4, 53, 0, 41, 522), (4, 47, 0, 37, 526), (4, 50, 0, 38, 530), (4, 56, 0, 40, 534), (8, 69, 0, 30, 538), (4, 34, 0, 39, 542), (10, 30, 0, 72, 546), (8, 72, 1, 93, 550), (8, 76, 0, 106, 553), (8, 303, 4, 58, 557), (8, 304, 0, 59, 558), (7, 48, 6, 0, 562), (8, 79, 0, 53, 565), (6, 89, 0, 66, 569), (7, 58, 0, 65, 573), (7, 62, 0, 67, 577), (8, 83, 0, 49, 581), (6, 45, 6, 0, 585), (6, 55, 0, 51, 586), (6, 65, 0, 22, 590), (3, 62, 1, 4, 594), (3, 68, 0, 23, 597), (3, 75, 0, 24, 601), (3, 84, 1, 0, 605), (3, 78, 0, 25, 608), (3, 81, 0, 27, 612), (3, 72, 0, 26, 617), (3, 88, 1, 3, 621), (0, 9, 1, 4, 624), (0, 15, 1, 0, 625), (0, 19, 1, 1, 626), (6, 58, 0, 52, 629), (6, 69, 0, 8, 633), (1, 49, 0, 9, 637), (1, 60, 0, 10, 641), (1, 74, 3, 97, 645), (1, 70, 0, 11, 648), (1, 78, 0, 12, 652), (1, 88, 1, 2, 656), (1, 82, 1, 1, 659), (10, 34, 0, 73, 660), (8, 100, 0, 60, 664), (8, 103, 0, 61, 668), (7, 54, 0, 60, 672), (10, 38, 0, 74, 673), (10, 43, 0, 75, 677), (10, 47, 0, 76, 681), (8, 139, 0, 94, 685), (8, 153, 1, 5, 689), (0, 23, 1, 2, 692), (0, 31, 1, 6, 695), (8, 159, 0, 14, 698), (10, 52, 0, 77, 702), (10, 56, 0, 78, 706), (10, 60, 0, 79, 710), (8, 172, 0, 55, 714), (6, 96, 3, 97, 718), (8, 176, 1, 97, 719), (10, 64, 0, 80, 720), (8, 179, 0, 99, 724), (8, 182, 1, 3, 728), (8, 186, 0, 62, 729), (8, 193, 0, 63, 733), (10, 68, 0, 81, 737), (8, 197, 0, 96, 741), (8, 200, 0, 64, 745), (10, 72, 0, 82, 749), (8, 215, 0, 102, 753), (8, 221, 0, 43, 757), (5, 51, 0, 45, 761), (5, 55, 0, 46, 765), (5, 67, 0, 60, 769), (5, 77, 0, 13, 770), (5, 58, 0, 47, 774), (5, 83, 0, 62, 778), (8, 291, 0, 44, 779), (10, 76, 0, 83, 783), (8, 218, 0, 95, 787), (10, 80, 0, 84, 791), (8, 243, 0, 101, 795), (10, 84, 0, 85, 799), (8, 246, 0, 103, 803), (8, 292, 0, 104, 807), (10, 88, 0, 86, 811), (8, 261, 0, 54, 815), (10, 92, 0, 87, 819), (8, 264, 0, 100, 823), (8, 267, 0, 16, 827), (2, 55, 1, 5, 831), (2, 67, 0, 65, 832), (2, 76, 0, 60, 833), (2, 80, 8, 0, 834), (2, 86, 0, 18, 837), (2, 90, 0, 17, 841), (2, 115, 0, 19, 845), (2, 119, 0, 20, 849), (2, 123, 7, 0, 853), (10, 96, 0, 88, 856), (8, 278, 0, 105, 860), (8, 295, 0, 56, 864), (6, 100, 1, 5, 868), (8, 299, 0, 57, 869), (10, 100, 0, 89, 873), (10, 104, 0, 90, 877), (10, 108, 0, 91, 881), (8, 283, 0, 50, 885), (6, 61, 0, 59, 889), (10, 112, 0, 92, 890), (10, 12, 2, 107, 896), (9, 1, 5, 0, 899), (10, 19, 0, 113, 1039), (9, 106, 1, 108, 1044), (10, 24, 0, 114, 1047), (10, 29, 0, 132, 1051), (9, 171, 0, 129, 1055), (9, 165, 0, 128, 1059), (9, 123, 0, 115, 1063), (9, 156, 0, 124, 1067), (9, 143, 0, 116, 1071), (9, 137, 0, 120, 1075), (9, 127, 0, 117, 1079), (9, 131, 0, 118, 1083), (9, 134, 0, 119, 1087), (9, 159, 0, 125, 1091), (9, 140, 0, 122, 1095), (9, 162, 0, 127, 1099), (9, 153, 0, 126, 1103), (9, 147, 0, 121, 1107), (9, 150, 0, 123, 1111), (9, 174, 0, 131, 1115), (9, 168, 0, 130, 1119), (10, 111, 0, 134, 1123), (10, 33, 0, 140, 1127), (9, 206, 1, 109, 1131), (9, 209, 0, 133, 1134), (9, 212, 0, 111, 1138), (9, 110, 0, 110, 1142), (9, 215, 0, 136, 1146), (9, 184, 0, 157, 1150), (9, 267, 0, 151, 1154), (9, 236, 0, 146, 1158), (9, 203, 0, 112, 1162), (9, 239, 0, 150, 1166), (9, 242, 0, 149, 1171), (9, 231, 0, 148, 1175), (9, 224, 1, 145, 1179), (9, 227, 0, 147, 1182), (9, 270, 0, 156, 1186), (9, 260, 0, 152, 1190), (9, 263, 0, 155, 1194), (9, 187, 1, 144, 1198), (9, 251, 0, 153, 1201), (9, 254, 0, 154, 1205), (9, 191, 0, 138, 1209), (9, 199, 0, 135, 1213), (9, 195, 0, 137, 1217), (9, 218, 0, 139, 1221), (10, 37, 0, 142, 1225), (9, 221, 0, 141, 1229), (10, 42, 0, 143, 1233), (10, 46, 0, 158, 1237), (10, 51, 0, 160, 1241), (9, 273, 0, 159, 1245), (10, 55, 0, 161, 1249), (10, 59, 0, 162, 1253), (10, 63, 0, 164, 1257), (9, 277, 0, 163, 1261), (10, 67, 0, 168, 1265), (9, 280, 0, 167, 1269), (9, 283, 0, 166, 1273), (9, 286, 0, 165, 1277), (10, 71, 0, 170, 1281), (9, 289, 0, 169, 1285), (10, 75, 0, 171, 1289), (9, 292, 0, 180, 1293), (9, 328, 0, 181, 1297), (9, 325, 0, 177, 1301), (9, 308, 0, 173, 1305), (9, 311, 0, 174, 1309), (9, 301, 0, 172, 1313), (9, 314, 0, 175, 1317), (9, 318, 0, 176, 1321), (10, 79, 0, 179, 1325), (9, 322, 0, 178, 1329), (10, 83, 0, 182, 1333), (10, 87, 0, 183, 1337), (9, 331, 0, 184, 1341), (10, 91, 0, 186, 1345), (9, 334, 0, 185, 1349), (10, 95, 0, 194, 1353), (9, 361, 0, 193, 1357), (9, 364, 0, 192, 1361), (9, 349, 0, 189, 1365), (9, 352, 0, 191, 1369), (9, 355, 0, 188, 1373), (9, 337, 1, 187, 1377), (9, 358, 0, 190, 1380), (10, 99, 0, 199, 1384), (9, 373, 0, 196, 1388), (9, 370, 0, 195, 1392), (9, 376, 0, 197, 1396), (9, 379, 0, 198, 1400), (10, 103, 0, 200, 1404), (10, 107, 0, 201, 1408), (10, 115, 0, 202, 1412), (9, 382, 0, 203, 1416)]
def ckT : List (Nat × Nat × Nat × Nat) := [(10, 7, 8, 121), (8, 13, 7, 129), (8, 29, 4, 131), (8, 36, 6, 148), (6, 9, 7, 154), (6, 18, 3, 212), (6, 24, 1, 214), (8, 43, 5, 368), (8, 52, 2, 407), (10, 10, 9, 894)]
def icT : List (Nat × Nat × Int32 × Nat) := [(3, 91, 1000003, 616), (9, 235, 1000003, 1170)]
def lcT : List (Nat × Nat × Int64 × Nat) := [(8, 63, 255, 483), (8, 287, 33, 484), (8, 289, 126, 485), (0, 27, 63, 693), (0, 29, 127, 694), (9, 114, 255, 1043), (10, 13, 4294967295, 1420)]
def coT : List Nat := [68, 28, 48, 58, 21, 7, 42, 15, 69, 98, 70, 71, 29, 31, 35, 32, 36, 33, 34, 41, 37, 38, 40, 30, 39, 72, 93, 106, 59, 53, 66, 65, 67, 49, 51, 22, 4, 23, 24, 0, 25, 27, 26, 3, 1, 52, 8, 9, 10, 97, 11, 12, 2, 73, 60, 61, 74, 75, 76, 94, 5, 6, 14, 77, 78, 79, 55, 80, 99, 62, 63, 81, 96, 64, 82, 102, 43, 45, 46, 13, 47, 44, 83, 95, 84, 101, 85, 103, 104, 86, 54, 87, 100, 16, 18, 17, 19, 20, 88, 105, 56, 57, 89, 90, 91, 50, 92, 107, 113, 108, 114, 132, 129, 128, 115, 124, 116, 120, 117, 118, 119, 125, 122, 127, 126, 121, 123, 131, 130, 134, 140, 109, 133, 111, 110, 136, 157, 151, 146, 112, 150, 149, 148, 145, 147, 156, 152, 155, 144, 153, 154, 138, 135, 137, 139, 142, 141, 143, 158, 160, 159, 161, 162, 164, 163, 168, 167, 166, 165, 170, 169, 171, 180, 181, 177, 173, 174, 172, 175, 176, 179, 178, 182, 183, 184, 186, 185, 194, 193, 192, 189, 191, 188, 187, 190, 199, 196, 195, 197, 198, 200, 201, 202, 203]
end
section
/-! the words of lw_tbl, kind by kind, in their order -/
def slC : Cond → Option (MethodName × ByteArray × Nat × Option FieldType) := fun w => match w with
  | .code y b n r => some (y, b, n, r)
  | _ => none
def slC_l : List (MethodName × ByteArray × Nat × Option FieldType) := [(yX8_init, prog_1_method_1_code, 1, (none : Option FieldType)), (objectInit, object_method_1_code, 1, (none : Option FieldType)), (yX4_init, prog_6_method_1_code, 1, (none : Option FieldType)), (yX6_init, prog_8_method_1_code, 2, (none : Option FieldType)), (yX7_init, prog_9_method_1_code, 1, (none : Option FieldType)), (yX3_init, prog_5_method_1_code, 2, (none : Option FieldType)), (yX1_init, prog_3_method_1_code, 1, (none : Option FieldType)), (yX5_init, prog_7_method_1_code, 2, (none : Option FieldType)), (yX2_init, prog_4_method_1_code, 2, (none : Option FieldType)), (yX8_put, prog_1_method_2_code, 5, (some FieldType.int)), (yX8_charactersIn, prog_1_method_31_code, 7, (some FieldType.int)), (yX8_wipe, prog_1_method_3_code, 2, (some FieldType.int)), (yX8_fault, prog_1_method_4_code, 2, (some FieldType.int)), (yX4_pageFault, prog_6_method_2_code, 4, (some FieldType.int)), (yX4_begin, prog_6_method_4_code, 3, (none : Option FieldType)), (yX4_takeLine, prog_6_method_8_code, 2, (some FieldType.boolean)), (yX4_isNext, prog_6_method_5_code, 2, (some FieldType.boolean)), (yX4_takeHeading, prog_6_method_9_code, 2, (some FieldType.boolean)), (yX4_take, prog_6_method_6_code, 2, (some FieldType.boolean)), (yX4_takeBetween, prog_6_method_7_code, 3, (some FieldType.boolean)), (yX4_takeName, prog_6_method_14_code, 2, (some FieldType.boolean)), (yX4_takeInclude, prog_6_method_10_code, 1, (some FieldType.boolean)), (yX4_takeElement, prog_6_method_11_code, 2, (some FieldType.boolean)), (yX4_takeAnchor, prog_6_method_13_code, 1, (some FieldType.boolean)), (yX4_redirectFault, prog_6_method_3_code, 3, (some FieldType.int)), (yX4_takePlace, prog_6_method_12_code, 1, (some FieldType.boolean)), (yX8_load, prog_1_method_5_code, 2, (some FieldType.int)), (yX8_isPage, prog_1_method_26_code, 1, (some FieldType.boolean)), (yX8_keepState, prog_1_method_39_code, 3, (none : Option FieldType)), (yX7_become, prog_9_method_2_code, 2, (none : Option FieldType)), (yX6_rememberSections, prog_8_method_6_code, 6, (none : Option FieldType)), (yX7_addEntry, prog_9_method_9_code, 5, (none : Option FieldType)), (yX7_entryWith, prog_9_method_8_code, 5, (some FieldType.int)), (yX7_dropEntry, prog_9_method_10_code, 3, (none : Option FieldType)), (yX6_replaceSource, prog_8_method_2_code, 4, (none : Option FieldType)), (yX6_readSource, prog_8_method_4_code, 3, (none : Option FieldType)), (yX3_read, prog_5_method_2_code, 6, (none : Option FieldType)), (yX0_indexOf, prog_2_method_6_code, 5, (some FieldType.int)), (yX3_addLine, prog_5_method_3_code, 4, (none : Option FieldType)), (yX3_addHeading, prog_5_method_4_code, 5, (none : Option FieldType)), (yX0_nameIn, prog_2_method_2_code, 7, (some FieldType.long)), (yX3_addInclude, prog_5_method_5_code, 5, (none : Option FieldType)), (yX3_growSection, prog_5_method_7_code, 7, (none : Option FieldType)), (yX3_readLinks, prog_5_method_6_code, 6, (none : Option FieldType)), (yX0_placeAnchor, prog_2_method_5_code, 7, (some FieldType.long)), (yX0_numbered, prog_2_method_3_code, 3, (some FieldType.long)), (yX6_expandAll, prog_8_method_5_code, 2, (none : Option FieldType)), (yX1_build, prog_3_method_2_code, 4, (none : Option FieldType)), (yX1_addPage, prog_3_method_3_code, 9, (none : Option FieldType)), (yX1_isReplaced, prog_3_method_4_code, 3, (some FieldType.boolean)), (yX8_isIn, prog_1_method_30_code, 2, (some FieldType.boolean)), (yX1_addHeading, prog_3_method_5_code, 6, (none : Option FieldType)), (yX1_headingsNamed, prog_3_method_6_code, 5, (some FieldType.int)), (yX0_nameOf, prog_2_method_4_code, 2, (some FieldType.long)), (yX8_remove, prog_1_method_6_code, 2, (some FieldType.int)), (yX7_hasSource, prog_9_method_3_code, 2, (some FieldType.boolean)), (yX7_sources, prog_9_method_4_code, 3, (some FieldType.int)), (yX8_character, prog_1_method_7_code, 4, (some FieldType.int)), (yX8_about, prog_1_method_8_code, 5, (some FieldType.int)), (yX8_heading, prog_1_method_9_code, 5, (some FieldType.int)), (yX8_isHeading, prog_1_method_27_code, 3, (some FieldType.boolean)), (yX0_spell, prog_2_method_7_code, 10, (some FieldType.int)), (yX0_spellNumber, prog_2_method_8_code, 4, (some FieldType.int)), (yX1_partOf, prog_3_method_8_code, 5, (some FieldType.int)), (yX8_anchor, prog_1_method_10_code, 5, (some FieldType.int)), (yX8_section, prog_1_method_11_code, 4, (some FieldType.int)), (yX8_cycles, prog_1_method_12_code, 3, (some FieldType.int)), (yX6_includedFrom, prog_8_method_8_code, 6, (some FieldType.int)), (yX8_redirect, prog_1_method_13_code, 8, (some FieldType.int)), (yX8_arrowInPad, prog_1_method_32_code, 2, (some FieldType.int)), (yX7_redirectFrom, prog_9_method_5_code, 5, (some FieldType.int)), (yX7_addRedirect, prog_9_method_6_code, 7, (none : Option FieldType)), (yX8_unredirect, prog_1_method_14_code, 2, (some FieldType.int)), (yX8_isRedirect, prog_1_method_29_code, 2, (some FieldType.boolean)), (yX7_dropRedirect, prog_9_method_7_code, 3, (none : Option FieldType)), (yX8_redirection, prog_1_method_15_code, 3, (some FieldType.int)), (yX8_usesOf, prog_1_method_35_code, 6, (some FieldType.int)), (yX5_follow, prog_7_method_2_code, 3, (none : Option FieldType)), (yX5_wasHere, prog_7_method_4_code, 2, (some FieldType.boolean)), (yX5_isGood, prog_7_method_5_code, 1, (some FieldType.boolean)), (yX1_headingWith, prog_3_method_7_code, 4, (some FieldType.int)), (yX5_goOn, prog_7_method_6_code, 4, (some FieldType.boolean)), (yX5_usesOf, prog_7_method_3_code, 4, (some FieldType.int)), (yX8_link, prog_1_method_16_code, 5, (some FieldType.int)), (yX8_isLink, prog_1_method_28_code, 3, (some FieldType.boolean)), (yX8_tally, prog_1_method_17_code, 2, (some FieldType.int)), (yX8_linksOfKinds, prog_1_method_34_code, 7, (some FieldType.int)), (yX8_reach, prog_1_method_18_code, 4, (some FieldType.int)), (yX8_reachedFrom, prog_1_method_36_code, 6, (some FieldType.int)), (yX8_neighboursOf, prog_1_method_37_code, 5, (some FieldType.int)), (yX8_memory, prog_1_method_19_code, 4, (some FieldType.int)), (yX6_sectionsWith, prog_8_method_7_code, 6, (some FieldType.int)), (yX8_repair, prog_1_method_20_code, 4, (some FieldType.int)), (yX8_isBroken, prog_1_method_33_code, 4, (some FieldType.boolean)), (yX2_find, prog_4_method_2_code, 8, (none : Option FieldType)), (⟨"java/lang/Math", "abs", "(I)I"⟩, prog_12_method_59_code, 1, (some FieldType.int)), (yX2_offer, prog_4_method_4_code, 6, (none : Option FieldType)), (yX2_offerHeadings, prog_4_method_3_code, 10, (none : Option FieldType)), (yX2_stepsTo, prog_4_method_5_code, 6, (some FieldType.int)), (yX2_fillRow, prog_4_method_6_code, 7, (some FieldType.int)), (⟨"java/lang/Math", "min", "(II)I"⟩, prog_12_method_69_code, 2, (some FieldType.int)), (yX8_mend, prog_1_method_21_code, 3, (some FieldType.int)), (yX8_writePlace, prog_1_method_38_code, 8, (some FieldType.int)), (yX6_spellTarget, prog_8_method_9_code, 7, (some FieldType.int)), (yX6_writeTarget, prog_8_method_10_code, 6, (none : Option FieldType)), (yX8_mendAll, prog_1_method_22_code, 5, (some FieldType.int)), (yX8_straighten, prog_1_method_23_code, 4, (some FieldType.int)), (yX8_undo, prog_1_method_24_code, 2, (some FieldType.int)), (yX6_restore, prog_8_method_3_code, 3, (none : Option FieldType)), (yX8_count, prog_1_method_25_code, 2, (some FieldType.int)), (yX9_init, prog_11_method_1_code, 2, (none : Option FieldType)), (yX9_put, prog_11_method_8_code, 7, (some FieldType.int)), (yX9_in, prog_11_method_3_code, 3, (some FieldType.boolean)), (yX9_wipe, prog_11_method_9_code, 2, (some FieldType.int)), (yX9_fault, prog_11_method_27_code, 2, (some FieldType.int)), (yX9_faultOfPage, prog_11_method_24_code, 2, (some FieldType.int)), (yX9_readLine, prog_11_method_23_code, 1, (some FieldType.boolean)), (yX9_next, prog_11_method_10_code, 1, (some FieldType.int)), (yX9_readHeading, prog_11_method_19_code, 2, (some FieldType.boolean)), (yX9_isNext, prog_11_method_11_code, 2, (some FieldType.boolean)), (yX9_readName, prog_11_method_15_code, 1, (some FieldType.boolean)), (yX9_isSmallNext, prog_11_method_12_code, 1, (some FieldType.boolean)), (yX9_isDigitNext, prog_11_method_13_code, 1, (some FieldType.boolean)), (yX9_keepSign, prog_11_method_14_code, 1, (none : Option FieldType)), (yX9_readInclude, prog_11_method_20_code, 1, (some FieldType.boolean)), (yX9_readLetter, prog_11_method_17_code, 1, (some FieldType.boolean)), (yX9_readElements, prog_11_method_22_code, 2, (some FieldType.boolean)), (yX9_readElement, prog_11_method_21_code, 2, (some FieldType.boolean)), (yX9_readAnchor, prog_11_method_16_code, 1, (some FieldType.boolean)), (yX9_readPlace, prog_11_method_18_code, 1, (some FieldType.boolean)), (yX9_faultOfRedirect, prog_11_method_26_code, 2, (some FieldType.int)), (yX9_readSide, prog_11_method_25_code, 3, (some FieldType.boolean)), (yX9_undo, prog_11_method_29_code, 2, (some FieldType.int)), (yX9_load, prog_11_method_35_code, 3, (some FieldType.int)), (yX9_isPage, prog_11_method_4_code, 1, (some FieldType.boolean)), (yX9_putDown, prog_11_method_28_code, 2, (none : Option FieldType)), (yX9_hasSource, prog_11_method_6_code, 2, (some FieldType.boolean)), (yX9_size, prog_11_method_5_code, 2, (some FieldType.int)), (yX9_remember, prog_11_method_31_code, 6, (none : Option FieldType)), (yX9_layAll, prog_11_method_52_code, 2, (none : Option FieldType)), (yX9_layOwn, prog_11_method_46_code, 5, (none : Option FieldType)), (yX9_lineEnd, prog_11_method_41_code, 4, (some FieldType.int)), (yX9_sign, prog_11_method_7_code, 3, (some FieldType.int)), (yX9_digestLine, prog_11_method_45_code, 7, (none : Option FieldType)), (yX9_layLinks, prog_11_method_44_code, 6, (none : Option FieldType)), (yX9_keepLink, prog_11_method_43_code, 7, (none : Option FieldType)), (yX9_linkAnchor, prog_11_method_40_code, 2, (some FieldType.int)), (yX9_keepAnchor, prog_11_method_42_code, 6, (none : Option FieldType)), (yX9_layExpansion, prog_11_method_51_code, 10, (none : Option FieldType)), (yX9_push, prog_11_method_47_code, 3, (none : Option FieldType)), (yX9_keepHeading, prog_11_method_50_code, 12, (none : Option FieldType)), (yX9_anchorAt, prog_11_method_39_code, 2, (some FieldType.int)), (yX9_namesakes, prog_11_method_48_code, 9, (some FieldType.int)), (yX9_appendSign, prog_11_method_49_code, 3, (none : Option FieldType)), (yX9_forget, prog_11_method_33_code, 5, (none : Option FieldType)), (yX9_areSameAnchors, prog_11_method_30_code, 7, (some FieldType.boolean)), (yX9_dropEntry, prog_11_method_32_code, 3, (none : Option FieldType)), (yX9_linesOf, prog_11_method_34_code, 4, (some FieldType.int)), (yX9_remove, prog_11_method_37_code, 2, (some FieldType.int)), (yX9_sources, prog_11_method_36_code, 3, (some FieldType.int)), (yX9_character, prog_11_method_38_code, 3, (some FieldType.int)), (yX9_about, prog_11_method_53_code, 3, (some FieldType.int)), (yX9_heading, prog_11_method_55_code, 5, (some FieldType.int)), (yX9_isHeading, prog_11_method_54_code, 3, (some FieldType.boolean)), (yX9_anchor, prog_11_method_56_code, 5, (some FieldType.int)), (yX9_section, prog_11_method_57_code, 5, (some FieldType.int)), (yX9_cycles, prog_11_method_59_code, 3, (some FieldType.int)), (yX9_included, prog_11_method_58_code, 6, (some FieldType.int)), (yX9_redirect, prog_11_method_63_code, 3, (some FieldType.int)), (yX9_areSamePlaces, prog_11_method_62_code, 5, (some FieldType.boolean)), (yX9_turns, prog_11_method_61_code, 1, (some FieldType.int)), (yX9_turnAt, prog_11_method_60_code, 2, (some FieldType.int)), (yX9_unredirect, prog_11_method_65_code, 3, (some FieldType.int)), (yX9_isTurn, prog_11_method_64_code, 2, (some FieldType.boolean)), (yX9_redirection, prog_11_method_66_code, 3, (some FieldType.int)), (yX9_followedBy, prog_11_method_75_code, 3, (some FieldType.int)), (yX9_tallyOf, prog_11_method_76_code, 5, (some FieldType.int)), (yX9_resolve, prog_11_method_72_code, 7, (none : Option FieldType)), (yX9_wasHere, prog_11_method_68_code, 3, (some FieldType.boolean)), (yX9_isGood, prog_11_method_69_code, 3, (some FieldType.boolean)), (yX9_headingWith, prog_11_method_67_code, 5, (some FieldType.int)), (yX9_turnFrom, prog_11_method_70_code, 5, (some FieldType.int)), (yX9_go, prog_11_method_71_code, 6, (none : Option FieldType)), (yX9_link, prog_11_method_74_code, 4, (some FieldType.int)), (yX9_isLink, prog_11_method_73_code, 3, (some FieldType.boolean)), (yX9_tally, prog_11_method_77_code, 2, (some FieldType.int)), (yX9_reach, prog_11_method_78_code, 6, (some FieldType.int)), (yX9_endsOf, prog_11_method_79_code, 4, (some FieldType.int)), (yX9_memory, prog_11_method_81_code, 4, (some FieldType.int)), (yX9_alike, prog_11_method_80_code, 5, (some FieldType.int)), (yX9_repair, prog_11_method_89_code, 4, (some FieldType.int)), (yX9_isBroken, prog_11_method_88_code, 3, (some FieldType.boolean)), (yX9_layRepair, prog_11_method_87_code, 12, (none : Option FieldType)), (yX9_remembered, prog_11_method_84_code, 5, (some FieldType.int)), (yX9_offer, prog_11_method_86_code, 4, (none : Option FieldType)), (yX9_changes, prog_11_method_83_code, 9, (some FieldType.int)), (yX9_lesser, prog_11_method_82_code, 2, (some FieldType.int)), (yX9_isSectionWith, prog_11_method_85_code, 6, (some FieldType.boolean)), (yX9_mend, prog_11_method_94_code, 3, (some FieldType.int)), (yX9_layTarget, prog_11_method_91_code, 6, (none : Option FieldType)), (yX9_say, prog_11_method_90_code, 2, (none : Option FieldType)), (yX9_fitsTarget, prog_11_method_92_code, 4, (some FieldType.boolean)), (yX9_writeTarget, prog_11_method_93_code, 7, (none : Option FieldType)), (yX9_mendAll, prog_11_method_95_code, 4, (some FieldType.int)), (yX9_straighten, prog_11_method_96_code, 3, (some FieldType.int)), (yX9_count, prog_11_method_97_code, 2, (some FieldType.int)), (yX9_linksOfAll, prog_11_method_98_code, 3, (some FieldType.int))]
set_option maxRecDepth 100000 in
set_option maxHeartbeats 4000000 in
theorem slC_ok : lw_tbl.filterMap slC = slC_l := by rfl
def slS : Cond → Option (MethodName) := fun w => match w with
  | .static y => some y
  | _ => none
def slS_l : List (MethodName) := [yX8_charactersIn, yX8_isPage, ⟨"java/lang/System", "arraycopy", "(Ljava/lang/Object;ILjava/lang/Object;II)V"⟩, yX0_indexOf, yX0_nameIn, yX0_placeAnchor, yX0_numbered, yX8_isIn, yX0_nameOf, yX0_spell, yX0_spellNumber, ⟨"java/lang/Math", "abs", "(I)I"⟩, ⟨"java/lang/Math", "min", "(II)I"⟩, yX9_in, yX9_isPage, yX9_linkAnchor, yX9_anchorAt, yX9_lesser]
set_option maxRecDepth 100000 in
set_option maxHeartbeats 4000000 in
theorem slS_ok : lw_tbl.filterMap slS = slS_l := by rfl
def slI : Cond → Option (MethodName) := fun w => match w with
  | .instanceMethod y => some y
  | _ => none
def slI_l : List (MethodName) := [yX8_init, objectInit, yX4_init, yX6_init, yX7_init, yX3_init, yX1_init, yX5_init, yX2_init, yX8_put, yX8_wipe, yX8_fault, yX4_pageFault, yX4_begin, yX4_takeLine, yX4_isNext, yX4_takeHeading, yX4_take, yX4_takeBetween, yX4_takeName, yX4_takeInclude, yX4_takeElement, yX4_takeAnchor, yX4_redirectFault, yX4_takePlace, yX8_load, yX8_keepState, yX7_become, yX6_rememberSections, yX7_addEntry, yX7_entryWith, yX7_dropEntry, yX6_replaceSource, yX6_readSource, yX3_read, yX3_addLine, yX3_addHeading, yX3_addInclude, yX3_growSection, yX3_readLinks, yX6_expandAll, yX1_build, yX1_addPage, yX1_isReplaced, yX1_addHeading, yX1_headingsNamed, yX8_remove, yX7_hasSource, yX7_sources, yX8_character, yX8_about, yX8_heading, yX8_isHeading, yX1_partOf, yX8_anchor, yX8_section, yX8_cycles, yX6_includedFrom, yX8_redirect, yX8_arrowInPad, yX7_redirectFrom, yX7_addRedirect, yX8_unredirect, yX8_isRedirect, yX7_dropRedirect, yX8_redirection, yX8_usesOf, yX5_follow, yX5_wasHere, yX5_isGood, yX1_headingWith, yX5_goOn, yX5_usesOf, yX8_link, yX8_isLink, yX8_tally, yX8_linksOfKinds, yX8_reach, yX8_reachedFrom, yX8_neighboursOf, yX8_memory, yX6_sectionsWith, yX8_repair, yX8_isBroken, yX2_find, yX2_offer, yX2_offerHeadings, yX2_stepsTo, yX2_fillRow, yX8_mend, yX8_writePlace, yX6_spellTarget, yX6_writeTarget, yX8_mendAll, yX8_straighten, yX8_undo, yX6_restore, yX8_count, yX9_init, yX9_put, yX9_wipe, yX9_fault, yX9_faultOfPage, yX9_readLine, yX9_next, yX9_readHeading, yX9_isNext, yX9_readName, yX9_isSmallNext, yX9_isDigitNext, yX9_keepSign, yX9_readInclude, yX9_readLetter, yX9_readElements, yX9_readElement, yX9_readAnchor, yX9_readPlace, yX9_faultOfRedirect, yX9_readSide, yX9_undo, yX9_load, yX9_putDown, yX9_hasSource, yX9_size, yX9_remember, yX9_layAll, yX9_layOwn, yX9_lineEnd, yX9_sign, yX9_digestLine, yX9_layLinks, yX9_keepLink, yX9_keepAnchor, yX9_layExpansion, yX9_push, yX9_keepHeading, yX9_namesakes, yX9_appendSign, yX9_forget, yX9_areSameAnchors, yX9_dropEntry, yX9_linesOf, yX9_remove, yX9_sources, yX9_character, yX9_about, yX9_heading, yX9_isHeading, yX9_anchor, yX9_section, yX9_cycles, yX9_included, yX9_redirect, yX9_areSamePlaces, yX9_turns, yX9_turnAt, yX9_unredirect, yX9_isTurn, yX9_redirection, yX9_followedBy, yX9_tallyOf, yX9_resolve, yX9_wasHere, yX9_isGood, yX9_headingWith, yX9_turnFrom, yX9_go, yX9_link, yX9_isLink, yX9_tally, yX9_reach, yX9_endsOf, yX9_memory, yX9_alike, yX9_repair, yX9_isBroken, yX9_layRepair, yX9_remembered, yX9_offer, yX9_changes, yX9_isSectionWith, yX9_mend, yX9_layTarget, yX9_say, yX9_fitsTarget, yX9_writeTarget, yX9_mendAll, yX9_straighten, yX9_count, yX9_linksOfAll]
set_option maxRecDepth 100000 in
set_option maxHeartbeats 4000000 in
theorem slI_ok : lw_tbl.filterMap slI = slI_l := by rfl
def slV : Cond → Option (String × MethodName × MethodName) := fun w => match w with
  | .selects c y z => some (c, y, z)
  | _ => none
def slV_l : List (String × MethodName × MethodName) := [(yX4_begin.cls, yX4_begin, yX4_begin), (yX4_takeLine.cls, yX4_takeLine, yX4_takeLine), (yX4_isNext.cls, yX4_isNext, yX4_isNext), (yX4_takeHeading.cls, yX4_takeHeading, yX4_takeHeading), (yX4_take.cls, yX4_take, yX4_take), (yX4_takeBetween.cls, yX4_takeBetween, yX4_takeBetween), (yX4_takeName.cls, yX4_takeName, yX4_takeName), (yX4_takeInclude.cls, yX4_takeInclude, yX4_takeInclude), (yX4_takeElement.cls, yX4_takeElement, yX4_takeElement), (yX4_takeAnchor.cls, yX4_takeAnchor, yX4_takeAnchor), (yX4_takePlace.cls, yX4_takePlace, yX4_takePlace), (yX8_keepState.cls, yX8_keepState, yX8_keepState), (yX7_dropEntry.cls, yX7_dropEntry, yX7_dropEntry), (yX6_readSource.cls, yX6_readSource, yX6_readSource), (yX3_addLine.cls, yX3_addLine, yX3_addLine), (yX3_addHeading.cls, yX3_addHeading, yX3_addHeading), (yX3_addInclude.cls, yX3_addInclude, yX3_addInclude), (yX3_growSection.cls, yX3_growSection, yX3_growSection), (yX3_readLinks.cls, yX3_readLinks, yX3_readLinks), (yX6_expandAll.cls, yX6_expandAll, yX6_expandAll), (yX1_addPage.cls, yX1_addPage, yX1_addPage), (yX1_isReplaced.cls, yX1_isReplaced, yX1_isReplaced), (yX1_addHeading.cls, yX1_addHeading, yX1_addHeading), (yX1_headingsNamed.cls, yX1_headingsNamed, yX1_headingsNamed), (yX8_isHeading.cls, yX8_isHeading, yX8_isHeading), (yX8_arrowInPad.cls, yX8_arrowInPad, yX8_arrowInPad), (yX8_isRedirect.cls, yX8_isRedirect, yX8_isRedirect), (yX8_usesOf.cls, yX8_usesOf, yX8_usesOf), (yX5_wasHere.cls, yX5_wasHere, yX5_wasHere), (yX5_isGood.cls, yX5_isGood, yX5_isGood), (yX5_goOn.cls, yX5_goOn, yX5_goOn), (yX8_isLink.cls, yX8_isLink, yX8_isLink), (yX8_linksOfKinds.cls, yX8_linksOfKinds, yX8_linksOfKinds), (yX8_reachedFrom.cls, yX8_reachedFrom, yX8_reachedFrom), (yX8_neighboursOf.cls, yX8_neighboursOf, yX8_neighboursOf), (yX8_isBroken.cls, yX8_isBroken, yX8_isBroken), (yX2_offer.cls, yX2_offer, yX2_offer), (yX2_offerHeadings.cls, yX2_offerHeadings, yX2_offerHeadings), (yX2_stepsTo.cls, yX2_stepsTo, yX2_stepsTo), (yX2_fillRow.cls, yX2_fillRow, yX2_fillRow), (yX8_writePlace.cls, yX8_writePlace, yX8_writePlace), (yX9_faultOfPage.cls, yX9_faultOfPage, yX9_faultOfPage), (yX9_readLine.cls, yX9_readLine, yX9_readLine), (yX9_next.cls, yX9_next, yX9_next), (yX9_readHeading.cls, yX9_readHeading, yX9_readHeading), (yX9_isNext.cls, yX9_isNext, yX9_isNext), (yX9_readName.cls, yX9_readName, yX9_readName), (yX9_isSmallNext.cls, yX9_isSmallNext, yX9_isSmallNext), (yX9_isDigitNext.cls, yX9_isDigitNext, yX9_isDigitNext), (yX9_keepSign.cls, yX9_keepSign, yX9_keepSign), (yX9_readInclude.cls, yX9_readInclude, yX9_readInclude), (yX9_readLetter.cls, yX9_readLetter, yX9_readLetter), (yX9_readElements.cls, yX9_readElements, yX9_readElements), (yX9_readElement.cls, yX9_readElement, yX9_readElement), (yX9_readAnchor.cls, yX9_readAnchor, yX9_readAnchor), (yX9_readPlace.cls, yX9_readPlace, yX9_readPlace), (yX9_faultOfRedirect.cls, yX9_faultOfRedirect, yX9_faultOfRedirect), (yX9_readSide.cls, yX9_readSide, yX9_readSide), (yX9_putDown.cls, yX9_putDown, yX9_putDown), (yX9_hasSource.cls, yX9_hasSource, yX9_hasSource), (yX9_size.cls, yX9_size, yX9_size), (yX9_remember.cls, yX9_remember, yX9_remember), (yX9_layAll.cls, yX9_layAll, yX9_layAll), (yX9_layOwn.cls, yX9_layOwn, yX9_layOwn), (yX9_lineEnd.cls, yX9_lineEnd, yX9_lineEnd), (yX9_sign.cls, yX9_sign, yX9_sign), (yX9_digestLine.cls, yX9_digestLine, yX9_digestLine), (yX9_layLinks.cls, yX9_layLinks, yX9_layLinks), (yX9_keepLink.cls, yX9_keepLink, yX9_keepLink), (yX9_keepAnchor.cls, yX9_keepAnchor, yX9_keepAnchor), (yX9_layExpansion.cls, yX9_layExpansion, yX9_layExpansion), (yX9_push.cls, yX9_push, yX9_push), (yX9_keepHeading.cls, yX9_keepHeading, yX9_keepHeading), (yX9_namesakes.cls, yX9_namesakes, yX9_namesakes), (yX9_appendSign.cls, yX9_appendSign, yX9_appendSign), (yX9_forget.cls, yX9_forget, yX9_forget), (yX9_areSameAnchors.cls, yX9_areSameAnchors, yX9_areSameAnchors), (yX9_dropEntry.cls, yX9_dropEntry, yX9_dropEntry), (yX9_linesOf.cls, yX9_linesOf, yX9_linesOf), (yX9_sources.cls, yX9_sources, yX9_sources), (yX9_isHeading.cls, yX9_isHeading, yX9_isHeading), (yX9_included.cls, yX9_included, yX9_included), (yX9_areSamePlaces.cls, yX9_areSamePlaces, yX9_areSamePlaces), (yX9_turns.cls, yX9_turns, yX9_turns), (yX9_turnAt.cls, yX9_turnAt, yX9_turnAt), (yX9_isTurn.cls, yX9_isTurn, yX9_isTurn), (yX9_followedBy.cls, yX9_followedBy, yX9_followedBy), (yX9_tallyOf.cls, yX9_tallyOf, yX9_tallyOf), (yX9_resolve.cls, yX9_resolve, yX9_resolve), (yX9_wasHere.cls, yX9_wasHere, yX9_wasHere), (yX9_isGood.cls, yX9_isGood, yX9_isGood), (yX9_headingWith.cls, yX9_headingWith, yX9_headingWith), (yX9_turnFrom.cls, yX9_turnFrom, yX9_turnFrom), (yX9_go.cls, yX9_go, yX9_go), (yX9_isLink.cls, yX9_isLink, yX9_isLink), (yX9_endsOf.cls, yX9_endsOf, yX9_endsOf), (yX9_alike.cls, yX9_alike, yX9_alike), (yX9_isBroken.cls, yX9_isBroken, yX9_isBroken), (yX9_layRepair.cls, yX9_layRepair, yX9_layRepair), (yX9_remembered.cls, yX9_remembered, yX9_remembered), (yX9_offer.cls, yX9_offer, yX9_offer), (yX9_changes.cls, yX9_changes, yX9_changes), (yX9_isSectionWith.cls, yX9_isSectionWith, yX9_isSectionWith), (yX9_layTarget.cls, yX9_layTarget, yX9_layTarget), (yX9_say.cls, yX9_say, yX9_say), (yX9_fitsTarget.cls, yX9_fitsTarget, yX9_fitsTarget), (yX9_writeTarget.cls, yX9_writeTarget, yX9_writeTarget), (yX9_linksOfAll.cls, yX9_linksOfAll, yX9_linksOfAll), (yX8_put.cls, yX8_put, yX8_put), (yX8_wipe.cls, yX8_wipe, yX8_wipe), (yX8_fault.cls, yX8_fault, yX8_fault), (yX4_pageFault.cls, yX4_pageFault, yX4_pageFault), (yX4_redirectFault.cls, yX4_redirectFault, yX4_redirectFault), (yX8_load.cls, yX8_load, yX8_load), (yX7_become.cls, yX7_become, yX7_become), (yX6_rememberSections.cls, yX6_rememberSections, yX6_rememberSections), (yX7_addEntry.cls, yX7_addEntry, yX7_addEntry), (yX7_entryWith.cls, yX7_entryWith, yX7_entryWith), (yX6_replaceSource.cls, yX6_replaceSource, yX6_replaceSource), (yX3_read.cls, yX3_read, yX3_read), (yX1_build.cls, yX1_build, yX1_build), (yX8_remove.cls, yX8_remove, yX8_remove), (yX7_hasSource.cls, yX7_hasSource, yX7_hasSource), (yX7_sources.cls, yX7_sources, yX7_sources), (yX8_character.cls, yX8_character, yX8_character), (yX8_about.cls, yX8_about, yX8_about), (yX8_heading.cls, yX8_heading, yX8_heading), (yX1_partOf.cls, yX1_partOf, yX1_partOf), (yX8_anchor.cls, yX8_anchor, yX8_anchor), (yX8_section.cls, yX8_section, yX8_section), (yX8_cycles.cls, yX8_cycles, yX8_cycles), (yX6_includedFrom.cls, yX6_includedFrom, yX6_includedFrom), (yX8_redirect.cls, yX8_redirect, yX8_redirect), (yX7_redirectFrom.cls, yX7_redirectFrom, yX7_redirectFrom), (yX7_addRedirect.cls, yX7_addRedirect, yX7_addRedirect), (yX8_unredirect.cls, yX8_unredirect, yX8_unredirect), (yX7_dropRedirect.cls, yX7_dropRedirect, yX7_dropRedirect), (yX8_redirection.cls, yX8_redirection, yX8_redirection), (yX5_follow.cls, yX5_follow, yX5_follow), (yX1_headingWith.cls, yX1_headingWith, yX1_headingWith), (yX5_usesOf.cls, yX5_usesOf, yX5_usesOf), (yX8_link.cls, yX8_link, yX8_link), (yX8_tally.cls, yX8_tally, yX8_tally), (yX8_reach.cls, yX8_reach, yX8_reach), (yX8_memory.cls, yX8_memory, yX8_memory), (yX6_sectionsWith.cls, yX6_sectionsWith, yX6_sectionsWith), (yX8_repair.cls, yX8_repair, yX8_repair), (yX2_find.cls, yX2_find, yX2_find), (yX8_mend.cls, yX8_mend, yX8_mend), (yX6_spellTarget.cls, yX6_spellTarget, yX6_spellTarget), (yX6_writeTarget.cls, yX6_writeTarget, yX6_writeTarget), (yX8_mendAll.cls, yX8_mendAll, yX8_mendAll), (yX8_straighten.cls, yX8_straighten, yX8_straighten), (yX8_undo.cls, yX8_undo, yX8_undo), (yX6_restore.cls, yX6_restore, yX6_restore), (yX8_count.cls, yX8_count, yX8_count), (yX9_put.cls, yX9_put, yX9_put), (yX9_wipe.cls, yX9_wipe, yX9_wipe), (yX9_fault.cls, yX9_fault, yX9_fault), (yX9_undo.cls, yX9_undo, yX9_undo), (yX9_load.cls, yX9_load, yX9_load), (yX9_remove.cls, yX9_remove, yX9_remove), (yX9_character.cls, yX9_character, yX9_character), (yX9_about.cls, yX9_about, yX9_about), (yX9_heading.cls, yX9_heading, yX9_heading), (yX9_anchor.cls, yX9_anchor, yX9_anchor), (yX9_section.cls, yX9_section, yX9_section), (yX9_cycles.cls, yX9_cycles, yX9_cycles), (yX9_redirect.cls, yX9_redirect, yX9_redirect), (yX9_unredirect.cls, yX9_unredirect, yX9_unredirect), (yX9_redirection.cls, yX9_redirection, yX9_redirection), (yX9_link.cls, yX9_link, yX9_link), (yX9_tally.cls, yX9_tally, yX9_tally), (yX9_reach.cls, yX9_reach, yX9_reach), (yX9_memory.cls, yX9_memory, yX9_memory), (yX9_repair.cls, yX9_repair, yX9_repair), (yX9_mend.cls, yX9_mend, yX9_mend), (yX9_mendAll.cls, yX9_mendAll, yX9_mendAll), (yX9_straighten.cls, yX9_straighten, yX9_straighten), (yX9_count.cls, yX9_count, yX9_count)]
set_option maxRecDepth 100000 in
set_option maxHeartbeats 4000000 in
theorem slV_ok : lw_tbl.filterMap slV = slV_l := by rfl
def slN : Cond → Option (String) := fun w => match w with
  | .initialized c => some c
  | _ => none
def slN_l : List (String) := ["LinkAuditorLaw", RX8, RX4, RX6, RX7, RX3, RX1, RX5, RX2, RX9, "java/lang/System", RX0, "java/lang/Math"]
set_option maxRecDepth 100000 in
set_option maxHeartbeats 4000000 in
theorem slN_ok : lw_tbl.filterMap slN = slN_l := by rfl
def slM : Cond → Option (String × Nat × MethodName) := fun w => match w with
  | .methodLink o i y => some (o, i, y)
  | _ => none
def slM_l : List (String × Nat × MethodName) := [("LinkAuditorLaw", 9, yX8_init), (RX8, 3, objectInit), (RX4, 3, objectInit), (RX8, 38, yX6_init), (RX6, 3, objectInit), (RX7, 3, objectInit), (RX6, 38, yX3_init), (RX3, 3, objectInit), (RX1, 3, objectInit), (RX8, 45, yX5_init), (RX5, 3, objectInit), (RX8, 54, yX2_init), (RX2, 3, objectInit), ("LinkAuditorLaw", 15, yX8_put), (RX8, 59, yX8_charactersIn), ("LinkAuditorLaw", 20, yX8_wipe), ("LinkAuditorLaw", 25, yX8_fault), (RX8, 65, yX4_pageFault), (RX4, 22, yX4_begin), (RX4, 26, yX4_takeLine), (RX4, 41, yX4_isNext), (RX4, 44, yX4_takeHeading), (RX4, 30, yX4_take), (RX4, 37, yX4_takeBetween), (RX4, 53, yX4_takeName), (RX4, 47, yX4_takeInclude), (RX4, 50, yX4_takeElement), (RX4, 56, yX4_takeAnchor), (RX8, 69, yX4_redirectFault), (RX4, 34, yX4_takePlace), ("LinkAuditorLaw", 30, yX8_load), (RX8, 72, yX8_isPage), (RX8, 76, yX8_keepState), (RX8, 304, yX7_become), (RX7, 48, ⟨"java/lang/System", "arraycopy", "(Ljava/lang/Object;ILjava/lang/Object;II)V"⟩), (RX8, 79, yX6_rememberSections), (RX6, 89, yX7_addEntry), (RX7, 58, yX7_entryWith), (RX7, 62, yX7_dropEntry), (RX8, 83, yX6_replaceSource), (RX6, 45, ⟨"java/lang/System", "arraycopy", "(Ljava/lang/Object;ILjava/lang/Object;II)V"⟩), (RX6, 55, yX6_readSource), (RX6, 65, yX3_read), (RX3, 62, yX0_indexOf), (RX3, 68, yX3_addLine), (RX3, 75, yX3_addHeading), (RX3, 84, yX0_nameIn), (RX3, 78, yX3_addInclude), (RX3, 81, yX3_growSection), (RX3, 72, yX3_readLinks), (RX3, 88, yX0_placeAnchor), (RX0, 9, yX0_indexOf), (RX0, 15, yX0_nameIn), (RX0, 19, yX0_numbered), (RX6, 58, yX6_expandAll), (RX6, 69, yX1_build), (RX1, 49, yX1_addPage), (RX1, 60, yX1_isReplaced), (RX1, 70, yX1_addHeading), (RX1, 78, yX1_headingsNamed), (RX1, 88, yX0_nameOf), (RX1, 82, yX0_numbered), ("LinkAuditorLaw", 34, yX8_remove), (RX8, 100, yX7_hasSource), (RX8, 103, yX7_sources), (RX7, 54, yX7_hasSource), ("LinkAuditorLaw", 38, yX8_character), ("LinkAuditorLaw", 43, yX8_about), ("LinkAuditorLaw", 47, yX8_heading), (RX8, 139, yX8_isHeading), (RX8, 153, yX0_spell), (RX0, 23, yX0_nameOf), (RX0, 31, yX0_spellNumber), (RX8, 159, yX1_partOf), ("LinkAuditorLaw", 52, yX8_anchor), ("LinkAuditorLaw", 56, yX8_section), ("LinkAuditorLaw", 60, yX8_cycles), (RX8, 172, yX6_includedFrom), (RX8, 176, yX8_isIn), ("LinkAuditorLaw", 64, yX8_redirect), (RX8, 179, yX8_arrowInPad), (RX8, 182, yX0_placeAnchor), (RX8, 186, yX7_redirectFrom), (RX8, 193, yX7_addRedirect), ("LinkAuditorLaw", 68, yX8_unredirect), (RX8, 197, yX8_isRedirect), (RX8, 200, yX7_dropRedirect), ("LinkAuditorLaw", 72, yX8_redirection), (RX8, 215, yX8_usesOf), (RX8, 221, yX5_follow), (RX5, 51, yX5_wasHere), (RX5, 55, yX5_isGood), (RX5, 67, yX7_hasSource), (RX5, 77, yX1_headingWith), (RX5, 58, yX5_goOn), (RX5, 83, yX7_redirectFrom), (RX8, 291, yX5_usesOf), ("LinkAuditorLaw", 76, yX8_link), (RX8, 218, yX8_isLink), ("LinkAuditorLaw", 80, yX8_tally), (RX8, 243, yX8_linksOfKinds), ("LinkAuditorLaw", 84, yX8_reach), (RX8, 246, yX8_reachedFrom), (RX8, 292, yX8_neighboursOf), ("LinkAuditorLaw", 88, yX8_memory), (RX8, 261, yX6_sectionsWith), ("LinkAuditorLaw", 92, yX8_repair), (RX8, 264, yX8_isBroken), (RX8, 267, yX2_find), (RX2, 55, yX0_spell), (RX2, 67, yX7_entryWith), (RX2, 76, yX7_hasSource), (RX2, 80, ⟨"java/lang/Math", "abs", "(I)I"⟩), (RX2, 86, yX2_offer), (RX2, 90, yX2_offerHeadings), (RX2, 115, yX2_stepsTo), (RX2, 119, yX2_fillRow), (RX2, 123, ⟨"java/lang/Math", "min", "(II)I"⟩), ("LinkAuditorLaw", 96, yX8_mend), (RX8, 278, yX8_writePlace), (RX8, 295, yX6_spellTarget), (RX6, 100, yX0_spell), (RX8, 299, yX6_writeTarget), ("LinkAuditorLaw", 100, yX8_mendAll), ("LinkAuditorLaw", 104, yX8_straighten), ("LinkAuditorLaw", 108, yX8_undo), (RX8, 283, yX6_restore), (RX6, 61, yX7_become), ("LinkAuditorLaw", 112, yX8_count), ("LinkAuditorLaw", 12, yX9_init), (RX9, 1, objectInit), ("LinkAuditorLaw", 19, yX9_put), (RX9, 106, yX9_in), ("LinkAuditorLaw", 24, yX9_wipe), ("LinkAuditorLaw", 29, yX9_fault), (RX9, 171, yX9_faultOfPage), (RX9, 165, yX9_readLine), (RX9, 123, yX9_next), (RX9, 156, yX9_readHeading), (RX9, 143, yX9_isNext), (RX9, 137, yX9_readName), (RX9, 127, yX9_isSmallNext), (RX9, 131, yX9_isDigitNext), (RX9, 134, yX9_keepSign), (RX9, 159, yX9_readInclude), (RX9, 140, yX9_readLetter), (RX9, 162, yX9_readElements), (RX9, 153, yX9_readElement), (RX9, 147, yX9_readAnchor), (RX9, 150, yX9_readPlace), (RX9, 174, yX9_faultOfRedirect), (RX9, 168, yX9_readSide), ("LinkAuditorLaw", 111, yX9_undo), ("LinkAuditorLaw", 33, yX9_load), (RX9, 206, yX9_isPage), (RX9, 209, yX9_putDown), (RX9, 212, yX9_hasSource), (RX9, 110, yX9_size), (RX9, 215, yX9_remember), (RX9, 184, yX9_layAll), (RX9, 267, yX9_layOwn), (RX9, 236, yX9_lineEnd), (RX9, 203, yX9_sign), (RX9, 239, yX9_digestLine), (RX9, 242, yX9_layLinks), (RX9, 231, yX9_keepLink), (RX9, 224, yX9_linkAnchor), (RX9, 227, yX9_keepAnchor), (RX9, 270, yX9_layExpansion), (RX9, 260, yX9_push), (RX9, 263, yX9_keepHeading), (RX9, 187, yX9_anchorAt), (RX9, 251, yX9_namesakes), (RX9, 254, yX9_appendSign), (RX9, 191, yX9_forget), (RX9, 199, yX9_areSameAnchors), (RX9, 195, yX9_dropEntry), (RX9, 218, yX9_linesOf), ("LinkAuditorLaw", 37, yX9_remove), (RX9, 221, yX9_sources), ("LinkAuditorLaw", 42, yX9_character), ("LinkAuditorLaw", 46, yX9_about), ("LinkAuditorLaw", 51, yX9_heading), (RX9, 273, yX9_isHeading), ("LinkAuditorLaw", 55, yX9_anchor), ("LinkAuditorLaw", 59, yX9_section), ("LinkAuditorLaw", 63, yX9_cycles), (RX9, 277, yX9_included), ("LinkAuditorLaw", 67, yX9_redirect), (RX9, 280, yX9_areSamePlaces), (RX9, 283, yX9_turns), (RX9, 286, yX9_turnAt), ("LinkAuditorLaw", 71, yX9_unredirect), (RX9, 289, yX9_isTurn), ("LinkAuditorLaw", 75, yX9_redirection), (RX9, 292, yX9_followedBy), (RX9, 328, yX9_tallyOf), (RX9, 325, yX9_resolve), (RX9, 308, yX9_wasHere), (RX9, 311, yX9_isGood), (RX9, 301, yX9_headingWith), (RX9, 314, yX9_turnFrom), (RX9, 318, yX9_go), ("LinkAuditorLaw", 79, yX9_link), (RX9, 322, yX9_isLink), ("LinkAuditorLaw", 83, yX9_tally), ("LinkAuditorLaw", 87, yX9_reach), (RX9, 331, yX9_endsOf), ("LinkAuditorLaw", 91, yX9_memory), (RX9, 334, yX9_alike), ("LinkAuditorLaw", 95, yX9_repair), (RX9, 361, yX9_isBroken), (RX9, 364, yX9_layRepair), (RX9, 349, yX9_remembered), (RX9, 352, yX9_offer), (RX9, 355, yX9_changes), (RX9, 337, yX9_lesser), (RX9, 358, yX9_isSectionWith), ("LinkAuditorLaw", 99, yX9_mend), (RX9, 373, yX9_layTarget), (RX9, 370, yX9_say), (RX9, 376, yX9_fitsTarget), (RX9, 379, yX9_writeTarget), ("LinkAuditorLaw", 103, yX9_mendAll), ("LinkAuditorLaw", 107, yX9_straighten), ("LinkAuditorLaw", 115, yX9_count), (RX9, 382, yX9_linksOfAll)]
set_option maxRecDepth 100000 in
set_option maxHeartbeats 4000000 in
theorem slM_ok : lw_tbl.filterMap slM = slM_l := by rfl
def slH : Cond → Option (String × Nat × MethodName × String) := fun w => match w with
  | .methodLinkNest o i y h => some (o, i, y, h)
  | _ => none
def slH_l : List (String × Nat × MethodName × String) := [(RX8, 31, yX4_init, RX8), (RX6, 11, yX7_init, RX8), (RX6, 41, yX1_init, RX8), (RX8, 303, yX7_init, RX8), (RX1, 74, yX8_isIn, RX8), (RX6, 96, yX8_isIn, RX8)]
set_option maxRecDepth 100000 in
set_option maxHeartbeats 4000000 in
theorem slH_ok : lw_tbl.filterMap slH = slH_l := by rfl
def slF : Cond → Option (String × Nat × String × String × String) := fun w => match w with
  | .fieldLink o i r n d => some (o, i, r, n, d)
  | _ => none
def slF_l : List (String × Nat × String × String × String) := [(RX4, 9, RX4, "text", "[C"), (RX4, 15, RX4, "length", "I"), (RX4, 19, RX4, "at", "I"), (RX7, 9, RX7, "text", "[C"), (RX6, 42, RX7, "text", "[C"), (RX8, 111, RX7, "text", "[C"), (RX7, 15, RX7, "length", "[I"), (RX6, 51, RX7, "length", "[I"), (RX8, 107, RX7, "length", "[I"), (RX7, 19, RX7, "redirects", "I"), (RX8, 190, RX7, "redirects", "I"), (RX7, 23, RX7, "fromPage", "[I"), (RX8, 203, RX7, "fromPage", "[I"), (RX7, 26, RX7, "fromAnchor", "[J"), (RX8, 206, RX7, "fromAnchor", "[J"), (RX7, 30, RX7, "toPage", "[I"), (RX5, 87, RX7, "toPage", "[I"), (RX8, 209, RX7, "toPage", "[I"), (RX7, 33, RX7, "toAnchor", "[J"), (RX5, 90, RX7, "toAnchor", "[J"), (RX8, 212, RX7, "toAnchor", "[J"), (RX7, 36, RX7, "entries", "I"), (RX8, 249, RX7, "entries", "I"), (RX7, 39, RX7, "entryPage", "[I"), (RX8, 252, RX7, "entryPage", "[I"), (RX7, 42, RX7, "entryAnchor", "[J"), (RX8, 258, RX7, "entryAnchor", "[J"), (RX7, 45, RX7, "entryDigest", "[I"), (RX2, 73, RX7, "entryDigest", "[I"), (RX8, 255, RX7, "entryDigest", "[I"), (RX3, 59, RX3, "own", "I"), (RX3, 9, RX3, "lines", "I"), (RX1, 53, RX3, "lines", "I"), (RX8, 91, RX3, "lines", "I"), (RX3, 15, RX3, "kind", "[I"), (RX1, 54, RX3, "kind", "[I"), (RX3, 19, RX3, "name", "[J"), (RX1, 67, RX3, "name", "[J"), (RX3, 23, RX3, "target", "[I"), (RX1, 57, RX3, "target", "[I"), (RX3, 26, RX3, "shift", "[I"), (RX1, 64, RX3, "shift", "[I"), (RX3, 29, RX3, "includes", "I"), (RX8, 130, RX3, "includes", "I"), (RX3, 32, RX3, "included", "I"), (RX6, 93, RX3, "included", "I"), (RX8, 133, RX3, "included", "I"), (RX3, 35, RX3, "links", "I"), (RX8, 127, RX3, "links", "I"), (RX3, 38, RX3, "linkPage", "[I"), (RX2, 46, RX3, "linkPage", "[I"), (RX5, 43, RX3, "linkPage", "[I"), (RX8, 228, RX3, "linkPage", "[I"), (RX3, 41, RX3, "linkAnchor", "[J"), (RX2, 51, RX3, "linkAnchor", "[J"), (RX5, 48, RX3, "linkAnchor", "[J"), (RX8, 231, RX3, "linkAnchor", "[J"), (RX3, 44, RX3, "linkFrom", "[I"), (RX6, 109, RX3, "linkFrom", "[I"), (RX3, 47, RX3, "linkTo", "[I"), (RX6, 106, RX3, "linkTo", "[I"), (RX3, 50, RX3, "sections", "I"), (RX1, 44, RX3, "sections", "I"), (RX6, 73, RX3, "sections", "I"), (RX8, 124, RX3, "sections", "I"), (RX3, 53, RX3, "sectionLines", "[I"), (RX6, 79, RX3, "sectionLines", "[I"), (RX8, 169, RX3, "sectionLines", "[I"), (RX3, 56, RX3, "digest", "[I"), (RX2, 112, RX3, "digest", "[I"), (RX6, 86, RX3, "digest", "[I"), (RX8, 163, RX3, "digest", "[I"), (RX1, 9, RX1, "lines", "I"), (RX8, 118, RX1, "lines", "I"), (RX1, 15, RX1, "origins", "I"), (RX8, 136, RX1, "origins", "I"), (RX1, 18, RX1, "headings", "I"), (RX2, 98, RX1, "headings", "I"), (RX8, 121, RX1, "headings", "I"), (RX1, 21, RX1, "level", "[I"), (RX8, 143, RX1, "level", "[I"), (RX1, 25, RX1, "origin", "[I"), (RX8, 146, RX1, "origin", "[I"), (RX1, 28, RX1, "anchor", "[J"), (RX2, 103, RX1, "anchor", "[J"), (RX6, 82, RX1, "anchor", "[J"), (RX8, 149, RX1, "anchor", "[J"), (RX1, 32, RX1, "sectionOf", "[I"), (RX2, 105, RX1, "sectionOf", "[I"), (RX1, 35, RX1, "headingOf", "[I"), (RX6, 76, RX1, "headingOf", "[I"), (RX8, 166, RX1, "headingOf", "[I"), (RX1, 38, RX1, "replaced", "I"), (RX1, 41, RX1, "underWay", "I"), (RX6, 12, RX6, "now", "LLinkAuditor$State;"), (RX2, 61, RX6, "now", "LLinkAuditor$State;"), (RX5, 61, RX6, "now", "LLinkAuditor$State;"), (RX8, 96, RX6, "now", "LLinkAuditor$State;"), (RX6, 20, RX6, "outlines", "[LLinkAuditor$Outline;"), (RX2, 108, RX6, "outlines", "[LLinkAuditor$Outline;"), (RX8, 87, RX6, "outlines", "[LLinkAuditor$Outline;"), (RX6, 26, RX6, "expansions", "[LLinkAuditor$Expansion;"), (RX2, 94, RX6, "expansions", "[LLinkAuditor$Expansion;"), (RX5, 73, RX6, "expansions", "[LLinkAuditor$Expansion;"), (RX8, 114, RX6, "expansions", "[LLinkAuditor$Expansion;"), (RX6, 30, RX6, "target", "[C"), (RX6, 34, RX6, "targetLength", "I"), (RX5, 39, RX5, "site", "LLinkAuditor$Site;"), (RX5, 9, RX5, "kind", "I"), (RX8, 225, RX5, "kind", "I"), (RX5, 15, RX5, "page", "I"), (RX8, 237, RX5, "page", "I"), (RX5, 18, RX5, "anchor", "J"), (RX8, 282, RX5, "anchor", "J"), (RX5, 22, RX5, "heading", "I"), (RX8, 240, RX5, "heading", "I"), (RX5, 25, RX5, "followed", "I"), (RX8, 234, RX5, "followed", "I"), (RX5, 28, RX5, "pageAt", "[I"), (RX5, 32, RX5, "anchorAt", "[J"), (RX5, 36, RX5, "redirectAt", "[I"), (RX2, 42, RX2, "site", "LLinkAuditor$Site;"), (RX2, 11, RX2, "cost", "I"), (RX8, 270, RX2, "cost", "I"), (RX2, 15, RX2, "page", "I"), (RX8, 273, RX2, "page", "I"), (RX2, 18, RX2, "heading", "I"), (RX8, 274, RX2, "heading", "I"), (RX2, 21, RX2, "anchor", "J"), (RX8, 275, RX2, "anchor", "J"), (RX2, 25, RX2, "wanted", "J"), (RX2, 28, RX2, "wantedText", "[C"), (RX2, 32, RX2, "wantedLength", "I"), (RX2, 35, RX2, "triedText", "[C"), (RX2, 38, RX2, "row", "[I"), (RX8, 9, RX8, "pad", "[C"), (RX8, 22, RX8, "padLength", "I"), (RX8, 32, RX8, "reader", "LLinkAuditor$Reader;"), (RX8, 39, RX8, "site", "LLinkAuditor$Site;"), (RX8, 48, RX8, "route", "LLinkAuditor$Route;"), (RX8, 55, RX8, "mender", "LLinkAuditor$Mender;"), (RX8, 15, RX8, "history", "[LLinkAuditor$State;"), (RX8, 26, RX8, "changes", "I"), (RX8, 19, RX8, "spelling", "[C"), (RX9, 7, RX9, "pad", "[I"), (RX9, 116, RX9, "padMany", "I"), (RX9, 13, RX9, "all", "[I"), (RX9, 16, RX9, "undone", "[I"), (RX9, 177, RX9, "undos", "I"), (RX9, 180, RX9, "isLaid", "Z"), (RX9, 120, RX9, "at", "I"), (RX9, 19, RX9, "read", "[I"), (RX9, 22, RX9, "turn", "[I"), (RX9, 25, RX9, "lineMany", "[I"), (RX9, 28, RX9, "linePages", "[I"), (RX9, 31, RX9, "headingMany", "[I"), (RX9, 34, RX9, "headingLevel", "[I"), (RX9, 37, RX9, "headingPage", "[I"), (RX9, 40, RX9, "headingParts", "[I"), (RX9, 43, RX9, "anchors", "[I"), (RX9, 46, RX9, "names", "[I"), (RX9, 49, RX9, "sectionMany", "[I"), (RX9, 52, RX9, "sectionDigest", "[I"), (RX9, 55, RX9, "sectionHeading", "[I"), (RX9, 58, RX9, "sectionLines", "[I"), (RX9, 61, RX9, "includeMany", "[I"), (RX9, 64, RX9, "includes", "[I"), (RX9, 67, RX9, "linkMany", "[I"), (RX9, 70, RX9, "linkFrom", "[I"), (RX9, 73, RX9, "linkTo", "[I"), (RX9, 76, RX9, "linkPage", "[I"), (RX9, 79, RX9, "pilePage", "[I"), (RX9, 82, RX9, "pileAt", "[I"), (RX9, 85, RX9, "pileAdd", "[I"), (RX9, 245, RX9, "piled", "I"), (RX9, 248, RX9, "under", "I"), (RX9, 88, RX9, "counters", "[I"), (RX9, 257, RX9, "ownHeadings", "I"), (RX9, 91, RX9, "way", "[I"), (RX9, 295, RX9, "steps", "I"), (RX9, 305, RX9, "how", "I"), (RX9, 298, RX9, "endHeading", "I"), (RX9, 94, RX9, "followed", "[I"), (RX9, 340, RX9, "best", "I"), (RX9, 343, RX9, "bestPage", "I"), (RX9, 346, RX9, "bestHeading", "I"), (RX9, 97, RX9, "edits", "[I"), (RX9, 100, RX9, "target", "[I"), (RX9, 367, RX9, "targetMany", "I"), (RX9, 103, RX9, "rest", "[I")]
set_option maxRecDepth 100000 in
set_option maxHeartbeats 4000000 in
theorem slF_ok : lw_tbl.filterMap slF = slF_l := by rfl
def slK : Cond → Option (String × Nat × String) := fun w => match w with
  | .classLink o i c => some (o, i, c)
  | _ => none
def slK_l : List (String × Nat × String) := [("LinkAuditorLaw", 7, RX8), (RX8, 13, RX7), (RX8, 29, RX4), (RX8, 36, RX6), (RX6, 9, RX7), (RX6, 18, RX3), (RX6, 24, RX1), (RX8, 43, RX5), (RX8, 52, RX2), ("LinkAuditorLaw", 10, RX9)]
set_option maxRecDepth 100000 in
set_option maxHeartbeats 4000000 in
theorem slK_ok : lw_tbl.filterMap slK = slK_l := by rfl
def slX : Cond → Option (String × Nat × Int32) := fun w => match w with
  | .constant o i v => some (o, i, v)
  | _ => none
def slX_l : List (String × Nat × Int32) := [(RX3, 91, 1000003), (RX9, 235, 1000003)]
set_option maxRecDepth 100000 in
set_option maxHeartbeats 4000000 in
theorem slX_ok : lw_tbl.filterMap slX = slX_l := by rfl
def slY : Cond → Option (String × Nat × Int64) := fun w => match w with
  | .constantLong o i v => some (o, i, v)
  | _ => none
def slY_l : List (String × Nat × Int64) := [(RX8, 63, 255), (RX8, 287, 33), (RX8, 289, 126), (RX0, 27, 63), (RX0, 29, 127), (RX9, 114, 255), ("LinkAuditorLaw", 13, 4294967295)]
set_option maxRecDepth 100000 in
set_option maxHeartbeats 4000000 in
theorem slY_ok : lw_tbl.filterMap slY = slY_l := by rfl
def slA : Cond → Option (FieldType) := fun w => match w with
  | .arrayClass t => some t
  | _ => none
def slA_l : List (FieldType) := [.char, .int, .long]
set_option maxRecDepth 100000 in
set_option maxHeartbeats 4000000 in
theorem slA_ok : lw_tbl.filterMap slA = slA_l := by rfl
def slZ : Cond → Option (String × Nat) := fun w => match w with
  | .instantiable c n => some (c, n)
  | _ => none
def slZ_l : List (String × Nat) := [(RX8, 9), (RX4, 3), (RX6, 5), (RX7, 11), (RX3, 16), (RX1, 10), (RX5, 9), (RX2, 10), (RX9, 46)]
set_option maxRecDepth 100000 in
set_option maxHeartbeats 4000000 in
theorem slZ_ok : lw_tbl.filterMap slZ = slZ_l := by rfl
def slO : Cond → Option (FieldType) := fun w => match w with
  | .arrayOver t => some t
  | _ => none
def slO_l : List (FieldType) := [.object RX7, .object RX3, .object RX1]
set_option maxRecDepth 100000 in
set_option maxHeartbeats 4000000 in
theorem slO_ok : lw_tbl.filterMap slO = slO_l := by rfl
end
section
/-! the tables of part 02 are what the Statement's tables say: each by a program that the kernel runs -/
def jmp (pc : Nat) (off : Int) : Nat := ((pc : Int) + off).toNat
def jpos (pc : Nat) (off : Int) : Bool := decide (0 ≤ (pc : Int) + off)
def lnOk (pc : Nat) (i : Instr) (n : Nat) : Bool := match i with
  | .tableswitch d lo hi offs => jpos pc d && offs.toList.all (jpos pc) && decide (hi = lo + offs.toList.length - 1) && decide (-1000 ≤ lo) && decide (hi ≤ 1000)
  | .lookupswitch d ps => jpos pc d && ps.toList.all (fun q => jpos pc q.2 && decide (-1000000 ≤ q.1) && decide (q.1 ≤ 1000000)) && (ps.toList.zip (ps.toList.drop 1)).all (fun (a, next) => a.1 < next.1)
  | .goto o => jpos pc o && n == 3
  | .ifCond _ o => jpos pc o && n == 3
  | .if_icmp _ o => jpos pc o && n == 3
  | .ifnonnull o => jpos pc o && n == 3
  | .ifnull o => jpos pc o && n == 3
  | .bipush _ => n == 2
  | .sipush _ => n == 3
  | .iload _ => n == 2
  | .lload _ => n == 2
  | .aload _ => n == 2
  | .istore _ => n == 2
  | .lstore _ => n == 2
  | .astore _ => n == 2
  | .iinc _ _ => n == 3
  | .getfield _ => n == 3
  | .putfield _ => n == 3
  | .invokevirtual _ => n == 3
  | .invokestatic _ => n == 3
  | .invokespecial _ => n == 3
  | .new _ => n == 3
  | .newarray _ => n == 2
  | .anewarray _ => n == 3
  | .ldc _ => n == 2
  | .ldc2_w _ => n == 3
  | _ => n == 1
def dchk (cc : ByteArray) (tb : List (Nat × Instr × Nat)) : Bool := tb.all fun q => decide (decode cc q.1 = .ok (q.2.1, q.2.2)) && lnOk q.1 q.2.1 q.2.2
def mchk (e : MEnt) : Bool := dchk e.2.1 e.2.2.2.2.2 && plainName e.1.cls && decide (e.2.2.1 ≤ 12) && decide (e.1.cls ≠ "java/lang/invoke/MethodHandle") && decide (e.1.cls ≠ "java/lang/invoke/VarHandle")
theorem mch_0 : MT_0.all mchk = true := by decide +kernel
theorem mch_1 : MT_1.all mchk = true := by decide +kernel
theorem mch_2 : MT_2.all mchk = true := by decide +kernel
theorem mch_3 : MT_3.all mchk = true := by decide +kernel
theorem mch_4 : MT_4.all mchk = true := by decide +kernel
theorem mch_5 : MT_5.all mchk = true := by decide +kernel
theorem mch_6 : MT_6.all mchk = true := by decide +kernel
theorem mch_7 : MT_7.all mchk = true := by decide +kernel
theorem mch_8 : MT_8.all mchk = true := by decide +kernel
theorem mch_9 : MT_9.all mchk = true := by decide +kernel
theorem mch_10 : MT_10.all mchk = true := by decide +kernel
theorem mch_11 : MT_11.all mchk = true := by decide +kernel
theorem mch_12 : MT_12.all mchk = true := by decide +kernel
theorem mch : ∀ e ∈ MT, mchk e = true := by
  have h : MT.all mchk = true := by
    simp only [MT, List.all_append, mch_0, mch_1, mch_2, mch_3, mch_4, mch_5, mch_6, mch_7, mch_8, mch_9, mch_10, mch_11, mch_12, Bool.and_self]
  exact List.all_eq_true.mp h
theorem mcl_0 : dchk code tbl_0 = true := by decide +kernel
theorem mcl_1 : dchk code tbl_1 = true := by decide +kernel
theorem mcl_2 : dchk code tbl_2 = true := by decide +kernel
theorem mcl_3 : dchk code tbl_3 = true := by decide +kernel
theorem mcl_4 : dchk code tbl_4 = true := by decide +kernel
theorem mcl_5 : dchk code tbl_5 = true := by decide +kernel
theorem mcl_6 : dchk code tbl_6 = true := by decide +kernel
theorem mcl_7 : dchk code tbl_7 = true := by decide +kernel
theorem mcl_8 : dchk code tbl_8 = true := by decide +kernel
theorem mcl_9 : dchk code tbl_9 = true := by decide +kernel
theorem mcl : dchk code tb_204 = true := by
  have e : ∀ a b, dchk code (a ++ b) = (dchk code a && dchk code b) := fun a b => by simp only [dchk, List.all_append]
  simp only [tb_204, e, mcl_0, mcl_1, mcl_2, mcl_3, mcl_4, mcl_5, mcl_6, mcl_7, mcl_8, mcl_9, Bool.and_self]
end
section
/-! the layout: a cell is (family, instance); families are numbered by the place of their first instance in the order of making; 0 is the script -/
def fkT : List (Nat × Nat) := [(98, 0), (8, 9), (21, 160), (23, 10), (21, 11), (4, 3), (21, 0), (6, 5), (7, 11), (21, 1920), (20, 12), (20, 12), (22, 12), (20, 12), (22, 12), (20, 40), (22, 40), (20, 40), (24, 12), (25, 12), (21, 13), (3, 16), (20, 80), (22, 80), (20, 80), (20, 80), (20, 40), (22, 40), (20, 40), (20, 40), (20, 53), (20, 53), (1, 10), (20, 100), (20, 100), (22, 100), (20, 100), (20, 53), (99, 0), (99, 0), (99, 0), (99, 0), (99, 0), (99, 0), (99, 0), (99, 0), (99, 0), (99, 0), (99, 0), (99, 0), (99, 0), (99, 0), (99, 0), (99, 0), (99, 0), (99, 0), (99, 0), (99, 0), (99, 0), (99, 0), (99, 0), (99, 0), (99, 0), (99, 0), (99, 0), (99, 0), (99, 0), (99, 0), (99, 0), (99, 0), (99, 0), (99, 0), (99, 0), (99, 0), (99, 0), (99, 0), (99, 0), (99, 0), (99, 0), (99, 0), (99, 0), (99, 0), (99, 0), (99, 0), (99, 0), (99, 0), (99, 0), (99, 0), (99, 0), (99, 0), (99, 0), (99, 0), (99, 0), (99, 0), (99, 0), (99, 0), (99, 0), (99, 0), (99, 0), (99, 0), (99, 0), (99, 0), (99, 0), (99, 0), (99, 0), (99, 0), (99, 0), (99, 0), (99, 0), (99, 0), (99, 0), (99, 0), (99, 0), (99, 0), (99, 0), (99, 0), (99, 0), (99, 0), (99, 0), (99, 0), (99, 0), (99, 0), (99, 0), (99, 0), (99, 0), (99, 0), (99, 0), (99, 0), (99, 0), (99, 0), (99, 0), (99, 0), (99, 0), (99, 0), (99, 0), (99, 0), (99, 0), (99, 0), (99, 0), (99, 0), (99, 0), (99, 0), (99, 0), (99, 0), (99, 0), (99, 0), (99, 0), (99, 0), (99, 0), (99, 0), (99, 0), (99, 0), (99, 0), (99, 0), (99, 0), (99, 0), (99, 0), (99, 0), (99, 0), (99, 0), (99, 0), (99, 0), (99, 0), (99, 0), (99, 0), (99, 0), (99, 0), (99, 0), (99, 0), (99, 0), (99, 0), (99, 0), (99, 0), (99, 0), (99, 0), (99, 0), (99, 0), (99, 0), (99, 0), (99, 0), (99, 0), (99, 0), (99, 0), (99, 0), (99, 0), (99, 0), (99, 0), (99, 0), (99, 0), (99, 0), (99, 0), (99, 0), (99, 0), (99, 0), (99, 0), (99, 0), (99, 0), (99, 0), (99, 0), (99, 0), (99, 0), (99, 0), (99, 0), (99, 0), (99, 0), (99, 0), (99, 0), (99, 0), (99, 0), (99, 0), (99, 0), (99, 0), (99, 0), (99, 0), (99, 0), (99, 0), (99, 0), (99, 0), (99, 0), (99, 0), (99, 0), (99, 0), (99, 0), (99, 0), (99, 0), (5, 9), (20, 169), (22, 169), (20, 169), (2, 10), (21, 11), (21, 11), (20, 12), (9, 46), (20, 160), (20, 2830), (20, 28300), (20, 12), (20, 28), (20, 12), (20, 12), (20, 12), (20, 1200), (20, 1200), (20, 12000), (20, 20448), (20, 1200), (20, 12), (20, 648), (20, 648), (20, 648), (20, 12), (20, 12), (20, 12), (20, 504), (20, 504), (20, 504), (20, 13), (20, 13), (20, 13), (20, 64), (20, 5600), (20, 12), (20, 12), (20, 16), (20, 160)]
def fkd (f : Nat) : Nat × Nat := fkT.getD f (99, 0)
def srT : List (List (Nat × Nat)) := [[], [(0, 2), (2, 5), (3, 7), (4, 225), (5, 229), (6, 3), (8, 4)], [], [], [], [], [], [(0, 8), (1, 18), (2, 19), (3, 20)], [(0, 9), (1, 10), (3, 11), (4, 12), (5, 13), (6, 14), (8, 15), (9, 16), (10, 17)], [], [], [], [], [], [], [], [], [], [], [], [], [(2, 22), (3, 23), (4, 24), (5, 25), (9, 26), (10, 27), (11, 28), (12, 29), (14, 30), (15, 31)], [], [], [], [], [], [], [], [], [], [], [(3, 33), (4, 34), (5, 35), (6, 36), (7, 37)], [], [], [], [], [], [], [], [], [], [], [], [], [], [], [], [], [], [], [], [], [], [], [], [], [], [], [], [], [], [], [], [], [], [], [], [], [], [], [], [], [], [], [], [], [], [], [], [], [], [], [], [], [], [], [], [], [], [], [], [], [], [], [], [], [], [], [], [], [], [], [], [], [], [], [], [], [], [], [], [], [], [], [], [], [], [], [], [], [], [], [], [], [], [], [], [], [], [], [], [], [], [], [], [], [], [], [], [], [], [], [], [], [], [], [], [], [], [], [], [], [], [], [], [], [], [], [], [], [], [], [], [], [], [], [], [], [], [], [], [], [], [], [], [], [], [], [], [], [], [], [], [], [], [], [], [], [], [], [], [], [], [], [], [], [], [], [], [], [], [], [], [], [], [], [], [], [], [], [], [], [], [], [], [], [], [], [], [], [], [], [], [], [(0, 7), (6, 226), (7, 227), (8, 228)], [], [], [], [(0, 7), (6, 230), (8, 231), (9, 232)], [], [], [], [(0, 234), (2, 235), (3, 236), (7, 237), (8, 238), (9, 239), (10, 240), (11, 241), (12, 242), (13, 243), (14, 244), (15, 245), (16, 246), (17, 247), (18, 248), (19, 249), (20, 250), (21, 251), (22, 252), (23, 253), (24, 254), (25, 255), (26, 256), (27, 257), (28, 258), (29, 259), (32, 260), (34, 261), (38, 262), (42, 263), (43, 264), (45, 265)], [], [], [], [], [], [], [], [], [], [], [], [], [], [], [], [], [], [], [], [], [], [], [], [], [], [], [], [], [], [], [], []]
def ftT : List (List Nat) := [[], [0, 0, 0, 2, 2, 2, 2, 2, 0, 0], [2, 0, 0, 0, 1, 1, 2, 0, 2, 2], [0, 0, 2, 2, 2, 2, 0, 0, 0, 2, 2, 2, 2, 0, 2, 2], [2, 0, 0], [2, 0, 0, 1, 0, 0, 2, 2, 2], [2, 2, 2, 2, 0], [2, 2, 0, 2, 2, 2, 2, 0, 2, 2, 2], [2, 0, 2, 2, 2, 2, 2, 0, 2], [2, 0, 2, 2, 0, 3, 0, 2, 2, 2, 2, 2, 2, 2, 2, 2, 2, 2, 2, 2, 2, 2, 2, 2, 2, 2, 2, 2, 2, 2, 0, 0, 2, 0, 2, 0, 0, 0, 2, 0, 0, 0, 2, 2, 0, 2]]
def fnT : List (List Bool) := [[], [false, false, false, true, true, true, true, true, false, false], [true, false, false, false, false, false, true, false, true, true], [true, false, true, true, true, true, false, false, false, true, true, true, true, false, true, true], [false, false, false], [true, false, false, false, false, false, true, true, true], [true, true, true, true, false], [true, true, false, true, true, true, true, false, true, true, true], [true, false, true, true, true, true, true, false, true], [true, false, true, true, false, false, false, true, true, true, true, true, true, true, true, true, true, true, true, true, true, true, true, true, true, true, true, true, true, true, false, false, true, false, true, false, false, false, true, false, false, false, true, true, false, true]]
def lkI {α : Type} : List (Nat × α) → Nat → Option α
  | [], _ => none
  | (a, v) :: t, k => bif Nat.beq a k then some v else lkI t k
/-- 0: one instance; 1: one for each page; 2: one for each State -/
def fty (f : Nat) : Nat := bif Nat.blt f 8 then 0 else bif Nat.blt f 18 then 2 else bif Nat.blt f 21 then 0 else bif Nat.blt f 38 then 1 else 0
def cidx (f p : Nat) : Nat := match fty f with
  | 1 => f + 17 * p
  | 2 => (match p with
    | 0 => f
    | q + 1 => 266 + 10 * q + (f - 8))
  | _ => f
def fa (i : Nat) : Nat × Nat := if i < 21 then (i, 0) else if i < 225 then (21 + (i - 21) % 17, (i - 21) / 17) else if i < 266 then (i, 0) else (8 + (i - 266) % 10, (i - 266) / 10 + 1)
def srf (f p k : Nat) : Option (Nat × Nat) := match f with
  | 18 => some (21, k)
  | 19 => some (32, k)
  | f => match lkI (srT.getD f []) k with
    | some g => some (g, p)
    | none => none
def ftyp (ci k : Nat) : Nat := (ftT.getD ci []).getD k 9
def ffin (ci k : Nat) : Bool := (fnT.getD ci []).getD k true
def flk (oc idx : Nat) : Option (Nat × Nat) := (flT.find? fun q => Nat.beq q.1 oc && Nat.beq q.2.1 idx).map fun q => (q.2.2.1, q.2.2.2.1)
def mlk (oc idx : Nat) : Option (Nat × Nat) := (mkT.find? fun q => Nat.beq q.1 oc && Nat.beq q.2.1 idx).map fun q => (q.2.2.1, q.2.2.2.1)
def clk (oc idx : Nat) : Option Nat := (ckT.find? fun q => Nat.beq q.1 oc && Nat.beq q.2.1 idx).map fun q => q.2.2.1
def ick (oc idx : Nat) : Option Int32 := (icT.find? fun q => Nat.beq q.1 oc && Nat.beq q.2.1 idx).map fun q => q.2.2.1
def lck (oc idx : Nat) : Option Int64 := (lcT.find? fun q => Nat.beq q.1 oc && Nat.beq q.2.1 idx).map fun q => q.2.2.1
/-! values and heaps -/
abbrev AV : Type := Int32 ⊕ (Int64 ⊕ Option (Nat × Nat))
abbrev Hp : Type := (Nat × Nat × Nat) × (Nat → Nat → Nat → Int32) × (Nat → Nat → Nat → Int64) × (Nat → Nat → Nat → Option (Nat × Nat))
abbrev Ls : Type := List (Option AV)
abbrev vi (x : Int32) : AV := Sum.inl x
abbrev vl (x : Int64) : AV := Sum.inr (Sum.inl x)
abbrev vr (f p : Nat) : AV := Sum.inr (Sum.inr (some (f, p)))
def hI (σ : Hp) (f p k : Nat) : Int32 := σ.2.1 f p k
def hL (σ : Hp) (f p k : Nat) : Int64 := σ.2.2.1 f p k
def hR (σ : Hp) (f p k : Nat) : Option (Nat × Nat) := σ.2.2.2 f p k
def setI (σ : Hp) (f p k : Nat) (x : Int32) : Hp := (σ.1, (fun f' p' k' => if f' = f ∧ p' = p ∧ k' = k then x else σ.2.1 f' p' k'), σ.2.2)
def setL (σ : Hp) (f p k : Nat) (x : Int64) : Hp := (σ.1, σ.2.1, (fun f' p' k' => if f' = f ∧ p' = p ∧ k' = k then x else σ.2.2.1 f' p' k'), σ.2.2.2)
def setR (σ : Hp) (f p k : Nat) (x : Option (Nat × Nat)) : Hp := (σ.1, σ.2.1, σ.2.2.1, (fun f' p' k' => if f' = f ∧ p' = p ∧ k' = k then x else σ.2.2.2 f' p' k'))
/-- a new cell, all 0 and null -/
def zap (σ : Hp) (f p n : Nat) : Hp := ((σ.1.1 + 1, σ.1.2.1 + n, σ.1.2.2), (fun f' p' k' => if f' = f ∧ p' = p then 0 else σ.2.1 f' p' k'), (fun f' p' k' => if f' = f ∧ p' = p then 0 else σ.2.2.1 f' p' k'), (fun f' p' k' => if f' = f ∧ p' = p then none else σ.2.2.2 f' p' k'))
def cpI (σ : Hp) (f p sp g q dp n : Nat) : Hp := (σ.1, (fun f' p' k' => if f' = g ∧ p' = q then va_cpy (σ.2.1 f p) (σ.2.1 g q) sp dp n k' else σ.2.1 f' p' k'), σ.2.2)
def cpL (σ : Hp) (f p sp g q dp n : Nat) : Hp := (σ.1, σ.2.1, (fun f' p' k' => if f' = g ∧ p' = q then va_cpy (σ.2.2.1 f p) (σ.2.2.1 g q) sp dp n k' else σ.2.2.1 f' p' k'), σ.2.2.2)
def rdr (md : Bool) (σ : Hp) (f p k : Nat) : Option (Nat × Nat) := match md with
  | true => (match srf f p k with
    | some a => some a
    | none => hR σ f p k)
  | false => hR σ f p k
def rdf (md : Bool) (σ : Hp) (ci f p k : Nat) : AV := match ftyp ci k with
  | 0 => Sum.inl (hI σ f p k)
  | 3 => Sum.inl (hI σ f p k)
  | 1 => Sum.inr (Sum.inl (hL σ f p k))
  | _ => Sum.inr (Sum.inr (rdr md σ f p k))
/-- a cell may be used: the instance as it is named in the heap -/
def acc (md : Bool) (σ : Hp) (f p : Nat) (K : Nat → Prop) : Prop := match md with
  | true => (match fty f with
    | 0 => K 0
    | 1 => p < 12 ∧ K p
    | _ => (match p with
      | 0 => K 0
      | q + 1 => 266 + 10 * q < σ.1.1 ∧ K (q + 1)))
  | false => (match fty f with
    | 0 => f < σ.1.1 ∧ K 0
    | 1 => p < 12 ∧ f + 17 * p < σ.1.1 ∧ K p
    | _ => cidx f p < σ.1.1 ∧ K p)
def cat (v : AV) : Nat := match v with
  | .inr (.inl _) => 2
  | _ => 1
def stw : List AV → Nat
  | [] => 0
  | v :: t => cat v + stw t
/-- locals: a store of one slot, of two -/
def clr (ls : Ls) (i : Nat) : Ls := match i with
  | 0 => ls
  | j + 1 => (match ls[j]? with
    | some (some (.inr (.inl _))) => ls.set j none
    | _ => ls)
def sto1 (ls : Ls) (i : Nat) (v : AV) : Ls := (clr ls i).set i (some v)
def sto2 (ls : Ls) (i : Nat) (v : AV) : Ls := ((clr ls i).set i (some v)).set (i + 1) none
def ent : List AV → Ls
  | [] => []
  | .inr (.inl y) :: t => some (vl y) :: none :: ent t
  | v :: t => some v :: ent t
def entL (nL : Nat) (as : List AV) : Ls := ent as ++ List.replicate (nL - (ent as).length) none
/-- the machine's values -/
def adr (z b : Nat) (a : Nat × Nat) : Nat := match a.1 with
  | 0 => b
  | f + 1 => z + cidx (f + 1) a.2
def cvv (z b : Nat) (v : AV) : Value := match v with
  | .inl x => .int x
  | .inr (.inl y) => .long y
  | .inr (.inr r) => va_rf (r.map (adr z b))
def cellE (md : Bool) (dT : Nat → ClassId) (z b : Nat) (σ : Hp) (a : Nat × Nat) : va_E :=
  if (fkd a.1).1 < 20 then .inr ((fkd a.1).1, (List.range (fkd a.1).2).map fun j => cvv z b (rdf md σ (fkd a.1).1 a.1 a.2 j))
  else .inl (dT (fkd a.1).1, (fkd a.1).2, if (fkd a.1).1 = 22 then .inr (.inl (hL σ a.1 a.2)) else if (fkd a.1).1 < 22 then .inl (hI σ a.1 a.2) else .inr (.inr (.inr (.inr fun j => (rdr md σ a.1 a.2 j).map (adr z b)))))
def wsl (md : Bool) (dT : Nat → ClassId) (z b : Nat) (σ : Hp) : va_W := (List.range (σ.1.1 - 1)).map fun i => (z + (i + 1), cellE md dT z b σ (fa (i + 1)))
abbrev clsW : List vw_C := [(RX1, TX1, 10), (RX1, TX1, 10), (RX2, TX2, 10), (RX3, TX3, 16), (RX4, TX4, 3), (RX5, TX5, 9), (RX6, TX6, 5), (RX7, TX7, 11), (RX8, TX8, 9), (RX9, TX9, 46)]
abbrev tysL (dT : Nat → ClassId) : List (ClassId × FieldType) := [(dT 20, .int), (dT 21, .char), (dT 22, .long), (dT 23, .object RX7), (dT 24, .object RX3), (dT 25, .object RX1)]
def HI (md : Bool) (D : va_G) (dT : Nat → ClassId) (z b : Nat) (σ : Hp) (U : State) (H : Heap) : Prop :=
  va_K D clsW (tysL dT) U ∧ va_P D clsW (wsl md dT z b σ) H ∧ H.size = z + σ.1.1 ∧ (∀ f p k, (fkd f).1 = 21 → fits .char (.int (hI σ f p k)) = true) ∧ va_X b σ.1.2.2 (hI σ 0 0) U H ∧ b ≤ z ∧ 1 ≤ σ.1.1 ∧ (md = true → ∃ j, σ.1.1 = 266 + 10 * j)
/-- the words that every method stands on -/
def okW (w : Cond) : Bool := goodWord w || (match w with
  | .methodLinkNest .. => true
  | .arrayOver (.object _) => true
  | _ => false)
def wT : List Cond := lw_tbl.filter okW
def rOk (ret : Option FieldType) (r : Option AV) : Prop := match ret with
  | none => r = none
  | some .long => ∃ y : Int64, r = some (vl y)
  | some _ => ∃ x : Int32, r = some (vi x)
/-- the contract: from the heap σ the method mi returns, Q of the answer and the heap, the heap's counts are B -/
def Ev (md : Bool) (d mi : Nat) (args : List AV) (σ : Hp) (B : Nat × Nat × Nat) (Q : Option AV → Hp → Prop) : Prop :=
  σ.1.1 ≤ B.1 ∧ σ.1.2.1 ≤ B.2.1 ∧ ∃ me : MEnt, MT[mi]? = some me ∧ ∀ (l : Launch) (D : va_G) (dT : Nat → ClassId) (z b : Nat),
    Met l me.1 (Cond.code me.1 me.2.1 me.2.2.1 me.2.2.2.1 :: wT) { frames := d, cells := B.1 - σ.1.1, slots := B.2.1 - σ.1.2.1, locals := 64 * d }
      (fun v U => v = (args.map (cvv z b)).toArray ∧ HI md D dT z b σ U U.heap)
      (fun _ st o t => (∃ (r : Option AV) (σ' : Hp), rOk me.2.2.2.1 r ∧ Q r σ' ∧ σ'.1 = B ∧ o = .returned (r.map (cvv z b)) ∧ HI md D dT z b σ' t t.heap) ∧ va_F (fun q => z < q) st t)
      (B.1 - σ.1.1) (B.2.1 - σ.1.2.1) (fun q => z < q)
def CalI (md : Bool) (d mj : Nat) (as : List AV) (σ : Hp) (B : Nat × Nat × Nat) (K : Int32 → Hp → Prop) : Prop := ∃ B' Q', Ev md d mj as σ B' Q' ∧ B'.1 ≤ B.1 ∧ B'.2.1 ≤ B.2.1 ∧ ∀ x σ', Q' (some (vi x)) σ' → σ'.1 = B' → K x σ'
def CalL (md : Bool) (d mj : Nat) (as : List AV) (σ : Hp) (B : Nat × Nat × Nat) (K : Int64 → Hp → Prop) : Prop := ∃ B' Q', Ev md d mj as σ B' Q' ∧ B'.1 ≤ B.1 ∧ B'.2.1 ≤ B.2.1 ∧ ∀ x σ', Q' (some (vl x)) σ' → σ'.1 = B' → K x σ'
def CalV (md : Bool) (d mj : Nat) (as : List AV) (σ : Hp) (B : Nat × Nat × Nat) (K : Hp → Prop) : Prop := ∃ B' Q', Ev md d mj as σ B' Q' ∧ B'.1 ≤ B.1 ∧ B'.2.1 ≤ B.2.1 ∧ ∀ σ', Q' none σ' → σ'.1 = B' → K σ'
def LsI (z b nL : Nat) (arr : Array Slot) (ls : Ls) : Prop := arr.size = nL ∧ lv_wf arr ∧ ls.length = nL ∧ ∀ (i : Nat) (v : AV), ls[i]? = some (some v) → arr[i]? = some (Slot.val (cvv z b v))
def MA : List MEnt := MT ++ [eLaw]
def rIns (ret : Option FieldType) (ri : Instr) (r : Option AV) : Prop := match ret with
  | none => ri = .return_ ∧ r = none
  | some .long => ri = .lreturn ∧ ∃ y : Int64, r = some (vl y)
  | some .boolean => ri = .ireturn ∧ ∃ x : Int32, r = some (vi x) ∧ (x = 0 ∨ x = 1)
  | some _ => ri = .ireturn ∧ ret = some .int ∧ ∃ x : Int32, r = some (vi x)
/-- what holds in a frame of the method me -/
def Cx (me : MEnt) (ini : Bool) (d : Nat) (p : Program) (R : Room) (s : State) (m : MethodId) (args : Array Value) (meth : Method) (c : Code) : Prop :=
  p.tables.exec = Jvm.exec ∧ c.code = me.2.1 ∧ c.maxLocals = me.2.2.1 ∧ s.vm.findClass (ownN me.2.2.2.2.1) = some m.cls ∧ (∀ w ∈ wT, w.before args s = true) ∧ (ini = true → meth.name = "<init>") ∧ d ≤ R.frames ∧ 64 * d ≤ R.locals ∧ dchk me.2.1 me.2.2.2.2.2 = true
def isIni (me : MEnt) : Bool := decide (me.1.name = "<init>")
/-- the frame, at pc with ls, st, σ, comes to its end, with Qa -/
def Sat (md : Bool) (d mi : Nat) (B : Nat × Nat × Nat) (Qa : Option AV → Hp → Prop) (pc : Nat) (ls : Ls) (st : List AV) (σ : Hp) : Prop :=
  ∀ me : MEnt, MA[mi]? = some me → ∀ (p : Program) (l : Launch) (e : Env) (R : Room) (s : State) (m : MethodId) (args : Array Value) (below : List Frame) (meth : Method) (c : Code) (Qm : State → Prop) (D : va_G) (dT : Nat → ClassId) (z b n0 t0 : Nat),
    Cx me (isIni me) d p R s m args meth c → B.1 ≤ n0 + R.cells → B.2.1 ≤ t0 + R.slots → z < s.heap.size →
    (∀ (r : Option AV) (σ' : Hp) (H : Heap) (locs : List Loc) (arr : Array Slot) (kc ks pc' : Nat) (ri : Instr), rIns me.2.2.2.1 ri r → decode me.2.1 pc' = .ok (ri, 1) → Qa r σ' → σ'.1 = B → HI md D dT z b σ' s H → va_S (fun q => z < q) s.heap H locs → σ'.1.1 = n0 + kc → σ'.1.2.1 = t0 + ks → W p l e R s m args below meth c H locs kc ks Qm (F0 m pc' arr ((r.map (cvv z b)).toList))) →
    ∀ (H : Heap) (locs : List Loc) (arr : Array Slot) (kc ks : Nat), HI md D dT z b σ s H → va_S (fun q => z < q) s.heap H locs → LsI z b me.2.2.1 arr ls → σ.1.1 = n0 + kc → σ.1.2.1 = t0 + ks → W p l e R s m args below meth c H locs kc ks Qm (F0 m pc arr (st.map (cvv z b)))
/-! one instruction, goal first -/
def tgts (pc : Nat) (x : Int32) (K : Nat → Prop) : Int → List Int → Prop
  | _, [] => True
  | lo, o :: t => (x = Int32.ofInt lo → K (jmp pc o)) ∧ tgts pc x K (lo + 1) t
def lkts (pc : Nat) (x : Int32) (K : Nat → Prop) (d : Int) : List (Int × Int) → Prop
  | [] => K (jmp pc d)
  | (a, o) :: t => (x = Int32.ofInt a → K (jmp pc o)) ∧ (¬ x = Int32.ofInt a → lkts pc x K d t)
def cnd (c : ClassFile.Cond) (x y : Int32) : Prop := match c with
  | .eq => x = y
  | .ne => ¬ x = y
  | .lt => x < y
  | .ge => y ≤ x
  | .gt => y < x
  | .le => x ≤ y
def ncnd (c : ClassFile.Cond) (x y : Int32) : Prop := match c with
  | .eq => ¬ x = y
  | .ne => x = y
  | .lt => ¬ x < y
  | .ge => ¬ y ≤ x
  | .gt => ¬ y < x
  | .le => ¬ x ≤ y
def akind (t : ArrayType) : Nat := match t with
  | .int => 20
  | .char => 21
  | .long => 22
  | _ => 97
def okind (ci : Nat) : Nat := match ci with
  | 7 => 23
  | 3 => 24
  | 1 => 25
  | _ => 97
def nps (me : MEnt) : Nat := match parseMethodDescriptor me.1.desc with
  | some d => d.parameters.length
  | none => 0
def calM (md : Bool) (d mj : Nat) (ret : Option FieldType) (as : List AV) (σ : Hp) (B : Nat × Nat × Nat) (rest : List AV) (K : List AV → Hp → Prop) : Prop := match ret with
  | none => CalV md d mj as σ B fun σ' => K rest σ'
  | some .long => CalL md d mj as σ B fun y σ' => K (vl y :: rest) σ'
  | some _ => CalI md d mj as σ B fun x σ' => K (vi x :: rest) σ'
def callP (md : Bool) (d : Nat) (mj : Nat) (ret : Option FieldType) (as : List AV) (σ : Hp) (B : Nat × Nat × Nat) (rest : List AV) (K : List AV → Hp → Prop) : Prop := match d with
  | 0 => False
  | d + 1 => bif Nat.ble (stw rest) 8 then calM md d mj ret as σ B rest K else False
def pcT : List Nat := [3, 2, 1, 3, 4, 3, 3, 0, 2, 4, 2, 4, 1, 1, 2, 1, 2, 3, 4, 2, 2, 1, 3, 3, 3, 3, 3, 3, 0, 2, 2, 2, 1, 1, 2, 0, 0, 0, 0, 0, 0, 0, 1, 2, 1, 0, 0, 0, 0, 3, 1, 1, 0, 1, 1, 1, 4, 2, 0, 1, 1, 0, 2, 4, 1, 2, 3, 1, 0, 1, 0, 1, 1, 1, 2, 2, 3, 3, 3, 0, 0, 1, 2, 3, 1, 2, 2, 3, 2, 0, 2, 0, 1, 1, 2, 2, 1, 2, 1, 0, 2, 2, 1, 1, 1, 5, 0, 0, 3, 1, 1, 1, 2, 1, 0, 0, 1, 0, 0, 0, 0, 0, 0, 0, 0, 0, 0, 0, 0, 0, 1, 0, 1, 0, 0, 4, 1, 1, 2, 1, 1, 0, 1, 2, 2, 2, 2, 4, 3, 3, 4, 1, 2, 2, 2, 5, 1, 0, 2, 2, 3, 3, 3, 1, 0, 1, 0, 4, 0, 1, 1, 2, 3, 0, 0, 1, 2, 2, 2, 3, 1, 1, 1, 2, 1, 1, 2, 2, 2, 2, 3, 3, 2, 2, 3, 1, 3, 2, 2, 2, 0, 2, 1, 0, 1]
def retT : List (Option FieldType) := [some FieldType.long, some FieldType.long, some FieldType.long, some FieldType.long, some FieldType.int, some FieldType.int, some FieldType.int, none, none, none, some FieldType.boolean, none, some FieldType.int, some FieldType.int, some FieldType.int, none, none, none, none, some FieldType.int, some FieldType.int, none, none, none, none, none, none, none, none, some FieldType.int, some FieldType.int, none, some FieldType.boolean, some FieldType.boolean, some FieldType.boolean, some FieldType.boolean, some FieldType.boolean, some FieldType.boolean, some FieldType.boolean, some FieldType.boolean, some FieldType.boolean, some FieldType.boolean, none, none, some FieldType.int, some FieldType.boolean, some FieldType.boolean, some FieldType.boolean, none, none, none, none, none, none, some FieldType.int, some FieldType.int, some FieldType.int, none, none, none, some FieldType.boolean, some FieldType.int, some FieldType.int, none, none, some FieldType.int, none, none, none, some FieldType.int, some FieldType.int, some FieldType.int, some FieldType.int, some FieldType.int, some FieldType.int, some FieldType.int, some FieldType.int, some FieldType.int, some FieldType.int, some FieldType.int, some FieldType.int, some FieldType.int, some FieldType.int, some FieldType.int, some FieldType.int, some FieldType.int, some FieldType.int, some FieldType.int, some FieldType.int, some FieldType.int, some FieldType.int, some FieldType.int, some FieldType.int, some FieldType.boolean, some FieldType.boolean, some FieldType.boolean, some FieldType.boolean, some FieldType.boolean, some FieldType.int, some FieldType.int, some FieldType.boolean, some FieldType.int, some FieldType.int, some FieldType.int, some FieldType.int, some FieldType.int, none, none, some FieldType.boolean, some FieldType.boolean, some FieldType.int, some FieldType.boolean, some FieldType.int, some FieldType.int, some FieldType.int, some FieldType.int, some FieldType.boolean, some FieldType.boolean, some FieldType.boolean, none, some FieldType.boolean, some FieldType.boolean, some FieldType.boolean, some FieldType.boolean, some FieldType.boolean, some FieldType.boolean, some FieldType.boolean, some FieldType.boolean, some FieldType.boolean, some FieldType.int, some FieldType.boolean, some FieldType.int, some FieldType.int, none, some FieldType.int, some FieldType.boolean, none, none, none, some FieldType.int, some FieldType.int, some FieldType.int, some FieldType.int, some FieldType.int, some FieldType.int, some FieldType.int, some FieldType.int, none, none, none, none, none, none, some FieldType.int, none, none, none, none, some FieldType.int, some FieldType.boolean, some FieldType.int, some FieldType.int, some FieldType.int, some FieldType.int, some FieldType.int, some FieldType.int, some FieldType.int, some FieldType.boolean, some FieldType.int, some FieldType.boolean, some FieldType.int, some FieldType.int, some FieldType.int, some FieldType.boolean, some FieldType.boolean, some FieldType.int, none, none, some FieldType.boolean, some FieldType.int, some FieldType.int, some FieldType.int, some FieldType.int, some FieldType.int, some FieldType.int, some FieldType.int, some FieldType.int, some FieldType.int, some FieldType.int, some FieldType.int, some FieldType.boolean, none, none, some FieldType.boolean, some FieldType.int, none, none, some FieldType.boolean, none, some FieldType.int, some FieldType.int, some FieldType.int, some FieldType.int, some FieldType.int, some FieldType.boolean]
def ocT : List Nat := [0, 0, 0, 0, 0, 0, 0, 1, 1, 1, 1, 1, 1, 1, 1, 2, 2, 2, 2, 2, 2, 3, 3, 3, 3, 3, 3, 3, 4, 4, 4, 4, 4, 4, 4, 4, 4, 4, 4, 4, 4, 4, 5, 5, 5, 5, 5, 5, 6, 6, 6, 6, 6, 6, 6, 6, 6, 6, 7, 7, 7, 7, 7, 7, 7, 7, 7, 7, 8, 8, 8, 8, 8, 8, 8, 8, 8, 8, 8, 8, 8, 8, 8, 8, 8, 8, 8, 8, 8, 8, 8, 8, 8, 8, 8, 8, 8, 8, 8, 8, 8, 8, 8, 8, 8, 8, 8, 9, 9, 9, 9, 9, 9, 9, 9, 9, 9, 9, 9, 9, 9, 9, 9, 9, 9, 9, 9, 9, 9, 9, 9, 9, 9, 9, 9, 9, 9, 9, 9, 9, 9, 9, 9, 9, 9, 9, 9, 9, 9, 9, 9, 9, 9, 9, 9, 9, 9, 9, 9, 9, 9, 9, 9, 9, 9, 9, 9, 9, 9, 9, 9, 9, 9, 9, 9, 9, 9, 9, 9, 9, 9, 9, 9, 9, 9, 9, 9, 9, 9, 9, 9, 9, 9, 9, 9, 9, 9, 9, 9, 9, 9, 9, 9, 9, 10]
def one (md ini : Bool) (d : Nat) (B : Nat × Nat × Nat) (ret : Option FieldType) (Qa : Option AV → Hp → Prop) (oc : Nat) (ins : Instr) (pc : Nat) (ls : Ls) (st : List AV) (σ : Hp) (K : Nat → Ls → List AV → Hp → Prop) : Prop :=
  match ins with
  | .iconst n => K (pc + 1) ls (vi (Int32.ofInt n) :: st) σ
  | .bipush n => K (pc + 2) ls (vi (Int8.ofInt n).toInt32 :: st) σ
  | .sipush n => K (pc + 3) ls (vi (Int16.ofInt n).toInt32 :: st) σ
  | .lconst n => K (pc + 1) ls (vl (Int64.ofNat (n : Nat)) :: st) σ
  | .ldc i => (match ick oc i with
    | some v => K (pc + 2) ls (vi v :: st) σ
    | none => False)
  | .ldc2_w i => (match lck oc i with
    | some v => K (pc + 3) ls (vl v :: st) σ
    | none => False)
  | .iload_n k => (match ls[(k : Nat)]? with
    | some (some (.inl x)) => K (pc + 1) ls (vi x :: st) σ
    | _ => False)
  | .iload k => (match ls[k]? with
    | some (some (.inl x)) => K (pc + 2) ls (vi x :: st) σ
    | _ => False)
  | .lload_n k => (match ls[(k : Nat)]? with
    | some (some (.inr (.inl x))) => K (pc + 1) ls (vl x :: st) σ
    | _ => False)
  | .lload k => (match ls[k]? with
    | some (some (.inr (.inl x))) => K (pc + 2) ls (vl x :: st) σ
    | _ => False)
  | .aload_n k => (match ls[(k : Nat)]? with
    | some (some (.inr (.inr (some a)))) => K (pc + 1) ls (.inr (.inr (some a)) :: st) σ
    | _ => False)
  | .aload k => (match ls[k]? with
    | some (some (.inr (.inr (some a)))) => K (pc + 2) ls (.inr (.inr (some a)) :: st) σ
    | _ => False)
  | .istore_n k => (match st with
    | .inl x :: r => bif Nat.blt (k : Nat) ls.length then K (pc + 1) (sto1 ls k (vi x)) r σ else False
    | _ => False)
  | .istore k => (match st with
    | .inl x :: r => bif Nat.blt k ls.length then K (pc + 2) (sto1 ls k (vi x)) r σ else False
    | _ => False)
  | .lstore_n k => (match st with
    | .inr (.inl x) :: r => bif Nat.blt ((k : Nat) + 1) ls.length then K (pc + 1) (sto2 ls k (vl x)) r σ else False
    | _ => False)
  | .lstore k => (match st with
    | .inr (.inl x) :: r => bif Nat.blt (k + 1) ls.length then K (pc + 2) (sto2 ls k (vl x)) r σ else False
    | _ => False)
  | .astore_n k => (match st with
    | .inr (.inr (some a)) :: r => bif Nat.blt (k : Nat) ls.length then K (pc + 1) (sto1 ls k (.inr (.inr (some a)))) r σ else False
    | _ => False)
  | .astore k => (match st with
    | .inr (.inr (some a)) :: r => bif Nat.blt k ls.length then K (pc + 2) (sto1 ls k (.inr (.inr (some a)))) r σ else False
    | _ => False)
  | .iinc k n => (match ls[k]? with
    | some (some (.inl x)) => K (pc + 3) (sto1 ls k (vi (x + Int32.ofInt n))) st σ
    | _ => False)
  | .iadd => (match st with
    | .inl y :: .inl x :: r => K (pc + 1) ls (vi (x + y) :: r) σ
    | _ => False)
  | .isub => (match st with
    | .inl y :: .inl x :: r => K (pc + 1) ls (vi (x - y) :: r) σ
    | _ => False)
  | .imul => (match st with
    | .inl y :: .inl x :: r => K (pc + 1) ls (vi (x * y) :: r) σ
    | _ => False)
  | .iand => (match st with
    | .inl y :: .inl x :: r => K (pc + 1) ls (vi (x &&& y) :: r) σ
    | _ => False)
  | .ior => (match st with
    | .inl y :: .inl x :: r => K (pc + 1) ls (vi (x ||| y) :: r) σ
    | _ => False)
  | .ixor => (match st with
    | .inl y :: .inl x :: r => K (pc + 1) ls (vi (x ^^^ y) :: r) σ
    | _ => False)
  | .idiv => (match st with
    | .inl y :: .inl x :: r => ¬ y = 0 ∧ K (pc + 1) ls (vi (x / y) :: r) σ
    | _ => False)
  | .irem => (match st with
    | .inl y :: .inl x :: r => ¬ y = 0 ∧ K (pc + 1) ls (vi (x - x / y * y) :: r) σ
    | _ => False)
  | .ishl => (match st with
    | .inl y :: .inl x :: r => K (pc + 1) ls (vi (x <<< (y &&& 31)) :: r) σ
    | _ => False)
  | .ishr => (match st with
    | .inl y :: .inl x :: r => K (pc + 1) ls (vi (x >>> (y &&& 31)) :: r) σ
    | _ => False)
  | .iushr => (match st with
    | .inl y :: .inl x :: r => K (pc + 1) ls (vi (x.toUInt32 >>> (y.toUInt32 &&& Int32.toUInt32 31)).toInt32 :: r) σ
    | _ => False)
  | .land => (match st with
    | .inr (.inl y) :: .inr (.inl x) :: r => K (pc + 1) ls (vl (x &&& y) :: r) σ
    | _ => False)
  | .lor => (match st with
    | .inr (.inl y) :: .inr (.inl x) :: r => K (pc + 1) ls (vl (x ||| y) :: r) σ
    | _ => False)
  | .lshl => (match st with
    | .inl y :: .inr (.inl x) :: r => K (pc + 1) ls (vl (x <<< (y.toInt64 &&& 63)) :: r) σ
    | _ => False)
  | .lshr => (match st with
    | .inl y :: .inr (.inl x) :: r => K (pc + 1) ls (vl (x >>> (y.toInt64 &&& 63)) :: r) σ
    | _ => False)
  | .lushr => (match st with
    | .inl y :: .inr (.inl x) :: r => K (pc + 1) ls (vl (x.toUInt64 >>> (y.toInt64.toUInt64 &&& Int64.toUInt64 63)).toInt64 :: r) σ
    | _ => False)
  | .lcmp => (match st with
    | .inr (.inl y) :: .inr (.inl x) :: r => K (pc + 1) ls (vi (lg_cmp x y) :: r) σ
    | _ => False)
  | .i2l => (match st with
    | .inl x :: r => K (pc + 1) ls (vl x.toInt64 :: r) σ
    | _ => False)
  | .l2i => (match st with
    | .inr (.inl x) :: r => K (pc + 1) ls (vi x.toInt32 :: r) σ
    | _ => False)
  | .i2c => (match st with
    | .inl x :: r => K (pc + 1) ls (vi (x.toUInt32 % 65536).toInt32 :: r) σ
    | _ => False)
  | .dup => (match st with
    | .inl x :: r => K (pc + 1) ls (vi x :: vi x :: r) σ
    | .inr (.inr a) :: r => K (pc + 1) ls (.inr (.inr a) :: .inr (.inr a) :: r) σ
    | _ => False)
  | .dup2 => (match st with
    | .inr (.inl x) :: r => K (pc + 1) ls (vl x :: vl x :: r) σ
    | .inl x :: .inl y :: r => K (pc + 1) ls (vi x :: vi y :: vi x :: vi y :: r) σ
    | .inl x :: .inr (.inr a) :: r => K (pc + 1) ls (vi x :: .inr (.inr a) :: vi x :: .inr (.inr a) :: r) σ
    | _ => False)
  | .pop => (match st with
    | .inl _ :: r => K (pc + 1) ls r σ
    | .inr (.inr _) :: r => K (pc + 1) ls r σ
    | _ => False)
  | .goto o => K (jmp pc o) ls st σ
  | .ifCond c o => (match st with
    | .inl x :: r => (cnd c x 0 → K (jmp pc o) ls r σ) ∧ (ncnd c x 0 → K (pc + 3) ls r σ)
    | _ => False)
  | .if_icmp c o => (match st with
    | .inl y :: .inl x :: r => (cnd c x y → K (jmp pc o) ls r σ) ∧ (ncnd c x y → K (pc + 3) ls r σ)
    | _ => False)
  | .ifnonnull o => (match st with
    | .inr (.inr a) :: r => (∀ f p, a = some (f, p) → K (jmp pc o) ls r σ) ∧ (a = none → K (pc + 3) ls r σ)
    | _ => False)
  | .tableswitch dflt lo hi offs => (match st with
    | .inl x :: r => tgts pc x (fun t => K t ls r σ) lo offs.toList ∧ ((x.toInt < lo ∨ hi < x.toInt) → K (jmp pc dflt) ls r σ)
    | _ => False)
  | .lookupswitch dflt ps => (match st with
    | .inl x :: r => lkts pc x (fun t => K t ls r σ) dflt ps.toList
    | _ => False)
  | .getfield i => (match st with
    | .inr (.inr (some (f, p))) :: r => (match flk oc i with
      | some (ci, k) => bif Nat.beq (fkd f).1 ci then acc md σ f p fun p' => K (pc + 3) ls (rdf md σ ci f p' k :: r) σ else False
      | none => False)
    | _ => False)
  | .putfield i => (match flk oc i with
    | some (ci, k) => bif (! ffin ci k) || (ini && Nat.beq oc ci) then (match ftyp ci k with
      | 0 => (match st with
        | .inl x :: .inr (.inr (some (f, p))) :: r => bif Nat.beq (fkd f).1 ci then acc md σ f p fun p' => K (pc + 3) ls r (setI σ f p' k x) else False
        | _ => False)
      | 3 => (match st with
        | .inl x :: .inr (.inr (some (f, p))) :: r => bif Nat.beq (fkd f).1 ci then (x = 0 ∨ x = 1) ∧ acc md σ f p fun p' => K (pc + 3) ls r (setI σ f p' k x) else False
        | _ => False)
      | 1 => (match st with
        | .inr (.inl x) :: .inr (.inr (some (f, p))) :: r => bif Nat.beq (fkd f).1 ci then acc md σ f p fun p' => K (pc + 3) ls r (setL σ f p' k x) else False
        | _ => False)
      | 2 => (match st with
        | .inr (.inr a) :: .inr (.inr (some (f, p))) :: r => bif Nat.beq (fkd f).1 ci then acc md σ f p fun p' => (match md, srf f p' k with
          | true, some _ => False
          | _, _ => K (pc + 3) ls r (setR σ f p' k a)) else False
        | _ => False)
      | _ => False) else False
    | none => False)
  | .iaload => (match st with
    | .inl i :: .inr (.inr (some (0, _))) :: r => vp_in i σ.1.2.2 ∧ K (pc + 1) ls (vi (hI σ 0 0 i.toNatClampNeg) :: r) σ
    | .inl i :: .inr (.inr (some (f, p))) :: r => bif Nat.beq (fkd f).1 20 then acc md σ f p fun p' => vp_in i (fkd f).2 ∧ K (pc + 1) ls (vi (hI σ f p' i.toNatClampNeg) :: r) σ else False
    | _ => False)
  | .caload => (match st with
    | .inl i :: .inr (.inr (some (f, p))) :: r => bif Nat.beq (fkd f).1 21 then acc md σ f p fun p' => vp_in i (fkd f).2 ∧ K (pc + 1) ls (vi (hI σ f p' i.toNatClampNeg) :: r) σ else False
    | _ => False)
  | .laload => (match st with
    | .inl i :: .inr (.inr (some (f, p))) :: r => bif Nat.beq (fkd f).1 22 then acc md σ f p fun p' => vp_in i (fkd f).2 ∧ K (pc + 1) ls (vl (hL σ f p' i.toNatClampNeg) :: r) σ else False
    | _ => False)
  | .aaload => (match st with
    | .inl i :: .inr (.inr (some (f, p))) :: r => bif Nat.blt 22 (fkd f).1 && Nat.blt (fkd f).1 26 then acc md σ f p fun p' => vp_in i (fkd f).2 ∧ K (pc + 1) ls (.inr (.inr (rdr md σ f p' i.toNatClampNeg)) :: r) σ else False
    | _ => False)
  | .iastore => (match st with
    | .inl x :: .inl i :: .inr (.inr (some (f, p))) :: r => bif Nat.beq (fkd f).1 20 then acc md σ f p fun p' => vp_in i (fkd f).2 ∧ K (pc + 1) ls r (setI σ f p' i.toNatClampNeg x) else False
    | _ => False)
  | .castore => (match st with
    | .inl x :: .inl i :: .inr (.inr (some (f, p))) :: r => bif Nat.beq (fkd f).1 21 then acc md σ f p fun p' => vp_in i (fkd f).2 ∧ K (pc + 1) ls r (setI σ f p' i.toNatClampNeg (vp_nar .char x)) else False
    | _ => False)
  | .lastore => (match st with
    | .inr (.inl x) :: .inl i :: .inr (.inr (some (f, p))) :: r => bif Nat.beq (fkd f).1 22 then acc md σ f p fun p' => vp_in i (fkd f).2 ∧ K (pc + 1) ls r (setL σ f p' i.toNatClampNeg x) else False
    | _ => False)
  | .aastore => (match st with
    | .inr (.inr (some (g, q))) :: .inl i :: .inr (.inr (some (f, p))) :: r => bif Nat.blt (fkd g).1 20 && (Nat.beq (fkd f).1 (okind (fkd g).1) && Nat.blt (fkd f).1 26) then acc md σ f p fun p' => acc md σ g q fun q' => vp_in i (fkd f).2 ∧ (match md, srf f p' i.toNatClampNeg with
      | true, some _ => False
      | _, _ => K (pc + 1) ls r (setR σ f p' i.toNatClampNeg (some (g, q')))) else False
    | _ => False)
  | .arraylength => (match st with
    | .inr (.inr (some (0, _))) :: r => K (pc + 1) ls (vi (Int32.ofNat σ.1.2.2) :: r) σ
    | .inr (.inr (some (f, p))) :: r => bif Nat.blt 19 (fkd f).1 && Nat.blt (fkd f).1 26 then acc md σ f p fun _ => K (pc + 1) ls (vi (Int32.ofNat (fkd f).2) :: r) σ else False
    | _ => False)
  | .new i => (match md, clk oc i with
    | false, some ci => fkd (fa σ.1.1).1 = (ci, (ftT.getD ci []).length) ∧ σ.1.1 + 1 ≤ B.1 ∧ σ.1.2.1 + (ftT.getD ci []).length ≤ B.2.1 ∧ K (pc + 3) ls (.inr (.inr (some (fa σ.1.1))) :: st) (zap σ (fa σ.1.1).1 (fa σ.1.1).2 (ftT.getD ci []).length)
    | _, _ => False)
  | .newarray t => (match md, st with
    | false, .inl n :: r => ¬ n < 0 ∧ fkd (fa σ.1.1).1 = (akind t, n.toNatClampNeg) ∧ σ.1.1 + 1 ≤ B.1 ∧ σ.1.2.1 + n.toNatClampNeg ≤ B.2.1 ∧ K (pc + 2) ls (.inr (.inr (some (fa σ.1.1))) :: r) (zap σ (fa σ.1.1).1 (fa σ.1.1).2 n.toNatClampNeg)
    | _, _ => False)
  | .anewarray i => (match md, clk oc i, st with
    | false, some ci, .inl n :: r => ¬ n < 0 ∧ fkd (fa σ.1.1).1 = (okind ci, n.toNatClampNeg) ∧ σ.1.1 + 1 ≤ B.1 ∧ σ.1.2.1 + n.toNatClampNeg ≤ B.2.1 ∧ K (pc + 3) ls (.inr (.inr (some (fa σ.1.1))) :: r) (zap σ (fa σ.1.1).1 (fa σ.1.1).2 n.toNatClampNeg)
    | _, _, _ => False)
  | .ireturn => (match ret, st with
    | some .boolean, [.inl x] => (x = 0 ∨ x = 1) ∧ Qa (some (vi x)) σ ∧ σ.1 = B
    | some .int, [.inl x] => Qa (some (vi x)) σ ∧ σ.1 = B
    | _, _ => False)
  | .lreturn => (match ret, st with
    | some .long, [.inr (.inl x)] => Qa (some (vl x)) σ ∧ σ.1 = B
    | _, _ => False)
  | .return_ => (match ret, st with
    | none, [] => Qa none σ ∧ σ.1 = B
    | _, _ => False)
  | .invokevirtual i => (match mlk oc i with
    | some (0, mj) => (match st.drop (pcT.getD mj 0) with
      | .inr (.inr (some (f, p))) :: r => bif Nat.beq (fkd f).1 (ocT.getD mj 99) then acc md σ f p fun p' => callP md d mj (retT.getD mj none) (vr f p' :: (st.take (pcT.getD mj 0)).reverse) σ B r fun st' σ' => K (pc + 3) ls st' σ' else False
      | _ => False)
    | _ => False)
  | .invokestatic i => (match mlk oc i with
    | some (1, mj) => bif Nat.ble (pcT.getD mj 0) st.length then callP md d mj (retT.getD mj none) (st.take (pcT.getD mj 0)).reverse σ B (st.drop (pcT.getD mj 0)) fun st' σ' => K (pc + 3) ls st' σ' else False
    | some (3, mj) => bif Nat.ble (pcT.getD mj 0) st.length then callP md d mj (retT.getD mj none) (st.take (pcT.getD mj 0)).reverse σ B (st.drop (pcT.getD mj 0)) fun st' σ' => K (pc + 3) ls st' σ' else False
    | some (6, _) => (match d, st with
      | _ + 1, .inl n :: .inl dp :: .inr (.inr (some (g, q))) :: .inl sp :: .inr (.inr (some (f, p))) :: r => bif Nat.ble (stw r) 8 && (Nat.beq (fkd f).1 (fkd g).1 && (Nat.blt 19 (fkd f).1 && Nat.blt (fkd f).1 23)) then acc md σ f p fun p' => acc md σ g q fun q' => ¬ sp < 0 ∧ ¬ dp < 0 ∧ ¬ n < 0 ∧ sp.toNatClampNeg + n.toNatClampNeg ≤ (fkd f).2 ∧ dp.toNatClampNeg + n.toNatClampNeg ≤ (fkd g).2 ∧ K (pc + 3) ls r (bif Nat.beq (fkd f).1 22 then cpL σ f p' sp.toNatClampNeg g q' dp.toNatClampNeg n.toNatClampNeg else cpI σ f p' sp.toNatClampNeg g q' dp.toNatClampNeg n.toNatClampNeg) else False
      | _, _ => False)
    | some (7, _) => (match d, st with
      | _ + 1, .inl y :: .inl x :: r => bif Nat.ble (stw r) 8 then σ.1.1 ≤ B.1 ∧ σ.1.2.1 ≤ B.2.1 ∧ K (pc + 3) ls (vi (if y < x then y else x) :: r) σ else False
      | _, _ => False)
    | some (8, _) => (match d, st with
      | _ + 1, .inl x :: r => bif Nat.ble (stw r) 8 then σ.1.1 ≤ B.1 ∧ σ.1.2.1 ≤ B.2.1 ∧ K (pc + 3) ls (vi (if 0 ≤ x then x else 0 - x) :: r) σ else False
      | _, _ => False)
    | _ => False)
  | .invokespecial i => (match mlk oc i with
    | some (5, _) => (match d, st with
      | _ + 1, .inr (.inr (some _)) :: r => bif Nat.ble (stw r) 8 then K (pc + 3) ls r σ else False
      | _, _ => False)
    | some (2, mj) => (match st.drop (pcT.getD mj 0) with
      | .inr (.inr (some a)) :: r => callP md d mj none (.inr (.inr (some a)) :: (st.take (pcT.getD mj 0)).reverse) σ B r fun st' σ' => K (pc + 3) ls st' σ'
      | _ => False)
    | some (4, mj) => (match st.drop (pcT.getD mj 0) with
      | .inr (.inr (some a)) :: r => callP md d mj none (.inr (.inr (some a)) :: (st.take (pcT.getD mj 0)).reverse) σ B r fun st' σ' => K (pc + 3) ls st' σ'
      | _ => False)
    | _ => False)
  | _ => False
/-- up to n instructions, ending at the places of cut -/
def wp (md ini : Bool) (d mi : Nat) (B : Nat × Nat × Nat) (ret : Option FieldType) (Qa : Option AV → Hp → Prop) (oc : Nat) (tb : List (Nat × Instr × Nat)) (cut : List Nat) : Nat → Nat → Ls → List AV → Hp → Prop
  | 0, pc, ls, st, σ => Sat md d mi B Qa pc ls st σ
  | n + 1, pc, ls, st, σ => match lkI tb pc with
    | none => False
    | some q => one md ini d B ret Qa oc q.1 pc ls st σ fun pc' ls' st' σ' => bif cut.elem pc' then Sat md d mi B Qa pc' ls' st' σ' else wp md ini d mi B ret Qa oc tb cut n pc' ls' st' σ'
end
section
def idxI : List Nat := [7, 8, 9, 10, 11, 12, 13, 14, 15, 16, 17, 18, 19, 20, 21, 22, 23, 24, 25, 26, 27, 28, 29, 30, 31, 32, 33, 34, 35, 36, 37, 38, 39, 40, 41, 42, 43, 44, 45, 46, 47, 48, 49, 50, 51, 52, 53, 54, 55, 56, 57, 58, 59, 60, 61, 62, 63, 64, 65, 66, 67, 68, 69, 70, 71, 72, 73, 74, 75, 76, 77, 78, 79, 80, 81, 82, 83, 84, 85, 86, 87, 88, 89, 90, 91, 92, 94, 95, 96, 99, 100, 101, 102, 103, 104, 105, 106, 107, 110, 111, 112, 113, 114, 115, 116, 117, 118, 119, 120, 121, 122, 123, 124, 125, 126, 127, 128, 129, 130, 131, 132, 133, 134, 135, 136, 137, 138, 139, 140, 141, 142, 143, 146, 147, 148, 149, 150, 151, 152, 153, 154, 155, 156, 157, 158, 159, 160, 161, 162, 163, 164, 165, 166, 167, 168, 169, 170, 171, 172, 173, 174, 175, 176, 177, 178, 179, 180, 181, 182, 183, 184, 185, 186, 188, 189, 190, 191, 192, 193, 194, 195, 196, 197, 198, 199, 200, 201, 202, 203]
def posI : List Nat := [6, 41, 42, 43, 44, 45, 70, 53, 8, 84, 86, 85, 87, 88, 5, 34, 35, 36, 37, 39, 38, 2, 12, 23, 13, 15, 17, 18, 14, 16, 20, 21, 24, 22, 19, 7, 67, 72, 68, 69, 71, 3, 32, 96, 33, 40, 28, 81, 57, 91, 92, 4, 27, 47, 48, 60, 61, 64, 30, 29, 31, 0, 9, 10, 11, 25, 46, 49, 50, 51, 54, 55, 56, 58, 62, 65, 73, 75, 77, 80, 82, 89, 93, 94, 95, 97, 52, 74, 63, 59, 83, 76, 66, 78, 79, 90, 26, 98, 123, 122, 128, 99, 100, 104, 106, 108, 109, 110, 107, 115, 112, 116, 105, 111, 114, 113, 103, 102, 118, 117, 101, 121, 119, 139, 124, 140, 138, 141, 120, 143, 142, 144, 127, 132, 131, 130, 129, 126, 134, 136, 137, 135, 133, 125, 145, 147, 146, 148, 149, 151, 150, 155, 154, 153, 152, 157, 156, 158, 164, 162, 163, 165, 166, 161, 168, 167, 159, 160, 169, 170, 171, 173, 172, 179, 177, 180, 178, 176, 175, 174, 183, 182, 184, 185, 181, 186, 187, 188, 189]
def idxS : List Nat := [0, 1, 2, 3, 4, 5, 6, 93, 97, 98, 108, 109, 144, 145, 187]
def posS : List Nat := [4, 6, 8, 5, 3, 9, 10, 1, 7, 0, 13, 14, 16, 15, 17]
def idxV : List Nat := [8, 9, 10, 11, 12, 13, 14, 16, 17, 18, 19, 20, 22, 23, 24, 25, 26, 27, 29, 30, 31, 32, 33, 34, 35, 36, 37, 38, 39, 40, 41, 43, 44, 45, 46, 47, 49, 50, 51, 52, 53, 54, 55, 56, 57, 59, 60, 61, 62, 63, 64, 65, 66, 67, 69, 70, 71, 72, 73, 74, 75, 76, 77, 78, 79, 80, 81, 82, 83, 84, 85, 86, 87, 88, 89, 90, 91, 92, 94, 95, 96, 99, 100, 101, 102, 103, 104, 105, 106, 110, 111, 112, 113, 114, 115, 116, 117, 118, 119, 120, 121, 122, 123, 124, 125, 126, 127, 128, 129, 130, 131, 132, 133, 134, 135, 136, 137, 138, 139, 140, 141, 142, 143, 146, 147, 148, 149, 150, 151, 152, 153, 154, 155, 156, 157, 158, 159, 160, 161, 162, 163, 164, 165, 166, 167, 168, 169, 170, 171, 172, 173, 174, 175, 176, 177, 178, 179, 180, 181, 182, 183, 184, 185, 186, 188, 189, 190, 191, 192, 193, 194, 195, 196, 197, 198, 199, 200, 201, 202, 203]
def posV : List Nat := [120, 20, 21, 22, 23, 139, 127, 147, 37, 36, 38, 39, 119, 14, 15, 16, 18, 17, 111, 112, 0, 2, 4, 5, 1, 3, 7, 8, 10, 9, 6, 138, 140, 28, 29, 30, 118, 154, 13, 19, 115, 145, 131, 149, 150, 114, 122, 123, 133, 134, 136, 117, 116, 12, 108, 109, 110, 113, 121, 124, 125, 126, 128, 129, 130, 132, 135, 137, 141, 142, 143, 144, 146, 148, 151, 152, 153, 155, 24, 31, 26, 25, 35, 32, 27, 33, 34, 40, 11, 60, 59, 65, 156, 157, 43, 45, 47, 48, 49, 46, 54, 51, 55, 44, 50, 53, 52, 42, 41, 57, 56, 158, 58, 159, 76, 61, 77, 75, 78, 160, 79, 161, 162, 64, 69, 68, 67, 66, 63, 71, 73, 74, 72, 70, 62, 163, 80, 164, 165, 166, 81, 167, 84, 83, 82, 168, 85, 169, 170, 91, 89, 90, 92, 93, 88, 94, 171, 86, 87, 172, 173, 95, 96, 174, 101, 99, 102, 100, 98, 97, 175, 104, 103, 105, 106, 176, 177, 178, 179, 107]
def posC : List Nat := [40, 45, 53, 44, 37, 61, 62, 6, 47, 48, 49, 51, 52, 80, 63, 8, 94, 97, 96, 98, 99, 5, 36, 38, 39, 41, 43, 42, 2, 13, 24, 14, 16, 18, 19, 15, 17, 21, 22, 25, 23, 20, 7, 77, 82, 78, 79, 81, 3, 34, 108, 35, 46, 30, 91, 67, 103, 104, 4, 29, 55, 56, 70, 71, 74, 32, 31, 33, 0, 9, 11, 12, 26, 54, 57, 58, 59, 64, 65, 66, 68, 72, 75, 83, 85, 87, 90, 92, 101, 105, 106, 107, 109, 27, 60, 84, 73, 50, 10, 69, 93, 86, 76, 88, 89, 102, 28, 110, 112, 134, 137, 136, 142, 111, 113, 117, 119, 121, 122, 123, 120, 128, 125, 129, 118, 124, 127, 126, 116, 115, 131, 130, 114, 135, 132, 155, 138, 156, 154, 157, 133, 159, 158, 160, 151, 146, 141, 147, 145, 144, 143, 140, 149, 152, 153, 150, 148, 139, 161, 163, 162, 164, 165, 167, 166, 171, 170, 169, 168, 173, 172, 174, 180, 178, 179, 181, 182, 177, 184, 183, 175, 176, 185, 186, 187, 189, 188, 196, 195, 193, 197, 194, 192, 191, 190, 200, 199, 201, 202, 198, 203, 204, 205, 206]
def mtN (i : Nat) : MethodName := match MT[i]? with
  | some e => e.1
  | none => objectInit
set_option maxRecDepth 100000 in
theorem pI : (posI.map fun i => slI_l[i]?) = (idxI.map fun i => some (mtN i)) := by rfl
set_option maxRecDepth 100000 in
theorem pS : (posS.map fun i => slS_l[i]?) = (idxS.map fun i => some (mtN i)) := by rfl
set_option maxRecDepth 100000 in
theorem pV : (posV.map fun i => slV_l[i]?) = (idxV.map fun i => some ((mtN i).cls, mtN i, mtN i)) := by rfl
set_option maxRecDepth 100000 in
theorem pC : (posC.map fun i => slC_l[i]?) = (MT.map fun e => some (e.1, e.2.1, e.2.2.1, e.2.2.2.1)) := by rfl
def mkN (q : Nat × Nat × Nat × Nat × Nat) : MethodName := match q.2.2.1 with
  | 5 => objectInit
  | 6 => arraycopyName
  | 7 => Lib.Math.min.name
  | 8 => Lib.Math.abs.name
  | _ => mtN q.2.2.2.1
set_option maxRecDepth 100000 in
theorem pM : (mkT.filter fun q => ! (Nat.beq q.2.2.1 3 || Nat.beq q.2.2.1 4)).map (fun q => (ownN q.1, q.2.1, mkN q)) = slM_l := by rfl
set_option maxRecDepth 100000 in
theorem pH : (mkT.filter fun q => (Nat.beq q.2.2.1 3 || Nat.beq q.2.2.1 4)).map (fun q => (ownN q.1, q.2.1, mkN q, RX8)) = slH_l := by rfl
set_option maxRecDepth 100000 in
theorem pF : (flT.map fun q => match clsW[q.2.2.1]? with
    | some c => (ownN q.1, q.2.1, (c.2.1 q.2.2.2.1).1, (c.2.1 q.2.2.2.1).2.1, (c.2.1 q.2.2.2.1).2.2.1)
    | none => ("", 0, "", "", "")) = slF_l := by rfl
theorem pK : (ckT.map fun q => (ownN q.1, q.2.1, ownN q.2.2.1)) = slK_l := by rfl
theorem pX : (icT.map fun q => (ownN q.1, q.2.1, q.2.2.1)) = slX_l := by rfl
theorem pY : (lcT.map fun q => (ownN q.1, q.2.1, q.2.2.1)) = slY_l := by rfl
theorem mkK : (mkT.all fun q => match q.2.2.1 with
    | 0 => idxI.elem q.2.2.2.1 && idxV.elem q.2.2.2.1
    | 1 => idxS.elem q.2.2.2.1
    | 2 => idxI.elem q.2.2.2.1
    | 3 => idxS.elem q.2.2.2.1
    | 4 => idxI.elem q.2.2.2.1
    | _ => true) = true := by decide +kernel
theorem mkI : (mkT.all fun q => match q.2.2.1 with
    | 2 => decide ((mtN q.2.2.2.1).name = "<init>") && decide (retT.getD q.2.2.2.1 none = none)
    | 4 => decide ((mtN q.2.2.2.1).name = "<init>") && decide (retT.getD q.2.2.2.1 none = none)
    | _ => true) = true := by decide +kernel
theorem flB : (flT.all fun q => match clsW[q.2.2.1]? with
    | some c => decide (q.2.2.2.1 < c.2.2) && (decide (1 ≤ q.2.2.1) && decide (q.2.2.1 < 10))
    | none => false) = true := by decide +kernel
theorem mtD : ((MT.zip (pcT.zip (retT.zip ocT))).all fun q => (match parseMethodDescriptor q.1.1.desc with
    | some d => decide (d.parameters.length = q.2.1)
    | none => false) && (decide (q.1.2.2.2.1 = q.2.2.1) && (decide (q.1.2.2.2.2.1 = q.2.2.2) && (decide (q.1.1.cls = ownN q.2.2.2) && decide (q.2.2.2 < 10))))) = true := by decide +kernel
theorem inN : ∀ c, c < 10 → slN_l.elem (ownN c) = true := by decide +kernel
theorem inN2 : slN_l.elem "java/lang/System" = true ∧ slN_l.elem "java/lang/Math" = true := by decide +kernel
def tyW (ci : Nat) : Nat → FieldType := match ci with
  | 2 => tyX2 | 3 => tyX3 | 4 => tyX4 | 5 => tyX5 | 6 => tyX6 | 7 => tyX7 | 8 => tyX8 | 9 => tyX9 | _ => tyX1
def tcode (t : FieldType) : Nat := match t with
  | .int => 0 | .boolean => 3 | .long => 1 | .object _ => 2 | .array _ => 2 | _ => 8
theorem ftK : ∀ ci, ci < 10 → ∀ c, clsW[ci]? = some c → 1 ≤ ci → ∀ k, k < c.2.2 → ftyp ci k = tcode (tyW ci k) ∧ ffin ci k = (c.2.1 k).2.2.2 ∧ (c.2.1 k).1 = c.1 := by
  intro ci hci
  have h : ∀ ci, ci < 10 → (match clsW[ci]? with
    | some c => Nat.beq ci 0 || (List.range c.2.2).all fun k => decide (ftyp ci k = tcode (tyW ci k)) && (decide (ffin ci k = (c.2.1 k).2.2.2) && decide ((c.2.1 k).1 = c.1))
    | none => true) = true := by decide +kernel
  intro c hc h1 k hk
  have h2 := h ci hci
  rw [hc] at h2
  have h0 : Nat.beq ci 0 = false := by cases ci with
    | zero => omega
    | succ n => rfl
  simp only [h0, Bool.false_or, List.all_eq_true, List.mem_range, Bool.and_eq_true, decide_eq_true_eq] at h2
  exact h2 k hk
theorem ftN : ∀ ci, ci < 10 → 1 ≤ ci → ∀ c, clsW[ci]? = some c → (ftT.getD ci []).length = c.2.2 ∧ c.1 = ownN ci := by
  have h : ∀ ci, ci < 10 → (match clsW[ci]? with
    | some c => Nat.beq ci 0 || (decide ((ftT.getD ci []).length = c.2.2) && decide (c.1 = ownN ci))
    | none => true) = true := by decide +kernel
  intro ci hci h1 c hc
  have h2 := h ci hci
  rw [hc] at h2
  have h0 : Nat.beq ci 0 = false := by cases ci with
    | zero => omega
    | succ n => rfl
  simp only [h0, Bool.false_or, Bool.and_eq_true, decide_eq_true_eq] at h2
  exact h2
theorem fkB : ∀ f, f < 266 → ((fkd f).1 < 20 → 1 ≤ (fkd f).1 ∧ (fkd f).1 < 10 ∧ (fkd f).2 = (ftT.getD (fkd f).1 []).length) ∧ (38 ≤ f → f < 225 → (fkd f).1 = 99) ∧ (fkd f).2 < 100000 := by decide +kernel
end
section
/-! the layout's own facts -/
theorem fty_eq (f : Nat) : fty f = if f < 8 then 0 else if f < 18 then 2 else if f < 21 then 0 else if f < 38 then 1 else 0 := by
  simp only [fty, Bool.cond_eq_ite, Nat.blt_eq]
theorem cidx_0 (f : Nat) : cidx f 0 = f := by
  unfold cidx
  split
  · omega
  · rfl
  · rfl
theorem cidx_1 {f : Nat} (h : fty f = 1) (p : Nat) : cidx f p = f + 17 * p := by simp [cidx, h]
theorem cidx_2 {f : Nat} (h : fty f = 2) (q : Nat) : cidx f (q + 1) = 266 + 10 * q + (f - 8) := by simp [cidx, h]
theorem cidx_s {f : Nat} (h : fty f = 0) (p : Nat) : cidx f p = f := by simp [cidx, h]
theorem fty_01 {f : Nat} : fty f = 0 ∨ fty f = 1 ∧ 21 ≤ f ∧ f < 38 ∨ fty f = 2 ∧ 8 ≤ f ∧ f < 18 := by
  rw [fty_eq]
  split
  · exact Or.inl rfl
  · split
    · exact Or.inr (Or.inr ⟨rfl, by omega, by omega⟩)
    · split
      · exact Or.inl rfl
      · split
        · exact Or.inr (Or.inl ⟨rfl, by omega, by omega⟩)
        · exact Or.inl rfl
theorem fty_0 {f : Nat} (h : fty f = 0) : f < 8 ∨ 18 ≤ f ∧ f < 21 ∨ 38 ≤ f := by
  rw [fty_eq] at h
  split at h
  · omega
  · split at h
    · cases h
    · split at h
      · omega
      · split at h
        · cases h
        · omega
theorem cidx_fa (i : Nat) : cidx (fa i).1 (fa i).2 = i := by
  unfold fa
  split
  · exact cidx_0 i
  · split
    · have h1 : fty (21 + (i - 21) % 17) = 1 := by
        rw [fty_eq, if_neg (by omega), if_neg (by omega), if_neg (by omega), if_pos (by omega)]
      show cidx (21 + (i - 21) % 17) ((i - 21) / 17) = i
      rw [cidx_1 h1]; omega
    · split
      · exact cidx_0 i
      · have h1 : fty (8 + (i - 266) % 10) = 2 := by
          rw [fty_eq, if_neg (by omega), if_pos (by omega)]
        show cidx (8 + (i - 266) % 10) ((i - 266) / 10 + 1) = i
        rw [cidx_2 h1]; omega
theorem fkd_out {f : Nat} (h : 266 ≤ f) : (fkd f).1 = 99 := by
  have : fkT.length = 266 := by decide +kernel
  unfold fkd
  rw [List.getD_eq_getElem?_getD, List.getElem?_eq_none (by omega)]
  rfl
theorem fkd_in {f : Nat} (h : (fkd f).1 < 90) : f < 266 ∧ 1 ≤ f ∧ (38 ≤ f → 225 ≤ f) := by
  have h1 : f < 266 := by
    rcases Nat.lt_or_ge f 266 with q | q
    · exact q
    · rw [fkd_out q] at h; omega
  refine ⟨h1, ?_, fun h2 => ?_⟩
  · rcases Nat.eq_zero_or_pos f with q | q
    · subst q; exact absurd h (by decide)
    · exact q
  · rcases Nat.lt_or_ge f 225 with q | q
    · have := (fkB f h1).2.1 h2 q; omega
    · exact q
theorem acc_ok {md : Bool} {σ : Hp} {f p : Nat} {K : Nat → Prop} (hk : (fkd f).1 < 90) (hst : md = true → ∃ j, σ.1.1 = 266 + 10 * j) (h : acc md σ f p K) : ∃ p', K p' ∧ cidx f p = cidx f p' ∧ cidx f p' < σ.1.1 ∧ 1 ≤ cidx f p' ∧ fa (cidx f p') = (f, p') := by
  obtain ⟨k1, k2, k3⟩ := fkd_in hk
  rcases fty_01 (f := f) with t | ⟨t, b1, b2⟩ | ⟨t, b1, b2⟩
  · have e : fa f = (f, 0) := by
      unfold fa
      rcases fty_0 t with q | ⟨q, q2⟩ | q
      · rw [if_pos (by omega)]
      · rw [if_pos (by omega)]
      · have := k3 q
        rw [if_neg (by omega), if_neg (by omega), if_pos (by omega)]
    cases md with
    | true =>
      obtain ⟨j, hj⟩ := hst rfl
      have h' : K 0 := by simpa [acc, t] using h
      exact ⟨0, h', by rw [cidx_s t, cidx_s t], by rw [cidx_s t]; omega, by rw [cidx_s t]; omega, by rw [cidx_s t]; exact e⟩
    | false =>
      have h' : f < σ.1.1 ∧ K 0 := by simpa [acc, t] using h
      exact ⟨0, h'.2, by rw [cidx_s t, cidx_s t], by rw [cidx_s t]; exact h'.1, by rw [cidx_s t]; omega, by rw [cidx_s t]; exact e⟩
  · have e : p < 12 → fa (f + 17 * p) = (f, p) := by
      intro hp
      unfold fa
      rw [if_neg (by omega), if_pos (by omega)]
      refine Prod.ext ?_ ?_
      · show 21 + (f + 17 * p - 21) % 17 = f; omega
      · show (f + 17 * p - 21) / 17 = p; omega
    cases md with
    | true =>
      obtain ⟨j, hj⟩ := hst rfl
      have h' : p < 12 ∧ K p := by simpa [acc, t] using h
      exact ⟨p, h'.2, rfl, by rw [cidx_1 t]; omega, by rw [cidx_1 t]; omega, by rw [cidx_1 t]; exact e h'.1⟩
    | false =>
      have h' : p < 12 ∧ f + 17 * p < σ.1.1 ∧ K p := by simpa [acc, t] using h
      exact ⟨p, h'.2.2, rfl, by rw [cidx_1 t]; exact h'.2.1, by rw [cidx_1 t]; omega, by rw [cidx_1 t]; exact e h'.1⟩
  · have e : fa (cidx f p) = (f, p) := by
      cases p with
      | zero =>
        rw [cidx_0]; unfold fa; rw [if_pos (by omega)]
      | succ q =>
        rw [cidx_2 t]; unfold fa
        rw [if_neg (by omega), if_neg (by omega), if_neg (by omega)]
        refine Prod.ext ?_ ?_
        · show 8 + (266 + 10 * q + (f - 8) - 266) % 10 = f; omega
        · show (266 + 10 * q + (f - 8) - 266) / 10 + 1 = q + 1; omega
    have g : 1 ≤ cidx f p := by
      cases p with
      | zero => rw [cidx_0]; omega
      | succ q => rw [cidx_2 t]; omega
    cases md with
    | true =>
      obtain ⟨j, hj⟩ := hst rfl
      cases p with
      | zero =>
        have h' : K 0 := by simpa [acc, t] using h
        exact ⟨0, h', rfl, by rw [cidx_0]; omega, g, e⟩
      | succ q =>
        have h' : 266 + 10 * q < σ.1.1 ∧ K (q + 1) := by simpa [acc, t] using h
        exact ⟨q + 1, h'.2, rfl, by rw [cidx_2 t]; omega, g, e⟩
    | false =>
      have h' : cidx f p < σ.1.1 ∧ K p := by simpa [acc, t] using h
      exact ⟨p, h'.2, rfl, h'.1, g, e⟩
theorem adr_eq {z b f p p' : Nat} (hf : 1 ≤ f) (h : cidx f p = cidx f p') : adr z b (f, p) = z + cidx f p' := by
  cases f with
  | zero => omega
  | succ n => show z + cidx (n + 1) p = _; rw [h]
theorem wsl_at (md : Bool) (dT : Nat → ClassId) (z b : Nat) (σ : Hp) {i : Nat} (h : i + 1 < σ.1.1) : (wsl md dT z b σ)[i]? = some (z + (i + 1), cellE md dT z b σ (fa (i + 1))) := by
  unfold wsl
  rw [List.getElem?_map, List.getElem?_range (by omega)]
  rfl
theorem wsl_in {md : Bool} {dT : Nat → ClassId} {z b : Nat} {σ : Hp} {i : Nat} {q : Nat × va_E} (h : (wsl md dT z b σ)[i]? = some q) : i + 1 < σ.1.1 ∧ q = (z + (i + 1), cellE md dT z b σ (fa (i + 1))) := by
  have hl : i < σ.1.1 - 1 := by
    have := (List.getElem?_eq_some_iff.mp h).1
    simpa [wsl] using this
  have h1 : i + 1 < σ.1.1 := by omega
  exact ⟨h1, (Option.some.inj ((wsl_at md dT z b σ h1).symm.trans h)).symm⟩
theorem wsl_get (md : Bool) (dT : Nat → ClassId) (z b : Nat) (σ : Hp) {f p : Nat} (hl : cidx f p < σ.1.1) (h1 : 1 ≤ cidx f p) (hf : fa (cidx f p) = (f, p)) : (wsl md dT z b σ)[cidx f p - 1]? = some (z + cidx f p, cellE md dT z b σ (f, p)) := by
  have e : cidx f p - 1 + 1 = cidx f p := by omega
  rw [wsl_at md dT z b σ (by omega), e, hf]
theorem wsl_D (md : Bool) (dT : Nat → ClassId) (z b : Nat) (σ : Hp) : va_D (fun q => z < q) (wsl md dT z b σ) := by
  refine ⟨fun i j x y hx hy e => ?_, fun k q hq => ?_⟩
  · obtain ⟨-, rfl⟩ := wsl_in hx
    obtain ⟨-, rfl⟩ := wsl_in hy
    have e : z + (i + 1) = z + (j + 1) := e
    omega
  · obtain ⟨-, rfl⟩ := wsl_in hq
    show z < z + (k + 1)
    omega
theorem HI_moved {md : Bool} {D : va_G} {dT : Nat → ClassId} {z b : Nat} {σ : Hp} {u U : State} {H : Heap} (hvm : u.vm.Alike U.vm) (h : HI md D dT z b σ u H) : HI md D dT z b σ U H := by
  obtain ⟨h1, h2, h3, h4, h5, h6⟩ := h
  exact ⟨h1.moved hvm, h2, h3, h4, h5.moved hvm, h6⟩
/-- a write to one cell -/
theorem HI_write {md : Bool} {D : va_G} {dT : Nat → ClassId} {z b : Nat} {σ σ' : Hp} {s : State} {H H1 : Heap} {f p : Nat} (h : HI md D dT z b σ s H) (hl : cidx f p < σ.1.1) (h1 : 1 ≤ cidx f p) (hf : fa (cidx f p) = (f, p)) (e1 : σ'.1 = σ.1)
    (hc : ∀ a : Nat × Nat, a ≠ (f, p) → cellE md dT z b σ' a = cellE md dT z b σ a) (hch : ∀ f p k, (fkd f).1 = 21 → fits .char (.int (hI σ' f p k)) = true) (hx : hI σ' 0 0 = hI σ 0 0) (z1 : H1.size = H.size) (oq : ∀ q : Nat, q ≠ z + cidx f p → H1[q]? = H[q]?)
    (he : va_at D clsW (z + cidx f p, cellE md dT z b σ' (f, p)) H1) : HI md D dT z b σ' s H1 := by
  obtain ⟨g1, g2, g3, g4, g5, g6, g7, g8⟩ := h
  refine ⟨g1, fun i q hq => ?_, by rw [z1, e1]; exact g3, hch, ?_, g6, by rw [e1]; exact g7, fun hm => by rw [e1]; exact g8 hm⟩
  · obtain ⟨hi, rfl⟩ := wsl_in hq
    rw [e1] at hi
    by_cases ha : i + 1 = cidx f p
    · rw [ha, hf]; exact he
    · have hn : fa (i + 1) ≠ (f, p) := by
        intro hh
        have := cidx_fa (i + 1)
        rw [hh] at this
        exact ha this.symm
      rw [hc _ hn]
      have hq0 := g2 i _ (wsl_at md dT z b σ hi)
      refine hq0.kept (oq _ ?_)
      show z + (i + 1) ≠ z + cidx f p
      omega
  · rw [e1, hx]
    exact g5.kept (oq b (by omega))
theorem cellE_congr {md : Bool} {dT : Nat → ClassId} {z b : Nat} {σ σ' : Hp} {a : Nat × Nat} (h1 : hI σ' a.1 a.2 = hI σ a.1 a.2) (h2 : hL σ' a.1 a.2 = hL σ a.1 a.2) (h3 : hR σ' a.1 a.2 = hR σ a.1 a.2) : cellE md dT z b σ' a = cellE md dT z b σ a := by
  have hr : rdr md σ' a.1 a.2 = rdr md σ a.1 a.2 := by
    funext k
    unfold rdr
    rw [h3]
  have hf : ∀ ci, rdf md σ' ci a.1 a.2 = rdf md σ ci a.1 a.2 := by
    intro ci
    funext k
    unfold rdf
    rw [h1, h2, hr]
  unfold cellE
  rw [h1, h2, hr, hf]
theorem hI_setI_ne {σ : Hp} {f p k : Nat} {x : Int32} {a : Nat × Nat} (h : a ≠ (f, p)) : hI (setI σ f p k x) a.1 a.2 = hI σ a.1 a.2 := by
  funext j
  show (if a.1 = f ∧ a.2 = p ∧ j = k then x else σ.2.1 a.1 a.2 j) = _
  rw [if_neg]
  · rfl
  · rintro ⟨q1, q2, -⟩
    exact h (Prod.ext q1 q2)
theorem hL_setL_ne {σ : Hp} {f p k : Nat} {x : Int64} {a : Nat × Nat} (h : a ≠ (f, p)) : hL (setL σ f p k x) a.1 a.2 = hL σ a.1 a.2 := by
  funext j
  show (if a.1 = f ∧ a.2 = p ∧ j = k then x else σ.2.2.1 a.1 a.2 j) = _
  rw [if_neg]
  · rfl
  · rintro ⟨q1, q2, -⟩
    exact h (Prod.ext q1 q2)
theorem hR_setR_ne {σ : Hp} {f p k : Nat} {x : Option (Nat × Nat)} {a : Nat × Nat} (h : a ≠ (f, p)) : hR (setR σ f p k x) a.1 a.2 = hR σ a.1 a.2 := by
  funext j
  show (if a.1 = f ∧ a.2 = p ∧ j = k then x else σ.2.2.2 a.1 a.2 j) = _
  rw [if_neg]
  · rfl
  · rintro ⟨q1, q2, -⟩
    exact h (Prod.ext q1 q2)
theorem hI_setI (σ : Hp) (f p k : Nat) (x : Int32) : hI (setI σ f p k x) f p = upd (hI σ f p) k x := by
  funext j
  show (if f = f ∧ p = p ∧ j = k then x else σ.2.1 f p j) = if j = k then x else σ.2.1 f p j
  simp only [true_and]
theorem hL_setL (σ : Hp) (f p k : Nat) (x : Int64) : hL (setL σ f p k x) f p = vp_updL (hL σ f p) k x := by
  funext j
  show (if f = f ∧ p = p ∧ j = k then x else σ.2.2.1 f p j) = if j = k then x else σ.2.2.1 f p j
  simp only [true_and]
theorem hR_setR (σ : Hp) (f p k : Nat) (x : Option (Nat × Nat)) : hR (setR σ f p k x) f p = va_up (hR σ f p) k x := by
  funext j
  show (if f = f ∧ p = p ∧ j = k then x else σ.2.2.2 f p j) = if j = k then x else σ.2.2.2 f p j
  simp only [true_and]
theorem cell_o {md : Bool} {dT : Nat → ClassId} {z b : Nat} {σ : Hp} {f p : Nat} (h : (fkd f).1 < 20) : cellE md dT z b σ (f, p) = .inr ((fkd f).1, (List.range (fkd f).2).map fun j => cvv z b (rdf md σ (fkd f).1 f p j)) := by
  unfold cellE
  rw [if_pos h]
theorem cell_i {md : Bool} {dT : Nat → ClassId} {z b : Nat} {σ : Hp} {f p k : Nat} (h : (fkd f).1 = k) (h2 : k = 20 ∨ k = 21) : cellE md dT z b σ (f, p) = .inl (dT k, (fkd f).2, .inl (hI σ f p)) := by
  unfold cellE
  show (if (fkd f).1 < 20 then _ else _) = _
  rw [if_neg (by omega), if_neg (by show ¬ (fkd f).1 = 22; omega), if_pos (by show (fkd f).1 < 22; omega), h]
theorem cell_l {md : Bool} {dT : Nat → ClassId} {z b : Nat} {σ : Hp} {f p : Nat} (h : (fkd f).1 = 22) : cellE md dT z b σ (f, p) = .inl (dT 22, (fkd f).2, .inr (.inl (hL σ f p))) := by
  unfold cellE
  show (if (fkd f).1 < 20 then _ else _) = _
  rw [if_neg (by omega), if_pos h, h]
theorem cell_r {md : Bool} {dT : Nat → ClassId} {z b : Nat} {σ : Hp} {f p : Nat} (h : 22 < (fkd f).1) : cellE md dT z b σ (f, p) = .inl (dT (fkd f).1, (fkd f).2, .inr (.inr (.inr (.inr fun j => (rdr md σ f p j).map (adr z b))))) := by
  unfold cellE
  show (if (fkd f).1 < 20 then _ else _) = _
  rw [if_neg (by omega), if_neg (by show ¬ (fkd f).1 = 22; omega), if_neg (by show ¬ (fkd f).1 < 22; omega)]
end
section
/-! every word that the machine's rows ask for is among wT, and stays -/
theorem warm {w : Cond} (hw : okW w = true) {args a' : Array Value} {s U : State} (h : w.before args s = true) (hW : s.WarmedH U.vm) : w.before a' U = true := by
  by_cases g : goodWord w = true
  · exact word_at hW (good_of_word g) h
  · cases w with
    | methodLinkNest a i x hh => exact va_Nw.use rfl (va_Nw.warmM hW (va_Nw.of rfl h))
    | arrayOver t =>
      cases t with
      | object C => exact va_AO.use (va_AO.moved hW.alike (va_AO.of h))
      | _ => simp [okW, g] at hw
    | _ => simp [okW, g] at hw
theorem mem_sel {α : Type} {sel : Cond → Option α} {L : List α} (h : lw_tbl.filterMap sel = L) {a : α} (ha : a ∈ L) : ∃ w ∈ lw_tbl, sel w = some a := by
  rw [← h] at ha
  exact List.mem_filterMap.mp ha
theorem map_mem {α β γ : Type} {L1 : List α} {L2 : List β} {f : α → γ} {g : β → γ} (h : L1.map f = L2.map g) {j : β} (hj : j ∈ L2) : ∃ i ∈ L1, f i = g j := by
  have h1 : g j ∈ L1.map f := by rw [h]; exact List.mem_map_of_mem hj
  obtain ⟨i, hi, e⟩ := List.mem_map.mp h1
  exact ⟨i, hi, e⟩
theorem w_code {y : MethodName} {b : ByteArray} {n : Nat} {r : Option FieldType} (h : (y, b, n, r) ∈ slC_l) : Cond.code y b n r ∈ wT := by
  obtain ⟨w, hw, e⟩ := mem_sel slC_ok h
  cases w <;> simp [slC] at e
  obtain ⟨rfl, rfl, rfl, rfl⟩ := e
  exact List.mem_filter.mpr ⟨hw, rfl⟩
theorem w_static {y : MethodName} (h : y ∈ slS_l) : Cond.static y ∈ wT := by
  obtain ⟨w, hw, e⟩ := mem_sel slS_ok h
  cases w <;> simp [slS] at e
  subst e
  exact List.mem_filter.mpr ⟨hw, rfl⟩
theorem w_inst {y : MethodName} (h : y ∈ slI_l) : Cond.instanceMethod y ∈ wT := by
  obtain ⟨w, hw, e⟩ := mem_sel slI_ok h
  cases w <;> simp [slI] at e
  subst e
  exact List.mem_filter.mpr ⟨hw, rfl⟩
theorem w_sel {c : String} {y y' : MethodName} (h : (c, y, y') ∈ slV_l) : Cond.selects c y y' ∈ wT := by
  obtain ⟨w, hw, e⟩ := mem_sel slV_ok h
  cases w <;> simp [slV] at e
  obtain ⟨rfl, rfl, rfl⟩ := e
  exact List.mem_filter.mpr ⟨hw, rfl⟩
theorem w_ini {c : String} (h : slN_l.elem c = true) : Cond.initialized c ∈ wT := by
  obtain ⟨w, hw, e⟩ := mem_sel slN_ok (List.elem_iff.mp h)
  cases w <;> simp [slN] at e
  subst e
  exact List.mem_filter.mpr ⟨hw, rfl⟩
theorem w_link {o : String} {i : Nat} {y : MethodName} (h : (o, i, y) ∈ slM_l) : Cond.methodLink o i y ∈ wT := by
  obtain ⟨w, hw, e⟩ := mem_sel slM_ok h
  cases w <;> simp [slM] at e
  obtain ⟨rfl, rfl, rfl⟩ := e
  exact List.mem_filter.mpr ⟨hw, rfl⟩
theorem w_nest {o h' : String} {i : Nat} {y : MethodName} (h : (o, i, y, h') ∈ slH_l) : Cond.methodLinkNest o i y h' ∈ wT := by
  obtain ⟨w, hw, e⟩ := mem_sel slH_ok h
  cases w <;> simp [slH] at e
  obtain ⟨rfl, rfl, rfl, rfl⟩ := e
  exact List.mem_filter.mpr ⟨hw, by simp [okW]⟩
theorem w_field {o r n d : String} {i : Nat} (h : (o, i, r, n, d) ∈ slF_l) : Cond.fieldLink o i r n d ∈ wT := by
  obtain ⟨w, hw, e⟩ := mem_sel slF_ok h
  cases w <;> simp [slF] at e
  obtain ⟨rfl, rfl, rfl, rfl, rfl⟩ := e
  exact List.mem_filter.mpr ⟨hw, rfl⟩
theorem w_class {o c : String} {i : Nat} (h : (o, i, c) ∈ slK_l) : Cond.classLink o i c ∈ wT := by
  obtain ⟨w, hw, e⟩ := mem_sel slK_ok h
  cases w <;> simp [slK] at e
  obtain ⟨rfl, rfl, rfl⟩ := e
  exact List.mem_filter.mpr ⟨hw, rfl⟩
theorem w_con {o : String} {i : Nat} {v : Int32} (h : (o, i, v) ∈ slX_l) : Cond.constant o i v ∈ wT := by
  obtain ⟨w, hw, e⟩ := mem_sel slX_ok h
  cases w <;> simp [slX] at e
  obtain ⟨rfl, rfl, rfl⟩ := e
  exact List.mem_filter.mpr ⟨hw, rfl⟩
theorem w_conL {o : String} {i : Nat} {v : Int64} (h : (o, i, v) ∈ slY_l) : Cond.constantLong o i v ∈ wT := by
  obtain ⟨w, hw, e⟩ := mem_sel slY_ok h
  cases w <;> simp [slY] at e
  obtain ⟨rfl, rfl, rfl⟩ := e
  exact List.mem_filter.mpr ⟨hw, rfl⟩
theorem w_arr {t : FieldType} (h : t ∈ slA_l) : Cond.arrayClass t ∈ wT := by
  obtain ⟨w, hw, e⟩ := mem_sel slA_ok h
  cases w <;> simp [slA] at e
  subst e
  exact List.mem_filter.mpr ⟨hw, rfl⟩
theorem w_over {c : String} (h : FieldType.object c ∈ slO_l) : Cond.arrayOver (.object c) ∈ wT := by
  obtain ⟨w, hw, e⟩ := mem_sel slO_ok h
  cases w <;> simp [slO] at e
  subst e
  exact List.mem_filter.mpr ⟨hw, by simp [okW]⟩
theorem w_made {c : String} {n : Nat} (h : (c, n) ∈ slZ_l) : Cond.instantiable c n ∈ wT := by
  obtain ⟨w, hw, e⟩ := mem_sel slZ_ok h
  cases w <;> simp [slZ] at e
  obtain ⟨rfl, rfl⟩ := e
  exact List.mem_filter.mpr ⟨hw, rfl⟩
theorem beq_n {a b : Nat} (h : Nat.beq a b = true) : a = b := Nat.eq_of_beq_eq_true h
theorem mlk_mem {oc i kd mj : Nat} (h : mlk oc i = some (kd, mj)) : ∃ pl, (oc, i, kd, mj, pl) ∈ mkT := by
  obtain ⟨q, hq, e⟩ := Option.map_eq_some_iff.mp h
  have h1 := List.find?_some hq
  have h2 := List.mem_of_find?_eq_some hq
  simp only [Bool.and_eq_true] at h1
  obtain ⟨a, a2, a3, a4, a5⟩ := q
  have e1 : a = oc := beq_n h1.1
  have e2 : a2 = i := beq_n h1.2
  simp only [Prod.mk.injEq] at e
  exact ⟨a5, by rw [← e1, ← e2, ← e.1, ← e.2]; exact h2⟩
theorem flk_mem {oc i ci k : Nat} (h : flk oc i = some (ci, k)) : ∃ pl, (oc, i, ci, k, pl) ∈ flT := by
  obtain ⟨q, hq, e⟩ := Option.map_eq_some_iff.mp h
  have h1 := List.find?_some hq
  have h2 := List.mem_of_find?_eq_some hq
  simp only [Bool.and_eq_true] at h1
  obtain ⟨a, a2, a3, a4, a5⟩ := q
  have e1 : a = oc := beq_n h1.1
  have e2 : a2 = i := beq_n h1.2
  simp only [Prod.mk.injEq] at e
  exact ⟨a5, by rw [← e1, ← e2, ← e.1, ← e.2]; exact h2⟩
theorem clk_mem {oc i ci : Nat} (h : clk oc i = some ci) : ∃ pl, (oc, i, ci, pl) ∈ ckT := by
  obtain ⟨q, hq, e⟩ := Option.map_eq_some_iff.mp h
  have h1 := List.find?_some hq
  have h2 := List.mem_of_find?_eq_some hq
  simp only [Bool.and_eq_true] at h1
  obtain ⟨a, a2, a3, a4⟩ := q
  have e1 : a = oc := beq_n h1.1
  have e2 : a2 = i := beq_n h1.2
  exact ⟨a4, by rw [← e1, ← e2, ← e]; exact h2⟩
theorem ick_w {oc i : Nat} {v : Int32} (h : ick oc i = some v) : Cond.constant (ownN oc) i v ∈ wT := by
  obtain ⟨q, hq, e⟩ := Option.map_eq_some_iff.mp h
  have h1 := List.find?_some hq
  have h2 := List.mem_of_find?_eq_some hq
  simp only [Bool.and_eq_true] at h1
  refine w_con ?_
  rw [← pX]
  refine List.mem_map.mpr ⟨q, h2, ?_⟩
  rw [beq_n h1.1, beq_n h1.2, e]
theorem lck_w {oc i : Nat} {v : Int64} (h : lck oc i = some v) : Cond.constantLong (ownN oc) i v ∈ wT := by
  obtain ⟨q, hq, e⟩ := Option.map_eq_some_iff.mp h
  have h1 := List.find?_some hq
  have h2 := List.mem_of_find?_eq_some hq
  simp only [Bool.and_eq_true] at h1
  refine w_conL ?_
  rw [← pY]
  refine List.mem_map.mpr ⟨q, h2, ?_⟩
  rw [beq_n h1.1, beq_n h1.2, e]
theorem clk_w {oc i ci : Nat} (h : clk oc i = some ci) : Cond.classLink (ownN oc) i (ownN ci) ∈ wT := by
  obtain ⟨pl, hm⟩ := clk_mem h
  refine w_class ?_
  rw [← pK]
  exact List.mem_map.mpr ⟨_, hm, rfl⟩
theorem flk_w {oc i ci k : Nat} (h : flk oc i = some (ci, k)) : ∃ c : vw_C, clsW[ci]? = some c ∧ k < c.2.2 ∧ 1 ≤ ci ∧ ci < 10 ∧ Cond.fieldLink (ownN oc) i (c.2.1 k).1 (c.2.1 k).2.1 (c.2.1 k).2.2.1 ∈ wT := by
  obtain ⟨pl, hm⟩ := flk_mem h
  have h1 := List.all_eq_true.mp flB _ hm
  dsimp only at h1
  cases hc : clsW[ci]? with
  | none => rw [hc] at h1; cases h1
  | some c =>
    rw [hc] at h1
    simp only [Bool.and_eq_true, decide_eq_true_eq] at h1
    refine ⟨c, rfl, h1.1, h1.2.1, h1.2.2, w_field ?_⟩
    rw [← pF]
    refine List.mem_map.mpr ⟨_, hm, ?_⟩
    dsimp only
    rw [hc]
theorem mtN_eq {mj : Nat} {me : MEnt} (h : MT[mj]? = some me) : mtN mj = me.1 := by
  unfold mtN
  rw [h]
theorem mlk_w {oc i kd mj : Nat} (h : mlk oc i = some (kd, mj)) (hk : kd < 3) : Cond.methodLink (ownN oc) i (mtN mj) ∈ wT := by
  obtain ⟨pl, hm⟩ := mlk_mem h
  refine w_link ?_
  rw [← pM]
  refine List.mem_map.mpr ⟨_, List.mem_filter.mpr ⟨hm, ?_⟩, ?_⟩
  · rcases kd with _ | _ | _ | n
    · rfl
    · rfl
    · rfl
    · omega
  · rcases kd with _ | _ | _ | n
    · rfl
    · rfl
    · rfl
    · omega
theorem mlk_j {oc i kd mj : Nat} (h : mlk oc i = some (kd, mj)) (hk : 4 < kd) : Cond.methodLink (ownN oc) i (mkN (oc, i, kd, mj, 0)) ∈ wT := by
  obtain ⟨pl, hm⟩ := mlk_mem h
  refine w_link ?_
  rw [← pM]
  refine List.mem_map.mpr ⟨_, List.mem_filter.mpr ⟨hm, ?_⟩, rfl⟩
  rcases kd with _ | _ | _ | _ | _ | n
  · omega
  · omega
  · omega
  · omega
  · omega
  · rfl
theorem mlk_n {oc i kd mj : Nat} (h : mlk oc i = some (kd, mj)) (hk : kd = 3 ∨ kd = 4) : Cond.methodLinkNest (ownN oc) i (mtN mj) RX8 ∈ wT := by
  obtain ⟨pl, hm⟩ := mlk_mem h
  refine w_nest ?_
  rw [← pH]
  refine List.mem_map.mpr ⟨_, List.mem_filter.mpr ⟨hm, ?_⟩, ?_⟩
  · rcases hk with rfl | rfl <;> rfl
  · rcases hk with rfl | rfl <;> rfl
theorem mem_i {mj : Nat} (h : idxI.elem mj = true) : Cond.instanceMethod (mtN mj) ∈ wT := by
  obtain ⟨i, -, e⟩ := map_mem pI (List.elem_iff.mp h)
  exact w_inst (List.mem_of_getElem? e)
theorem mem_s {mj : Nat} (h : idxS.elem mj = true) : Cond.static (mtN mj) ∈ wT := by
  obtain ⟨i, -, e⟩ := map_mem pS (List.elem_iff.mp h)
  exact w_static (List.mem_of_getElem? e)
theorem mem_v {mj : Nat} (h : idxV.elem mj = true) : Cond.selects (mtN mj).cls (mtN mj) (mtN mj) ∈ wT := by
  obtain ⟨i, -, e⟩ := map_mem pV (List.elem_iff.mp h)
  exact w_sel (List.mem_of_getElem? e)
theorem mem_c {mj : Nat} {me : MEnt} (h : MT[mj]? = some me) : Cond.code me.1 me.2.1 me.2.2.1 me.2.2.2.1 ∈ wT := by
  obtain ⟨i, -, e⟩ := map_mem pC (List.mem_of_getElem? h)
  exact w_code (List.mem_of_getElem? e)
theorem mt_d {mj : Nat} {me : MEnt} (h : MT[mj]? = some me) : (∃ d, parseMethodDescriptor me.1.desc = some d ∧ d.parameters.length = pcT.getD mj 0) ∧ retT.getD mj none = me.2.2.2.1 ∧ ocT.getD mj 99 = me.2.2.2.2.1 ∧ me.1.cls = ownN me.2.2.2.2.1 ∧ me.2.2.2.2.1 < 10 := by
  have hl : mj < MT.length := (List.getElem?_eq_some_iff.mp h).1
  have l0 : MT.length = 204 := by decide +kernel
  have l1 : pcT.length = 205 := by decide +kernel
  have l2 : retT.length = 205 := by decide +kernel
  have l3 : ocT.length = 205 := by decide +kernel
  have e1 : pcT[mj]? = some (pcT.getD mj 0) := by
    rw [List.getD_eq_getElem?_getD, List.getElem?_eq_getElem (by omega)]; rfl
  have e2 : retT[mj]? = some (retT.getD mj none) := by
    rw [List.getD_eq_getElem?_getD, List.getElem?_eq_getElem (by omega)]; rfl
  have e3 : ocT[mj]? = some (ocT.getD mj 99) := by
    rw [List.getD_eq_getElem?_getD, List.getElem?_eq_getElem (by omega)]; rfl
  have hz : (MT.zip (pcT.zip (retT.zip ocT)))[mj]? = some (me, pcT.getD mj 0, retT.getD mj none, ocT.getD mj 99) := by
    rw [List.getElem?_zip_eq_some]
    refine ⟨h, ?_⟩
    rw [List.getElem?_zip_eq_some]
    refine ⟨e1, ?_⟩
    rw [List.getElem?_zip_eq_some]
    exact ⟨e2, e3⟩
  have h1 := List.all_eq_true.mp mtD _ (List.mem_of_getElem? hz)
  dsimp only at h1
  simp only [Bool.and_eq_true, decide_eq_true_eq] at h1
  obtain ⟨g1, g2, g3, g4, g5⟩ := h1
  refine ⟨?_, g2.symm, g3.symm, by rw [g3]; exact g4, by rw [g3]; exact g5⟩
  cases hd : parseMethodDescriptor me.1.desc with
  | none => rw [hd] at g1; cases g1
  | some d =>
    rw [hd] at g1
    exact ⟨d, rfl, by simpa using g1⟩
theorem mk_k {oc i kd mj : Nat} (h : mlk oc i = some (kd, mj)) : (kd = 0 → idxI.elem mj = true ∧ idxV.elem mj = true) ∧ (kd = 1 ∨ kd = 3 → idxS.elem mj = true) ∧ (kd = 2 ∨ kd = 4 → idxI.elem mj = true ∧ (mtN mj).name = "<init>" ∧ retT.getD mj none = none) := by
  obtain ⟨pl, hm⟩ := mlk_mem h
  have h1 := List.all_eq_true.mp mkK _ hm
  have h2 := List.all_eq_true.mp mkI _ hm
  refine ⟨?_, ?_, ?_⟩
  · rintro rfl
    simpa using h1
  · rintro (rfl | rfl)
    · simpa using h1
    · simpa using h1
  · rintro (rfl | rfl)
    · exact ⟨by simpa using h1, by simpa using h2⟩
    · exact ⟨by simpa using h1, by simpa using h2⟩
theorem cls_k {ci : Nat} {c : vw_C} (h : clsW[ci]? = some c) (h1 : 1 ≤ ci) : (∀ w ∈ u_ws c.1 c.2.1 c.2.2, w ∈ wT) ∧ (∀ k, k < c.2.2 → parseFieldDescriptor (c.2.1 k).2.2.1 = some (tyW ci k)) ∧ (∀ a, a < c.2.2 → ∀ b, b < c.2.2 → a ≠ b → (c.2.1 a).2.1 ≠ (c.2.1 b).2.1) := by
  have key : ∀ (C : String) (T : u_T) (N : Nat), (∀ w ∈ u_ws C T N, w ∈ lw_tbl) → ∀ w ∈ u_ws C T N, w ∈ wT := by
    intro C T N hh w hw
    refine List.mem_filter.mpr ⟨hh w hw, ?_⟩
    unfold u_ws at hw
    obtain ⟨k, -, rfl⟩ := List.mem_map.mp hw
    unfold u_lay
    split <;> rfl
  have hl : ci < 10 := (List.getElem?_eq_some_iff.mp h).1
  have hx : ci = 1 ∨ ci = 2 ∨ ci = 3 ∨ ci = 4 ∨ ci = 5 ∨ ci = 6 ∨ ci = 7 ∨ ci = 8 ∨ ci = 9 := by omega
  rcases hx with rfl | rfl | rfl | rfl | rfl | rfl | rfl | rfl | rfl
  · cases h; exact ⟨key _ _ _ iX1, tyX1_ok, nmX1⟩
  · cases h; exact ⟨key _ _ _ iX2, tyX2_ok, nmX2⟩
  · cases h; exact ⟨key _ _ _ iX3, tyX3_ok, nmX3⟩
  · cases h; exact ⟨key _ _ _ iX4, tyX4_ok, nmX4⟩
  · cases h; exact ⟨key _ _ _ iX5, tyX5_ok, nmX5⟩
  · cases h; exact ⟨key _ _ _ iX6, tyX6_ok, nmX6⟩
  · cases h; exact ⟨key _ _ _ iX7, tyX7_ok, nmX7⟩
  · cases h; exact ⟨key _ _ _ iX8, tyX8_ok, nmX8⟩
  · cases h; exact ⟨key _ _ _ iX9, tyX9_ok, nmX9⟩
end
section
/-! locals -/
theorem cat_cvv (z b : Nat) (v : AV) : (cvv z b v).category = cat v := by
  rcases v with x | x | r
  · rfl
  · rfl
  · cases r <;> rfl
theorem stw_cvv (z b : Nat) (st : List AV) : ((st.map (cvv z b)).map fun v => v.category).sum = stw st := by
  induction st with
  | nil => rfl
  | cons v t ih => simp only [List.map_cons, List.sum_cons, stw, cat_cvv, ih]
def prs (z b : Nat) (ls : Ls) : List (Nat × Value) := (List.range ls.length).filterMap fun j => match ls[j]? with
  | some (some v) => some (j, cvv z b v)
  | _ => none
theorem prs_in {z b : Nat} {ls : Ls} {j : Nat} {v : AV} (h : ls[j]? = some (some v)) : (j, cvv z b v) ∈ prs z b ls := by
  refine List.mem_filterMap.mpr ⟨j, List.mem_range.mpr (List.getElem?_eq_some_iff.mp h).1, ?_⟩
  rw [h]
theorem prs_of {z b : Nat} {ls : Ls} {q : Nat × Value} (h : q ∈ prs z b ls) : ∃ v, ls[q.1]? = some (some v) ∧ q.2 = cvv z b v := by
  obtain ⟨j, -, hj⟩ := List.mem_filterMap.mp h
  split at hj
  · rename_i v hv
    cases hj
    exact ⟨v, hv, rfl⟩
  · cases hj
theorem LsI_has {z b nL : Nat} {arr : Array Slot} {ls : Ls} (h : LsI z b nL arr ls) : lv_has arr nL (prs z b ls) := by
  refine ⟨h.1, h.2.1, fun q hq => ?_⟩
  obtain ⟨v, h1, h2⟩ := prs_of hq
  rw [h2]
  exact h.2.2.2 _ _ h1
theorem clr_succ (ls : Ls) (j : Nat) : clr ls (j + 1) = (match ls[j]? with
    | some (some (.inr (.inl _))) => ls.set j none
    | _ => ls) := rfl
theorem clr_len (ls : Ls) (i : Nat) : (clr ls i).length = ls.length := by
  cases i with
  | zero => rfl
  | succ j =>
    rw [clr_succ]
    split
    · simp
    · rfl
theorem clr_get {ls : Ls} {i j : Nat} {w : AV} (h : (clr ls i)[j]? = some (some w)) : ls[j]? = some (some w) ∧ (j + 1 = i → cat w ≠ 2) := by
  cases i with
  | zero => exact ⟨h, fun q => by omega⟩
  | succ i =>
    rw [clr_succ] at h
    split at h
    · rename_i y hy
      by_cases hij : j = i
      · subst hij
        have hl : j < ls.length := (List.getElem?_eq_some_iff.mp hy).1
        rw [List.getElem?_set_self hl] at h
        cases h
      · rw [List.getElem?_set_ne (fun q => hij q.symm)] at h
        exact ⟨h, fun q => by omega⟩
    · rename_i hn
      refine ⟨h, fun q => ?_⟩
      have e : j = i := by omega
      subst e
      rcases w with x | x | r
      · exact fun q => by cases q
      · exact absurd h (hn x)
      · exact fun q => by cases q
theorem sto1_ok {z b nL : Nat} {arr : Array Slot} {ls : Ls} {i : Nat} {v : AV} (hlen : ls.length = nL) (h : lv_has arr nL ((i, cvv z b v) :: (prs z b ls).filter (fun q => !(q.1 == i) && !(q.1 + 1 == i && q.2.category == 2)))) : LsI z b nL arr (sto1 ls i v) := by
  refine ⟨h.1, h.2.1, by unfold sto1; rw [List.length_set, clr_len, hlen], fun j w hw => ?_⟩
  by_cases hj : j = i
  · subst hj
    have hl : j < (clr ls j).length := by
      have := (List.getElem?_eq_some_iff.mp hw).1
      simpa [sto1] using this
    unfold sto1 at hw
    rw [List.getElem?_set_self hl] at hw
    cases hw
    exact h.2.2 (j, cvv z b v) List.mem_cons_self
  · unfold sto1 at hw
    rw [List.getElem?_set_ne (fun q => hj q.symm)] at hw
    obtain ⟨h1, h2⟩ := clr_get hw
    refine h.2.2 (j, cvv z b w) (List.mem_cons_of_mem _ (List.mem_filter.mpr ⟨prs_in h1, ?_⟩))
    simp only [cat_cvv, Bool.and_eq_true, Bool.not_eq_true', beq_eq_false_iff_ne, Bool.and_eq_false_iff]
    refine ⟨hj, ?_⟩
    by_cases q : j + 1 = i
    · exact Or.inr (h2 q)
    · exact Or.inl q
theorem sto2_ok {z b nL : Nat} {arr : Array Slot} {ls : Ls} {i : Nat} {v : AV} (hlen : ls.length = nL) (h : lv_has arr nL ((i, cvv z b v) :: (prs z b ls).filter (fun q => !(q.1 == i) && (!(q.1 == i + 1) && !(q.1 + 1 == i && q.2.category == 2))))) : LsI z b nL arr (sto2 ls i v) := by
  refine ⟨h.1, h.2.1, by unfold sto2; rw [List.length_set, List.length_set, clr_len, hlen], fun j w hw => ?_⟩
  unfold sto2 at hw
  by_cases hj1 : j = i + 1
  · subst hj1
    have hl : i + 1 < ((clr ls i).set i (some v)).length := by
      have := (List.getElem?_eq_some_iff.mp hw).1
      simpa using this
    rw [List.getElem?_set_self hl] at hw
    cases hw
  · rw [List.getElem?_set_ne (fun q => hj1 q.symm)] at hw
    by_cases hj : j = i
    · subst hj
      have hl : j < (clr ls j).length := by
        have := (List.getElem?_eq_some_iff.mp hw).1
        simpa using this
      rw [List.getElem?_set_self hl] at hw
      cases hw
      exact h.2.2 (j, cvv z b v) List.mem_cons_self
    · rw [List.getElem?_set_ne (fun q => hj q.symm)] at hw
      obtain ⟨h1, h2⟩ := clr_get hw
      refine h.2.2 (j, cvv z b w) (List.mem_cons_of_mem _ (List.mem_filter.mpr ⟨prs_in h1, ?_⟩))
      simp only [cat_cvv, Bool.and_eq_true, Bool.not_eq_true', beq_eq_false_iff_ne, Bool.and_eq_false_iff]
      refine ⟨hj, hj1, ?_⟩
      by_cases q : j + 1 = i
      · exact Or.inr (h2 q)
      · exact Or.inl q
theorem jmp_ok {pc : Nat} {o : Int} (h : jpos pc o = true) : (pc : Int) + o = (jmp pc o : Int) := by
  have h1 : 0 ≤ (pc : Int) + o := by simpa [jpos] using h
  unfold jmp
  omega
theorem dk {cc : ByteArray} {tb : List (Nat × Instr × Nat)} (h : dchk cc tb = true) {pc : Nat} {q : Instr × Nat} (hl : lkI tb pc = some q) : decode cc pc = .ok (q.1, q.2) ∧ lnOk pc q.1 q.2 = true := by
  induction tb with
  | nil => cases hl
  | cons a t ih =>
    unfold dchk at h
    rw [List.all_cons, Bool.and_eq_true] at h
    obtain ⟨a1, a2⟩ := a
    unfold lkI at hl
    cases hb : Nat.beq a1 pc with
    | true =>
      rw [hb] at hl
      cases hl
      have e := beq_n hb
      subst e
      have h1 := h.1
      simp only [Bool.and_eq_true, decide_eq_true_eq] at h1
      exact h1
    | false =>
      rw [hb] at hl
      exact ih h.2 hl
/-- the entry -/
theorem ent_ok (z b : Nat) (as : List AV) : ∀ (k j : Nat) (v : AV), (ent as)[j]? = some (some v) → (k + j, cvv z b v) ∈ lv_args k (as.map (cvv z b)) := by
  induction as with
  | nil => intro k j v h; cases h
  | cons a t ih =>
    intro k j v h
    rcases a with x | x | r
    · rcases j with _ | j
      · cases h
        simp [lv_args, cvv, Value.category]
      · have h' : (ent t)[j]? = some (some v) := h
        have := ih (k + 1) j v h'
        simp only [List.map_cons, lv_args]
        have e : k + (j + 1) = k + 1 + j := by omega
        rw [e]
        simp [cvv, Value.category]
        exact Or.inr this
    · rcases j with _ | _ | j
      · cases h
        simp [lv_args, cvv, Value.category]
      · cases h
      · have h' : (ent t)[j]? = some (some v) := h
        have := ih (k + 2) j v h'
        simp only [List.map_cons, lv_args]
        have e : k + (j + 1 + 1) = k + 2 + j := by omega
        rw [e]
        simp [cvv, Value.category]
        exact Or.inr this
    · rcases j with _ | j
      · cases h
        cases r <;> simp [lv_args, cvv, Value.category, va_rf]
      · have h' : (ent t)[j]? = some (some v) := h
        have := ih (k + 1) j v h'
        simp only [List.map_cons, lv_args]
        have e : k + (j + 1) = k + 1 + j := by omega
        rw [e]
        cases r <;> simp [cvv, Value.category, va_rf] <;> exact Or.inr this
end
section
/-! one instruction: the machine does what 'one' says -/
section ONE
variable {me : MEnt} {ini : Bool} {d : Nat} {p : Program} {l : Launch} {e : Env} {R : Room} {s : State} {m : MethodId} {args : Array Value} {below : List Frame} {meth : Method} {c : Code} {Qm : State → Prop} {D : va_G} {dT : Nat → ClassId} {z b n0 t0 : Nat} {md : Bool} {B : Nat × Nat × Nat} {Qa : Option AV → Hp → Prop} {pc len : Nat} {ls : Ls} {st : List AV} {σ : Hp} {K : Nat → Ls → List AV → Hp → Prop}
def WA (me : MEnt) (p : Program) (l : Launch) (e : Env) (R : Room) (s : State) (m : MethodId) (args : Array Value) (below : List Frame) (meth : Method) (c : Code) (Qm : State → Prop) (D : va_G) (dT : Nat → ClassId) (z b n0 t0 : Nat) (md : Bool) (pc : Nat) (ls : Ls) (st : List AV) (σ : Hp) : Prop :=
  ∀ (H : Heap) (locs : List Loc) (arr : Array Slot) (kc ks : Nat), HI md D dT z b σ s H → va_S (fun q => z < q) s.heap H locs → LsI z b me.2.2.1 arr ls → σ.1.1 = n0 + kc → σ.1.2.1 = t0 + ks → W p l e R s m args below meth c H locs kc ks Qm (F0 m pc arr (st.map (cvv z b)))
def HRet (me : MEnt) (p : Program) (l : Launch) (e : Env) (R : Room) (s : State) (m : MethodId) (args : Array Value) (below : List Frame) (meth : Method) (c : Code) (Qm : State → Prop) (D : va_G) (dT : Nat → ClassId) (z b n0 t0 : Nat) (md : Bool) (B : Nat × Nat × Nat) (Qa : Option AV → Hp → Prop) : Prop :=
  ∀ (r : Option AV) (σ' : Hp) (H : Heap) (locs : List Loc) (arr : Array Slot) (kc ks pc' : Nat) (ri : Instr), rIns me.2.2.2.1 ri r → decode me.2.1 pc' = .ok (ri, 1) → Qa r σ' → σ'.1 = B → HI md D dT z b σ' s H → va_S (fun q => z < q) s.heap H locs → σ'.1.1 = n0 + kc → σ'.1.2.1 = t0 + ks → W p l e R s m args below meth c H locs kc ks Qm (F0 m pc' arr ((r.map (cvv z b)).toList))
def SimI (i : Instr) : Bool := match i with
  | .iconst _ => true | .bipush _ => true | .sipush _ => true | .lconst _ => true | .ldc _ => true | .ldc2_w _ => true
  | .iload_n _ => true | .iload _ => true | .lload_n _ => true | .lload _ => true | .aload_n _ => true | .aload _ => true
  | .istore_n _ => true | .istore _ => true | .lstore_n _ => true | .lstore _ => true | .astore_n _ => true | .astore _ => true | .iinc _ _ => true
  | .iadd => true | .isub => true | .imul => true | .iand => true | .ior => true | .ixor => true | .idiv => true | .irem => true | .ishl => true | .ishr => true | .iushr => true
  | .land => true | .lor => true | .lshl => true | .lshr => true | .lushr => true | .lcmp => true | .i2l => true | .l2i => true | .i2c => true | .dup => true | .dup2 => true | .pop => true
  | .goto _ => true | .ifCond _ _ => true | .if_icmp _ _ => true | .ifnonnull _ => true | .tableswitch _ _ _ _ => true | .lookupswitch _ _ => true
  | _ => false
theorem tgts_at {pc : Nat} {x : Int32} {K : Nat → Prop} : ∀ (offs : List Int) (lo : Int) (j : Nat) (o : Int), tgts pc x K lo offs → offs[j]? = some o → x = Int32.ofInt (lo + j) → K (jmp pc o) := by
  intro offs
  induction offs with
  | nil => intro lo j o _ h; cases h
  | cons a t ih =>
    intro lo j o h hj hx
    cases j with
    | zero =>
      cases hj
      exact h.1 (by rw [hx]; simp)
    | succ j =>
      exact ih (lo + 1) j o h.2 hj (by rw [hx]; congr 1; omega)
theorem ofInt_toInt (x : Int32) : Int32.ofInt x.toInt = x := by simp
theorem ofInt_lit {a : Int} (h1 : -1000000 ≤ a) (h2 : a ≤ 1000000) : (Int32.ofInt a).toInt = a := by
  have e : (Int32.size : Int) = 4294967296 := rfl
  rw [Int32.toInt_ofInt]
  apply Int.bmod_eq_of_le <;> omega
set_option maxHeartbeats 4000000 in
theorem one_sim (X : Cx me ini d p R s m args meth c) {ins : Instr} (hsi : SimI ins = true) (hd : decode me.2.1 pc = .ok (ins, len)) (hln : lnOk pc ins len = true)
    (h : one md ini d B me.2.2.2.1 Qa me.2.2.2.2.1 ins pc ls st σ K) (hK : ∀ pc' ls' st' σ', K pc' ls' st' σ' → WA me p l e R s m args below meth c Qm D dT z b n0 t0 md pc' ls' st' σ') : WA me p l e R s m args below meth c Qm D dT z b n0 t0 md pc ls st σ := by
  obtain ⟨hx, hb, hml, hown, hts, hini, hfr, hlo, hdc⟩ := X
  intro H locs arr kc ks hH hS hLs hc hs
  cases ins with
  | iconst n =>
    obtain rfl : len = 1 := by simpa [lnOk] using hln
    exact lv_iconst hx hb hd rfl (hK _ _ _ _ h H locs arr kc ks hH hS hLs hc hs)
  | bipush n =>
    obtain rfl : len = 2 := by simpa [lnOk] using hln
    exact lv_bipush hx hb hd rfl (hK _ _ _ _ h H locs arr kc ks hH hS hLs hc hs)
  | sipush n =>
    obtain rfl : len = 3 := by simpa [lnOk] using hln
    exact lv_sipush hx hb hd rfl (hK _ _ _ _ h H locs arr kc ks hH hS hLs hc hs)
  | lconst n =>
    obtain rfl : len = 1 := by simpa [lnOk] using hln
    exact lv_lconst hx hb hd rfl (hK _ _ _ _ h H locs arr kc ks hH hS hLs hc hs)
  | ldc i =>
    obtain rfl : len = 2 := by simpa [lnOk] using hln
    cases hv : ick me.2.2.2.2.1 i with
    | none => simp only [one, hv] at h
    | some v =>
      simp only [one, hv] at h
      exact lv_ldc hx hb hown (hts _ (ick_w hv)) hd (hK _ _ _ _ h H locs arr kc ks hH hS hLs hc hs)
  | ldc2_w i =>
    obtain rfl : len = 3 := by simpa [lnOk] using hln
    cases hv : lck me.2.2.2.2.1 i with
    | none => simp only [one, hv] at h
    | some v =>
      simp only [one, hv] at h
      exact lv_ldc2 hx hb hown (hts _ (lck_w hv)) hd (hK _ _ _ _ h H locs arr kc ks hH hS hLs hc hs)
  | iload_n k =>
    obtain rfl : len = 1 := by simpa [lnOk] using hln
    simp only [one] at h
    split at h
    · rename_i x hl
      exact lv_iload_n hx hb hd rfl (hLs.2.2.2 _ _ hl) (hK _ _ _ _ h H locs arr kc ks hH hS hLs hc hs)
    · exact h.elim
  | iload k =>
    obtain rfl : len = 2 := by simpa [lnOk] using hln
    simp only [one] at h
    split at h
    · rename_i x hl
      exact lv_iload hx hb hd (hLs.2.2.2 _ _ hl) (hK _ _ _ _ h H locs arr kc ks hH hS hLs hc hs)
    · exact h.elim
  | lload_n k =>
    obtain rfl : len = 1 := by simpa [lnOk] using hln
    simp only [one] at h
    split at h
    · rename_i x hl
      exact lv_lload_n hx hb hd rfl (hLs.2.2.2 _ _ hl) (hK _ _ _ _ h H locs arr kc ks hH hS hLs hc hs)
    · exact h.elim
  | lload k =>
    obtain rfl : len = 2 := by simpa [lnOk] using hln
    simp only [one] at h
    split at h
    · rename_i x hl
      exact lv_lload hx hb hd (hLs.2.2.2 _ _ hl) (hK _ _ _ _ h H locs arr kc ks hH hS hLs hc hs)
    · exact h.elim
  | aload_n k =>
    obtain rfl : len = 1 := by simpa [lnOk] using hln
    simp only [one] at h
    split at h
    · rename_i x hl
      exact lv_aload_n hx hb hd rfl (hLs.2.2.2 _ _ hl) (hK _ _ _ _ h H locs arr kc ks hH hS hLs hc hs)
    · exact h.elim
  | aload k =>
    obtain rfl : len = 2 := by simpa [lnOk] using hln
    simp only [one] at h
    split at h
    · rename_i x hl
      exact lv_aload hx hb hd (hLs.2.2.2 _ _ hl) (hK _ _ _ _ h H locs arr kc ks hH hS hLs hc hs)
    · exact h.elim
  | istore_n k =>
    obtain rfl : len = 1 := by simpa [lnOk] using hln
    rcases st with _ | ⟨x | x | x, r⟩
    · exact False.elim h
    · simp only [one] at h
      cases hq : Nat.blt (k : Nat) ls.length with
      | false => rw [hq] at h; exact False.elim h
      | true =>
        rw [hq] at h
        have hlt : (k : Nat) < ls.length := by simpa using hq
        exact lv_istore_n (x := x) hx hb hd rfl (LsI_has hLs) (by rw [← hLs.2.2.1]; exact hlt) rfl (fun arr' ha => hK _ _ _ _ h H locs arr' kc ks hH hS (sto1_ok (v := vi x) hLs.2.2.1 ha) hc hs)
    · exact False.elim h
    · exact False.elim h
  | istore k =>
    obtain rfl : len = 2 := by simpa [lnOk] using hln
    rcases st with _ | ⟨x | x | x, r⟩
    · exact False.elim h
    · simp only [one] at h
      cases hq : Nat.blt k ls.length with
      | false => rw [hq] at h; exact False.elim h
      | true =>
        rw [hq] at h
        have hlt : k < ls.length := by simpa using hq
        exact lv_istore (x := x) hx hb hd (LsI_has hLs) (by rw [← hLs.2.2.1]; exact hlt) rfl (fun arr' ha => hK _ _ _ _ h H locs arr' kc ks hH hS (sto1_ok (v := vi x) hLs.2.2.1 ha) hc hs)
    · exact False.elim h
    · exact False.elim h
  | lstore_n k =>
    obtain rfl : len = 1 := by simpa [lnOk] using hln
    rcases st with _ | ⟨x | x | x, r⟩
    · exact False.elim h
    · exact False.elim h
    · simp only [one] at h
      cases hq : Nat.blt ((k : Nat) + 1) ls.length with
      | false => rw [hq] at h; exact False.elim h
      | true =>
        rw [hq] at h
        have hlt : (k : Nat) + 1 < ls.length := by simpa using hq
        exact lv_lstore_n (x := x) hx hb hd rfl (LsI_has hLs) (by rw [← hLs.2.2.1]; exact hlt) rfl (fun arr' ha => hK _ _ _ _ h H locs arr' kc ks hH hS (sto2_ok (v := vl x) hLs.2.2.1 ha) hc hs)
    · exact False.elim h
  | lstore k =>
    obtain rfl : len = 2 := by simpa [lnOk] using hln
    rcases st with _ | ⟨x | x | x, r⟩
    · exact False.elim h
    · exact False.elim h
    · simp only [one] at h
      cases hq : Nat.blt (k + 1) ls.length with
      | false => rw [hq] at h; exact False.elim h
      | true =>
        rw [hq] at h
        have hlt : k + 1 < ls.length := by simpa using hq
        exact lv_lstore (x := x) hx hb hd (LsI_has hLs) (by rw [← hLs.2.2.1]; exact hlt) rfl (fun arr' ha => hK _ _ _ _ h H locs arr' kc ks hH hS (sto2_ok (v := vl x) hLs.2.2.1 ha) hc hs)
    · exact False.elim h
  | astore_n k =>
    obtain rfl : len = 1 := by simpa [lnOk] using hln
    rcases st with _ | ⟨x | x | _ | a, r⟩
    · exact False.elim h
    · exact False.elim h
    · exact False.elim h
    · exact False.elim h
    · simp only [one] at h
      cases hq : Nat.blt (k : Nat) ls.length with
      | false => rw [hq] at h; exact False.elim h
      | true =>
        rw [hq] at h
        have hlt : (k : Nat) < ls.length := by simpa using hq
        exact lv_astore_n (x := adr z b a) hx hb hd rfl (LsI_has hLs) (by rw [← hLs.2.2.1]; exact hlt) rfl (fun arr' ha => hK _ _ _ _ h H locs arr' kc ks hH hS (sto1_ok (v := .inr (.inr (some a))) hLs.2.2.1 ha) hc hs)
  | astore k =>
    obtain rfl : len = 2 := by simpa [lnOk] using hln
    rcases st with _ | ⟨x | x | _ | a, r⟩
    · exact False.elim h
    · exact False.elim h
    · exact False.elim h
    · exact False.elim h
    · simp only [one] at h
      cases hq : Nat.blt k ls.length with
      | false => rw [hq] at h; exact False.elim h
      | true =>
        rw [hq] at h
        have hlt : k < ls.length := by simpa using hq
        exact lv_astore (x := adr z b a) hx hb hd (LsI_has hLs) (by rw [← hLs.2.2.1]; exact hlt) rfl (fun arr' ha => hK _ _ _ _ h H locs arr' kc ks hH hS (sto1_ok (v := .inr (.inr (some a))) hLs.2.2.1 ha) hc hs)
  | iinc k n =>
    obtain rfl : len = 3 := by simpa [lnOk] using hln
    simp only [one] at h
    split at h
    · rename_i x hl
      obtain ⟨q, hq⟩ := List.getElem?_of_mem (prs_in (z := z) (b := b) hl)
      exact lv_iinc (x := x) (v := x + Int32.ofInt n) hx hb hd (LsI_has hLs) (k := q) hq rfl (by rw [← hLs.2.2.1]; exact (List.getElem?_eq_some_iff.mp hl).1) rfl (fun arr' ha => hK _ _ _ _ h H locs arr' kc ks hH hS (sto1_ok (v := vi (x + Int32.ofInt n)) hLs.2.2.1 ha) hc hs)
    · exact h.elim
  | iadd =>
    obtain rfl : len = 1 := by simpa [lnOk] using hln
    rcases st with _ | ⟨y | y | y, _ | ⟨x | x | x, r⟩⟩ <;> first | exact False.elim h | exact lv_iadd hx hb hd (hK _ _ _ _ h H locs arr kc ks hH hS hLs hc hs)
  | isub =>
    obtain rfl : len = 1 := by simpa [lnOk] using hln
    rcases st with _ | ⟨y | y | y, _ | ⟨x | x | x, r⟩⟩ <;> first | exact False.elim h | exact lv_isub hx hb hd (hK _ _ _ _ h H locs arr kc ks hH hS hLs hc hs)
  | imul =>
    obtain rfl : len = 1 := by simpa [lnOk] using hln
    rcases st with _ | ⟨y | y | y, _ | ⟨x | x | x, r⟩⟩ <;> first | exact False.elim h | exact lv_imul hx hb hd (hK _ _ _ _ h H locs arr kc ks hH hS hLs hc hs)
  | iand =>
    obtain rfl : len = 1 := by simpa [lnOk] using hln
    rcases st with _ | ⟨y | y | y, _ | ⟨x | x | x, r⟩⟩ <;> first | exact False.elim h | exact lv_iand hx hb hd (hK _ _ _ _ h H locs arr kc ks hH hS hLs hc hs)
  | ior =>
    obtain rfl : len = 1 := by simpa [lnOk] using hln
    rcases st with _ | ⟨y | y | y, _ | ⟨x | x | x, r⟩⟩ <;> first | exact False.elim h | exact lv_ior hx hb hd (hK _ _ _ _ h H locs arr kc ks hH hS hLs hc hs)
  | ixor =>
    obtain rfl : len = 1 := by simpa [lnOk] using hln
    rcases st with _ | ⟨y | y | y, _ | ⟨x | x | x, r⟩⟩ <;> first | exact False.elim h | exact lv_ixor hx hb hd (hK _ _ _ _ h H locs arr kc ks hH hS hLs hc hs)
  | ishl =>
    obtain rfl : len = 1 := by simpa [lnOk] using hln
    rcases st with _ | ⟨y | y | y, _ | ⟨x | x | x, r⟩⟩ <;> first | exact False.elim h | exact lv_ishl hx hb hd (hK _ _ _ _ h H locs arr kc ks hH hS hLs hc hs)
  | ishr =>
    obtain rfl : len = 1 := by simpa [lnOk] using hln
    rcases st with _ | ⟨y | y | y, _ | ⟨x | x | x, r⟩⟩ <;> first | exact False.elim h | exact lv_ishr hx hb hd (hK _ _ _ _ h H locs arr kc ks hH hS hLs hc hs)
  | land =>
    obtain rfl : len = 1 := by simpa [lnOk] using hln
    rcases st with _ | ⟨y | y | y, _ | ⟨x | x | x, r⟩⟩ <;> first | exact False.elim h | exact lv_land hx hb hd (hK _ _ _ _ h H locs arr kc ks hH hS hLs hc hs)
  | lor =>
    obtain rfl : len = 1 := by simpa [lnOk] using hln
    rcases st with _ | ⟨y | y | y, _ | ⟨x | x | x, r⟩⟩ <;> first | exact False.elim h | exact lv_lor hx hb hd (hK _ _ _ _ h H locs arr kc ks hH hS hLs hc hs)
  | idiv =>
    obtain rfl : len = 1 := by simpa [lnOk] using hln
    rcases st with _ | ⟨y | y | y, _ | ⟨x | x | x, r⟩⟩ <;> first | exact False.elim h | exact lv_idiv hx hb hd h.1 (hK _ _ _ _ h.2 H locs arr kc ks hH hS hLs hc hs)
  | irem =>
    obtain rfl : len = 1 := by simpa [lnOk] using hln
    rcases st with _ | ⟨y | y | y, _ | ⟨x | x | x, r⟩⟩ <;> first | exact False.elim h | exact lv_irem hx hb hd h.1 (hK _ _ _ _ h.2 H locs arr kc ks hH hS hLs hc hs)
  | iushr =>
    obtain rfl : len = 1 := by simpa [lnOk] using hln
    rcases st with _ | ⟨y | y | y, _ | ⟨x | x | x, r⟩⟩ <;> first | exact False.elim h | exact lv_iushr hx hb hd rfl (hK _ _ _ _ h H locs arr kc ks hH hS hLs hc hs)
  | lshl =>
    obtain rfl : len = 1 := by simpa [lnOk] using hln
    rcases st with _ | ⟨y | y | y, _ | ⟨x | x | x, r⟩⟩ <;> first | exact False.elim h | exact lv_lshl hx hb hd rfl (hK _ _ _ _ h H locs arr kc ks hH hS hLs hc hs)
  | lshr =>
    obtain rfl : len = 1 := by simpa [lnOk] using hln
    rcases st with _ | ⟨y | y | y, _ | ⟨x | x | x, r⟩⟩ <;> first | exact False.elim h | exact lv_lshr hx hb hd rfl (hK _ _ _ _ h H locs arr kc ks hH hS hLs hc hs)
  | lushr =>
    obtain rfl : len = 1 := by simpa [lnOk] using hln
    rcases st with _ | ⟨y | y | y, _ | ⟨x | x | x, r⟩⟩ <;> first | exact False.elim h | exact lv_lushr hx hb hd rfl (hK _ _ _ _ h H locs arr kc ks hH hS hLs hc hs)
  | lcmp =>
    obtain rfl : len = 1 := by simpa [lnOk] using hln
    rcases st with _ | ⟨y | y | y, _ | ⟨x | x | x, r⟩⟩ <;> first | exact False.elim h | exact W.lcmp hx hb hd (hK _ _ _ _ h H locs arr kc ks hH hS hLs hc hs)
  | i2l =>
    obtain rfl : len = 1 := by simpa [lnOk] using hln
    rcases st with _ | ⟨y | y | y, r⟩ <;> first | exact False.elim h | exact lv_i2l hx hb hd rfl (hK _ _ _ _ h H locs arr kc ks hH hS hLs hc hs)
  | l2i =>
    obtain rfl : len = 1 := by simpa [lnOk] using hln
    rcases st with _ | ⟨y | y | y, r⟩ <;> first | exact False.elim h | exact lv_l2i hx hb hd rfl (hK _ _ _ _ h H locs arr kc ks hH hS hLs hc hs)
  | i2c =>
    obtain rfl : len = 1 := by simpa [lnOk] using hln
    rcases st with _ | ⟨y | y | y, r⟩ <;> first | exact False.elim h | exact lv_i2c hx hb hd rfl (hK _ _ _ _ h H locs arr kc ks hH hS hLs hc hs)
  | dup =>
    obtain rfl : len = 1 := by simpa [lnOk] using hln
    rcases st with _ | ⟨y | y | y, r⟩ <;> first | exact False.elim h | exact lv_dup hx hb hd (by rw [cat_cvv]; rfl) (hK _ _ _ _ h H locs arr kc ks hH hS hLs hc hs)
  | dup2 =>
    obtain rfl : len = 1 := by simpa [lnOk] using hln
    rcases st with _ | ⟨y | y | y, r⟩
    · exact False.elim h
    · rcases r with _ | ⟨x | x | x, r⟩ <;> first | exact False.elim h | exact lv_dup2_11 hx hb hd (by rw [cat_cvv]; rfl) (by rw [cat_cvv]; rfl) (hK _ _ _ _ h H locs arr kc ks hH hS hLs hc hs)
    · exact lv_dup2_2 hx hb hd (by rw [cat_cvv]; rfl) (hK _ _ _ _ h H locs arr kc ks hH hS hLs hc hs)
    · exact False.elim h
  | pop =>
    obtain rfl : len = 1 := by simpa [lnOk] using hln
    rcases st with _ | ⟨y | y | y, r⟩ <;> first | exact False.elim h | exact lv_pop hx hb hd (by rw [cat_cvv]; rfl) (hK _ _ _ _ h H locs arr kc ks hH hS hLs hc hs)
  | goto o =>
    have hq : jpos pc o = true ∧ len = 3 := by simpa [lnOk] using hln
    obtain ⟨hj, rfl⟩ := hq
    exact lv_goto hx hb hd (jmp_ok hj) (hK _ _ _ _ h H locs arr kc ks hH hS hLs hc hs)
  | ifCond q o =>
    have hq : jpos pc o = true ∧ len = 3 := by simpa [lnOk] using hln
    obtain ⟨hj, rfl⟩ := hq
    rcases st with _ | ⟨y | y | y, r⟩
    · exact False.elim h
    · cases q with
      | eq => exact lv_if_eq hx hb hd (jmp_ok hj) (fun g => hK _ _ _ _ (h.1 g) H locs arr kc ks hH hS hLs hc hs) (fun g => hK _ _ _ _ (h.2 g) H locs arr kc ks hH hS hLs hc hs)
      | ne => exact lv_if_ne hx hb hd (jmp_ok hj) (fun g => hK _ _ _ _ (h.1 g) H locs arr kc ks hH hS hLs hc hs) (fun g => hK _ _ _ _ (h.2 g) H locs arr kc ks hH hS hLs hc hs)
      | lt => exact lv_if_lt hx hb hd (jmp_ok hj) (fun g => hK _ _ _ _ (h.1 g) H locs arr kc ks hH hS hLs hc hs) (fun g => hK _ _ _ _ (h.2 g) H locs arr kc ks hH hS hLs hc hs)
      | ge => exact lv_if_ge hx hb hd (jmp_ok hj) (fun g => hK _ _ _ _ (h.1 g) H locs arr kc ks hH hS hLs hc hs) (fun g => hK _ _ _ _ (h.2 g) H locs arr kc ks hH hS hLs hc hs)
      | gt => exact lv_if_gt hx hb hd (jmp_ok hj) (fun g => hK _ _ _ _ (h.1 g) H locs arr kc ks hH hS hLs hc hs) (fun g => hK _ _ _ _ (h.2 g) H locs arr kc ks hH hS hLs hc hs)
      | le => exact lv_if_le hx hb hd (jmp_ok hj) (fun g => hK _ _ _ _ (h.1 g) H locs arr kc ks hH hS hLs hc hs) (fun g => hK _ _ _ _ (h.2 g) H locs arr kc ks hH hS hLs hc hs)
    · exact False.elim h
    · exact False.elim h
  | if_icmp q o =>
    have hq : jpos pc o = true ∧ len = 3 := by simpa [lnOk] using hln
    obtain ⟨hj, rfl⟩ := hq
    rcases st with _ | ⟨y | y | y, _ | ⟨x | x | x, r⟩⟩
    · exact False.elim h
    · exact False.elim h
    · cases q with
      | eq => exact lv_icmp_eq hx hb hd (jmp_ok hj) (fun g => hK _ _ _ _ (h.1 g) H locs arr kc ks hH hS hLs hc hs) (fun g => hK _ _ _ _ (h.2 g) H locs arr kc ks hH hS hLs hc hs)
      | ne => exact lv_icmp_ne hx hb hd (jmp_ok hj) (fun g => hK _ _ _ _ (h.1 g) H locs arr kc ks hH hS hLs hc hs) (fun g => hK _ _ _ _ (h.2 g) H locs arr kc ks hH hS hLs hc hs)
      | lt => exact lv_icmp_lt hx hb hd (jmp_ok hj) (fun g => hK _ _ _ _ (h.1 g) H locs arr kc ks hH hS hLs hc hs) (fun g => hK _ _ _ _ (h.2 g) H locs arr kc ks hH hS hLs hc hs)
      | ge => exact lv_icmp_ge hx hb hd (jmp_ok hj) (fun g => hK _ _ _ _ (h.1 g) H locs arr kc ks hH hS hLs hc hs) (fun g => hK _ _ _ _ (h.2 g) H locs arr kc ks hH hS hLs hc hs)
      | gt => exact lv_icmp_gt hx hb hd (jmp_ok hj) (fun g => hK _ _ _ _ (h.1 g) H locs arr kc ks hH hS hLs hc hs) (fun g => hK _ _ _ _ (h.2 g) H locs arr kc ks hH hS hLs hc hs)
      | le => exact lv_icmp_le hx hb hd (jmp_ok hj) (fun g => hK _ _ _ _ (h.1 g) H locs arr kc ks hH hS hLs hc hs) (fun g => hK _ _ _ _ (h.2 g) H locs arr kc ks hH hS hLs hc hs)
    all_goals exact False.elim h
  | ifnonnull o =>
    have hq : jpos pc o = true ∧ len = 3 := by simpa [lnOk] using hln
    obtain ⟨hj, rfl⟩ := hq
    rcases st with _ | ⟨y | y | _ | ⟨f, q⟩, r⟩
    · exact False.elim h
    · exact False.elim h
    · exact False.elim h
    · exact lv_ifnonnullN hx hb hd (hK _ _ _ _ (h.2 rfl) H locs arr kc ks hH hS hLs hc hs)
    · exact lv_ifnonnull hx hb hd (jmp_ok hj) (hK _ _ _ _ (h.1 f q rfl) H locs arr kc ks hH hS hLs hc hs)
  | tableswitch dflt lo hi offs =>
    have hq : ((jpos pc dflt = true ∧ offs.toList.all (jpos pc) = true) ∧ hi = lo + (offs.toList.length : Int) - 1) ∧ -1000 ≤ lo ∧ hi ≤ 1000 := by
      simp only [lnOk, Bool.and_eq_true, decide_eq_true_eq] at hln
      exact ⟨hln.1.1, hln.1.2, hln.2⟩
    obtain ⟨⟨⟨hj, hjs⟩, hhi⟩, hl1, hl2⟩ := hq
    rcases st with _ | ⟨y | y | y, r⟩
    · exact False.elim h
    · by_cases g1 : y.toInt < lo
      · exact lv_tableOut hx hb hd (Or.inl g1) (jmp_ok hj) (hK _ _ _ _ (h.2 (Or.inl g1)) H locs arr kc ks hH hS hLs hc hs)
      · by_cases g2 : hi < y.toInt
        · exact lv_tableOut hx hb hd (Or.inr g2) (jmp_ok hj) (hK _ _ _ _ (h.2 (Or.inr g2)) H locs arr kc ks hH hS hLs hc hs)
        · have hlt : (y.toInt - lo).toNat < offs.toList.length := by omega
          obtain ⟨o, ho⟩ : ∃ o, offs.toList[(y.toInt - lo).toNat]? = some o := ⟨_, List.getElem?_eq_getElem hlt⟩
          have ho2 : offs[(y.toInt - lo).toNat]? = some o := by rw [← Array.getElem?_toList]; exact ho
          have hjo : jpos pc o = true := List.all_eq_true.mp hjs o (List.mem_of_getElem? ho)
          refine lv_tableIn hx hb hd g1 g2 ho2 (jmp_ok hjo) (hK _ _ _ _ ?_ H locs arr kc ks hH hS hLs hc hs)
          refine tgts_at offs.toList lo _ o h.1 ho ?_
          have e : lo + ((y.toInt - lo).toNat : Int) = y.toInt := by omega
          rw [e]
          exact (ofInt_toInt y).symm
    · exact False.elim h
    · exact False.elim h
  | lookupswitch dflt ps =>
    simp only [lnOk, Bool.and_eq_true] at hln
    obtain ⟨⟨hj, hps⟩, hord⟩ := hln
    rcases st with _ | ⟨y | y | y, r⟩
    · exact False.elim h
    · have key : ∀ (qs : List (Int × Int)), (qs.all fun q => jpos pc q.2 && decide (-1000000 ≤ q.1) && decide (q.1 ≤ 1000000)) = true → lkts pc y (fun t => K t ls r σ) dflt qs → jpos pc (Op.lookupswitch.offset qs dflt y.toInt) = true ∧ K (jmp pc (Op.lookupswitch.offset qs dflt y.toInt)) ls r σ := by
        intro qs
        induction qs with
        | nil =>
          intro _ hk
          exact ⟨hj, hk⟩
        | cons a t ih =>
          intro ha hk
          rw [List.all_cons, Bool.and_eq_true] at ha
          obtain ⟨ha1, ha2⟩ := ha
          simp only [Bool.and_eq_true, decide_eq_true_eq] at ha1
          obtain ⟨a1, a2⟩ := a
          have ea : (Int32.ofInt a1).toInt = a1 := ofInt_lit ha1.1.2 ha1.2
          by_cases hy : y = Int32.ofInt a1
          · have e1 : y.toInt = a1 := by rw [hy]; exact ea
            have e2 : Op.lookupswitch.offset ((a1, a2) :: t) dflt y.toInt = a2 := by rw [Op.lookupswitch.offset_cons, if_pos e1.symm]
            rw [e2]
            exact ⟨ha1.1.1, hk.1 hy⟩
          · rw [lv_osw hy ea]
            exact ih ha2 (hk.2 hy)
      obtain ⟨k1, k2⟩ := key ps.toList hps h
      exact lv_lookup hx hb hd hord rfl (jmp_ok k1) (hK _ _ _ _ k2 H locs arr kc ks hH hS hLs hc hs)
    · exact False.elim h
    · exact False.elim h
  | _ => cases hsi
end ONE
end
section
section RD
variable {me : MEnt} {ini : Bool} {d : Nat} {p : Program} {l : Launch} {e : Env} {R : Room} {s : State} {m : MethodId} {args : Array Value} {below : List Frame} {meth : Method} {c : Code} {Qm : State → Prop} {D : va_G} {dT : Nat → ClassId} {z b n0 t0 : Nat} {md : Bool} {B : Nat × Nat × Nat} {Qa : Option AV → Hp → Prop} {pc len : Nat} {ls : Ls} {st : List AV} {σ : Hp} {K : Nat → Ls → List AV → Hp → Prop}
theorem ref_eq {z b f p p' : Nat} (hf : 1 ≤ f) (h : cidx f p = cidx f p') : cvv z b (.inr (.inr (some (f, p)))) = .ref (z + cidx f p') := by
  show Value.ref (adr z b (f, p)) = _
  rw [adr_eq hf h]
theorem fk_ne0 {f k : Nat} (h : (fkd f).1 = k) (hk : k < 90) : 1 ≤ f := (fkd_in (by omega)).2.1
theorem obj_n {f ci : Nat} (h : (fkd f).1 = ci) (h10 : ci < 10) {cc : vw_C} (hc : clsW[ci]? = some cc) : (fkd f).2 = cc.2.2 := by
  obtain ⟨h1, -, -⟩ := fkd_in (f := f) (by omega)
  obtain ⟨g1, g2, g3⟩ := (fkB f h1).1 (by omega)
  rw [g3]
  exact (ftN _ (by omega) g1 cc (by rw [h]; exact hc)).1
theorem one_getf (X : Cx me ini d p R s m args meth c) {i : Nat} (hd : decode me.2.1 pc = .ok (.getfield i, len)) (hln : lnOk pc (.getfield i) len = true)
    (h : one md ini d B me.2.2.2.1 Qa me.2.2.2.2.1 (.getfield i) pc ls st σ K) (hK : ∀ pc' ls' st' σ', K pc' ls' st' σ' → WA me p l e R s m args below meth c Qm D dT z b n0 t0 md pc' ls' st' σ') : WA me p l e R s m args below meth c Qm D dT z b n0 t0 md pc ls st σ := by
  obtain ⟨hx, hb, hml, hown, hts, hini, hfr, hlo, hdc⟩ := X
  intro H locs arr kc ks hH hS hLs hc hs
  obtain rfl : len = 3 := by simpa [lnOk] using hln
  rcases st with _ | ⟨x | x | _ | ⟨f, q⟩, r⟩
  · exact False.elim h
  · exact False.elim h
  · exact False.elim h
  · exact False.elim h
  · simp only [one] at h
    cases hf : flk me.2.2.2.2.1 i with
    | none => rw [hf] at h; exact False.elim h
    | some ck =>
      obtain ⟨ci, k⟩ := ck
      rw [hf] at h
      dsimp only at h
      cases hq : Nat.beq (fkd f).1 ci with
      | false => rw [hq] at h; exact False.elim h
      | true =>
        rw [hq, cond_true] at h
        have hk0 := beq_n hq
        obtain ⟨⟨C, T, N⟩, hcl, hkN, h1, h10, hw⟩ := flk_w hf
        obtain ⟨hin, hty, hnm⟩ := cls_k hcl h1
        obtain ⟨p', hp', ep, hl, hl1, hfa⟩ := acc_ok (by omega) hH.2.2.2.2.2.2.2 h
        have he := wsl_get md dT z b σ hl hl1 hfa
        rw [cell_o (by omega), hk0, obj_n hk0 h10 hcl] at he
        refine W.eq (g2 := F0 m pc arr (.ref (z + cidx f p') :: r.map (cvv z b))) (by rw [List.map_cons, ref_eq (fk_ne0 hk0 (by omega)) ep]) ?_
        refine va_get (v := cvv z b (rdf md σ ci f p' k)) hx hb hts hin hown hH.1 hH.2.1 _ he hcl k hkN (hts _ hw) (fun _ h9 => h9) ?_ hd (hK _ _ _ _ hp' H locs arr kc ks hH hS hLs hc hs)
        rw [List.getElem?_map, List.getElem?_range hkN]
        rfl
theorem one_iald (X : Cx me ini d p R s m args meth c) (hd : decode me.2.1 pc = .ok (.iaload, len)) (hln : lnOk pc .iaload len = true) (hz : z < s.heap.size)
    (h : one md ini d B me.2.2.2.1 Qa me.2.2.2.2.1 .iaload pc ls st σ K) (hK : ∀ pc' ls' st' σ', K pc' ls' st' σ' → WA me p l e R s m args below meth c Qm D dT z b n0 t0 md pc' ls' st' σ') : WA me p l e R s m args below meth c Qm D dT z b n0 t0 md pc ls st σ := by
  obtain ⟨hx, hb, hml, hown, hts, hini, hfr, hlo, hdc⟩ := X
  intro H locs arr kc ks hH hS hLs hc hs
  obtain rfl : len = 1 := by simpa [lnOk] using hln
  rcases st with _ | ⟨i | x | x, _ | ⟨x | x | _ | ⟨f, q⟩, r⟩⟩
  · exact False.elim h
  · exact False.elim h
  · exact False.elim h
  · exact False.elim h
  · exact False.elim h
  · rcases f with _ | f
    · have h' : vp_in i σ.1.2.2 ∧ K (pc + 1) ls (vi (hI σ 0 0 i.toNatClampNeg) :: r) σ := h
      have hX : va_X b σ.1.2.2 (hI σ 0 0) s H := hH.2.2.2.2.1
      obtain ⟨scr, g1, g2, g3, g4, g5⟩ := hX
      have hlt : i.toNatClampNeg < σ.1.2.2 := Nat.not_le.mp fun q => h'.1 (Or.inr q)
      exact W.iald (v := .int (hI σ 0 0 i.toNatClampNeg)) hx hb g1 g2 g3 (by rw [g4]; exact h'.1) (g5 _ hlt) rfl rfl hd (hK _ _ _ _ h'.2 H locs arr kc ks hH hS hLs hc hs)
    · have h' : (bif Nat.beq (fkd (f + 1)).1 20 then acc md σ (f + 1) q fun p' => vp_in i (fkd (f + 1)).2 ∧ K (pc + 1) ls (vi (hI σ (f + 1) p' i.toNatClampNeg) :: r) σ else False) := h
      cases hq : Nat.beq (fkd (f + 1)).1 20 with
      | false => rw [hq] at h'; exact False.elim h'
      | true =>
        rw [hq, cond_true] at h'
        have hk0 := beq_n hq
        obtain ⟨p', hp', ep, hl, hl1, hfa⟩ := acc_ok (by omega) hH.2.2.2.2.2.2.2 h'
        have he := wsl_get md dT z b σ hl hl1 hfa
        rw [cell_i hk0 (Or.inl rfl)] at he
        refine W.eq (g2 := F0 m pc arr (.int i :: .ref (z + cidx (f + 1) p') :: r.map (cvv z b))) (by rw [List.map_cons, List.map_cons, ref_eq (Nat.le_add_left 1 f) ep]; rfl) ?_
        exact va_iald hx hb hH.1 hH.2.1 _ 0 he rfl hp'.1 hd (hK _ _ _ _ hp'.2 H locs arr kc ks hH hS hLs hc hs)
  all_goals exact False.elim h
theorem one_cald (X : Cx me ini d p R s m args meth c) (hd : decode me.2.1 pc = .ok (.caload, len)) (hln : lnOk pc .caload len = true)
    (h : one md ini d B me.2.2.2.1 Qa me.2.2.2.2.1 .caload pc ls st σ K) (hK : ∀ pc' ls' st' σ', K pc' ls' st' σ' → WA me p l e R s m args below meth c Qm D dT z b n0 t0 md pc' ls' st' σ') : WA me p l e R s m args below meth c Qm D dT z b n0 t0 md pc ls st σ := by
  obtain ⟨hx, hb, hml, hown, hts, hini, hfr, hlo, hdc⟩ := X
  intro H locs arr kc ks hH hS hLs hc hs
  obtain rfl : len = 1 := by simpa [lnOk] using hln
  rcases st with _ | ⟨i | x | x, _ | ⟨x | x | _ | ⟨f, q⟩, r⟩⟩
  · exact False.elim h
  · exact False.elim h
  · exact False.elim h
  · exact False.elim h
  · exact False.elim h
  · have h' : (bif Nat.beq (fkd f).1 21 then acc md σ f q fun p' => vp_in i (fkd f).2 ∧ K (pc + 1) ls (vi (hI σ f p' i.toNatClampNeg) :: r) σ else False) := h
    cases hq : Nat.beq (fkd f).1 21 with
    | false => rw [hq] at h'; exact False.elim h'
    | true =>
      rw [hq, cond_true] at h'
      have hk0 := beq_n hq
      obtain ⟨p', hp', ep, hl, hl1, hfa⟩ := acc_ok (by omega) hH.2.2.2.2.2.2.2 h'
      have he := wsl_get md dT z b σ hl hl1 hfa
      rw [cell_i hk0 (Or.inr rfl)] at he
      refine W.eq (g2 := F0 m pc arr (.int i :: .ref (z + cidx f p') :: r.map (cvv z b))) (by rw [List.map_cons, List.map_cons, ref_eq (fk_ne0 hk0 (by omega)) ep]; rfl) ?_
      exact va_cald hx hb hH.1 hH.2.1 _ 1 he rfl hp'.1 hd (hK _ _ _ _ hp'.2 H locs arr kc ks hH hS hLs hc hs)
  all_goals exact False.elim h
theorem one_lald (X : Cx me ini d p R s m args meth c) (hd : decode me.2.1 pc = .ok (.laload, len)) (hln : lnOk pc .laload len = true)
    (h : one md ini d B me.2.2.2.1 Qa me.2.2.2.2.1 .laload pc ls st σ K) (hK : ∀ pc' ls' st' σ', K pc' ls' st' σ' → WA me p l e R s m args below meth c Qm D dT z b n0 t0 md pc' ls' st' σ') : WA me p l e R s m args below meth c Qm D dT z b n0 t0 md pc ls st σ := by
  obtain ⟨hx, hb, hml, hown, hts, hini, hfr, hlo, hdc⟩ := X
  intro H locs arr kc ks hH hS hLs hc hs
  obtain rfl : len = 1 := by simpa [lnOk] using hln
  rcases st with _ | ⟨i | x | x, _ | ⟨x | x | _ | ⟨f, q⟩, r⟩⟩
  · exact False.elim h
  · exact False.elim h
  · exact False.elim h
  · exact False.elim h
  · exact False.elim h
  · have h' : (bif Nat.beq (fkd f).1 22 then acc md σ f q fun p' => vp_in i (fkd f).2 ∧ K (pc + 1) ls (vl (hL σ f p' i.toNatClampNeg) :: r) σ else False) := h
    cases hq : Nat.beq (fkd f).1 22 with
    | false => rw [hq] at h'; exact False.elim h'
    | true =>
      rw [hq, cond_true] at h'
      have hk0 := beq_n hq
      obtain ⟨p', hp', ep, hl, hl1, hfa⟩ := acc_ok (by omega) hH.2.2.2.2.2.2.2 h'
      have he := wsl_get md dT z b σ hl hl1 hfa
      rw [cell_l hk0] at he
      refine W.eq (g2 := F0 m pc arr (.int i :: .ref (z + cidx f p') :: r.map (cvv z b))) (by rw [List.map_cons, List.map_cons, ref_eq (fk_ne0 hk0 (by omega)) ep]; rfl) ?_
      exact va_lald hx hb hH.1 hH.2.1 _ 2 he rfl hp'.1 hd (hK _ _ _ _ hp'.2 H locs arr kc ks hH hS hLs hc hs)
  all_goals exact False.elim h
theorem tys_r {dT : Nat → ClassId} {k : Nat} (h1 : 22 < k) (h2 : k < 26) : ∃ (t0 : Nat) (ci : Nat) (c : vw_C), (tysL dT)[t0]? = some (dT k, .object c.1) ∧ clsW[ci]? = some c ∧ okind ci = k ∧ 1 ≤ ci ∧ ci < 10 := by
  have hx : k = 23 ∨ k = 24 ∨ k = 25 := by omega
  rcases hx with rfl | rfl | rfl
  · exact ⟨3, 7, _, rfl, rfl, rfl, by omega, by omega⟩
  · exact ⟨4, 3, _, rfl, rfl, rfl, by omega, by omega⟩
  · exact ⟨5, 1, _, rfl, rfl, rfl, by omega, by omega⟩
theorem one_aald (X : Cx me ini d p R s m args meth c) (hd : decode me.2.1 pc = .ok (.aaload, len)) (hln : lnOk pc .aaload len = true)
    (h : one md ini d B me.2.2.2.1 Qa me.2.2.2.2.1 .aaload pc ls st σ K) (hK : ∀ pc' ls' st' σ', K pc' ls' st' σ' → WA me p l e R s m args below meth c Qm D dT z b n0 t0 md pc' ls' st' σ') : WA me p l e R s m args below meth c Qm D dT z b n0 t0 md pc ls st σ := by
  obtain ⟨hx, hb, hml, hown, hts, hini, hfr, hlo, hdc⟩ := X
  intro H locs arr kc ks hH hS hLs hc hs
  obtain rfl : len = 1 := by simpa [lnOk] using hln
  rcases st with _ | ⟨i | x | x, _ | ⟨x | x | _ | ⟨f, q⟩, r⟩⟩
  · exact False.elim h
  · exact False.elim h
  · exact False.elim h
  · exact False.elim h
  · exact False.elim h
  · have h' : (bif Nat.blt 22 (fkd f).1 && Nat.blt (fkd f).1 26 then acc md σ f q fun p' => vp_in i (fkd f).2 ∧ K (pc + 1) ls (.inr (.inr (rdr md σ f p' i.toNatClampNeg)) :: r) σ else False) := h
    cases hq : Nat.blt 22 (fkd f).1 && Nat.blt (fkd f).1 26 with
    | false => rw [hq] at h'; exact False.elim h'
    | true =>
      rw [hq, cond_true] at h'
      have hk0 : 22 < (fkd f).1 ∧ (fkd f).1 < 26 := by simpa using hq
      obtain ⟨p', hp', ep, hl, hl1, hfa⟩ := acc_ok (by omega) hH.2.2.2.2.2.2.2 h'
      have he := wsl_get md dT z b σ hl hl1 hfa
      rw [cell_r hk0.1] at he
      obtain ⟨t1, ci, cc, ht, -⟩ := tys_r (dT := dT) hk0.1 hk0.2
      refine W.eq (g2 := F0 m pc arr (.int i :: .ref (z + cidx f p') :: r.map (cvv z b))) (by rw [List.map_cons, List.map_cons, ref_eq (fk_ne0 rfl (by omega)) ep]; rfl) ?_
      exact va_aldq hx hb hH.1 hH.2.1 _ t1 he ht hp'.1 hd (hK _ _ _ _ hp'.2 H locs arr kc ks hH hS hLs hc hs)
  all_goals exact False.elim h
theorem one_alen (X : Cx me ini d p R s m args meth c) (hd : decode me.2.1 pc = .ok (.arraylength, len)) (hln : lnOk pc .arraylength len = true)
    (h : one md ini d B me.2.2.2.1 Qa me.2.2.2.2.1 .arraylength pc ls st σ K) (hK : ∀ pc' ls' st' σ', K pc' ls' st' σ' → WA me p l e R s m args below meth c Qm D dT z b n0 t0 md pc' ls' st' σ') : WA me p l e R s m args below meth c Qm D dT z b n0 t0 md pc ls st σ := by
  obtain ⟨hx, hb, hml, hown, hts, hini, hfr, hlo, hdc⟩ := X
  intro H locs arr kc ks hH hS hLs hc hs
  obtain rfl : len = 1 := by simpa [lnOk] using hln
  rcases st with _ | ⟨x | x | _ | ⟨f, q⟩, r⟩
  · exact False.elim h
  · exact False.elim h
  · exact False.elim h
  · exact False.elim h
  · rcases f with _ | f
    · have h' : K (pc + 1) ls (vi (Int32.ofNat σ.1.2.2) :: r) σ := h
      have hX : va_X b σ.1.2.2 (hI σ 0 0) s H := hH.2.2.2.2.1
      obtain ⟨scr, g1, g2, g3, g4, g5⟩ := hX
      exact W.alen (n := Int32.ofNat σ.1.2.2) hx hb g1 g2 (by rw [g4] <;> rfl) rfl rfl hd (hK _ _ _ _ h' H locs arr kc ks hH hS hLs hc hs)
    · have h' : (bif Nat.blt 19 (fkd (f + 1)).1 && Nat.blt (fkd (f + 1)).1 26 then acc md σ (f + 1) q fun _ => K (pc + 1) ls (vi (Int32.ofNat (fkd (f + 1)).2) :: r) σ else False) := h
      cases hq : Nat.blt 19 (fkd (f + 1)).1 && Nat.blt (fkd (f + 1)).1 26 with
      | false => rw [hq] at h'; exact False.elim h'
      | true =>
        rw [hq, cond_true] at h'
        have hk0 : 19 < (fkd (f + 1)).1 ∧ (fkd (f + 1)).1 < 26 := by simpa using hq
        obtain ⟨p', hp', ep, hl, hl1, hfa⟩ := acc_ok (by omega) hH.2.2.2.2.2.2.2 h'
        have he := wsl_get md dT z b σ hl hl1 hfa
        refine W.eq (g2 := F0 m pc arr (.ref (z + cidx (f + 1) p') :: r.map (cvv z b))) (by rw [List.map_cons, ref_eq (Nat.le_add_left 1 f) ep]) ?_
        have hx4 : (fkd (f + 1)).1 = 20 ∨ (fkd (f + 1)).1 = 21 ∨ (fkd (f + 1)).1 = 22 ∨ 22 < (fkd (f + 1)).1 := by omega
        rcases hx4 with g | g | g | g
        · rw [cell_i g (Or.inl rfl)] at he
          exact va_alen hx hb hH.1 hH.2.1 _ 0 he rfl rfl hd (hK _ _ _ _ hp' H locs arr kc ks hH hS hLs hc hs)
        · rw [cell_i g (Or.inr rfl)] at he
          exact va_alen hx hb hH.1 hH.2.1 _ 1 he rfl rfl hd (hK _ _ _ _ hp' H locs arr kc ks hH hS hLs hc hs)
        · rw [cell_l g] at he
          exact va_alen hx hb hH.1 hH.2.1 _ 2 he rfl rfl hd (hK _ _ _ _ hp' H locs arr kc ks hH hS hLs hc hs)
        · rw [cell_r g] at he
          obtain ⟨t1, ci, cc, ht, -⟩ := tys_r (dT := dT) g hk0.2
          exact va_alen hx hb hH.1 hH.2.1 _ t1 he ht rfl hd (hK _ _ _ _ hp' H locs arr kc ks hH hS hLs hc hs)
theorem one_ret (hret : HRet me p l e R s m args below meth c Qm D dT z b n0 t0 md B Qa) {ins : Instr} (hi : ins = .ireturn ∨ ins = .lreturn ∨ ins = .return_) (hd : decode me.2.1 pc = .ok (ins, len)) (hln : lnOk pc ins len = true)
    (h : one md ini d B me.2.2.2.1 Qa me.2.2.2.2.1 ins pc ls st σ K) : WA me p l e R s m args below meth c Qm D dT z b n0 t0 md pc ls st σ := by
  intro H locs arr kc ks hH hS hLs hc hs
  rcases hi with rfl | rfl | rfl
  · obtain rfl : len = 1 := by simpa [lnOk] using hln
    simp only [one] at h
    split at h
    · rename_i x hr
      exact hret (some (vi x)) σ H locs arr kc ks pc _ (by rw [hr]; exact ⟨rfl, x, rfl, h.1⟩) hd h.2.1 h.2.2 hH hS hc hs
    · rename_i x hr
      exact hret (some (vi x)) σ H locs arr kc ks pc _ (by rw [hr]; exact ⟨rfl, rfl, x, rfl⟩) hd h.1 h.2 hH hS hc hs
    · exact h.elim
  · obtain rfl : len = 1 := by simpa [lnOk] using hln
    simp only [one] at h
    split at h
    · rename_i x hr
      exact hret (some (vl x)) σ H locs arr kc ks pc _ (by rw [hr]; exact ⟨rfl, x, rfl⟩) hd h.1 h.2 hH hS hc hs
    · exact h.elim
  · obtain rfl : len = 1 := by simpa [lnOk] using hln
    simp only [one] at h
    split at h
    · rename_i hr
      exact hret none σ H locs arr kc ks pc _ (by rw [hr]; exact ⟨rfl, rfl⟩) hd h.1 h.2 hH hS hc hs
    · exact h.elim
end RD
end
section
section WR
variable {me : MEnt} {ini : Bool} {d : Nat} {p : Program} {l : Launch} {e : Env} {R : Room} {s : State} {m : MethodId} {args : Array Value} {below : List Frame} {meth : Method} {c : Code} {Qm : State → Prop} {D : va_G} {dT : Nat → ClassId} {z b n0 t0 : Nat} {md : Bool} {B : Nat × Nat × Nat} {Qa : Option AV → Hp → Prop} {pc len : Nat} {ls : Ls} {st : List AV} {σ : Hp} {K : Nat → Ls → List AV → Hp → Prop}
/-- a field is written: the cell behind it -/
theorem put_at {H : Heap} {locs : List Loc} {kc ks : Nat} {arr : Array Slot} {rest : List Value} {oc i ci k a q0 : Nat} {C : String} {T : u_T} {N : Nat} {fs : List Value} {v : Value} {ty : FieldType} {ws : va_W} {tys : List (ClassId × FieldType)}
    (hx : p.tables.exec = Jvm.exec) {cc : ByteArray} (hb : c.code = cc) (hts : ∀ w ∈ wT, w.before args s = true) (hown : s.vm.findClass (ownN oc) = some m.cls) (hK : va_K D clsW tys s) (hP : va_P D clsW ws H) (he : ws[q0]? = some (a, .inr (ci, fs))) (hcl : clsW[ci]? = some (C, T, N)) (h1 : 1 ≤ ci) (hkN : k < N) (hl : k < fs.length)
    (hw : Cond.fieldLink (ownN oc) i (T k).1 (T k).2.1 (T k).2.2.1 ∈ wT) (hfin : (T k).2.2.2 = false ∨ ((T k).2.2.2 = true ∧ meth.name = "<init>" ∧ (T k).1 = ownN oc)) (hd0 : parseFieldDescriptor (T k).2.2.1 = some ty) (hn : narrow ty v = v) (hfit : fits ty v = true) (hd : decode cc pc = .ok (.putfield i, 3))
    (kk : ∀ (H1 : Heap) (o : Loc), o.base = a → H1.size = H.size → (∀ q : Nat, q ≠ a → H1[q]? = H[q]?) → va_at D clsW (a, .inr (ci, fs.set k v)) H1 → W p l e R s m args below meth c H1 (locs ++ [o]) kc ks Qm (F0 m (pc + 3) arr rest)) :
    W p l e R s m args below meth c H locs kc ks Qm (F0 m pc arr (v :: .ref a :: rest)) := by
  obtain ⟨hin, hty, hnm⟩ := cls_k hcl h1
  have hap := va_apart (own := ownN oc) hts hin (tyW ci) hty hnm hK hcl
  obtain ⟨r, g1, cell, q1, q2, q3, q4⟩ := hP q0 _ he
  obtain rfl : r = (C, T, N) := Option.some.inj (g1.symm.trans hcl)
  obtain ⟨hS, hfc, kC, hkC, hkind⟩ := hK.1 ci _ hcl
  obtain ⟨cf, kf, fi, fd, hi, hsl⟩ := hS k hkN
  have hst := (u_facts hfc hkC (u_lays hts hin hkN) hi).1
  have hlt : fd.slot < cell.slots.size := by rw [hsl]; exact k2_hasslot (q4 k hkN)
  have hlay := hts _ (hin _ (u_in_lay hkN))
  have fin : ∀ H1 : Heap, H1[a]? = some (cell.setSlot fd.slot v) → H1.size = H.size → (∀ q, q ≠ a → H1[q]? = H[q]?) → W p l e R s m args below meth c H1 (locs ++ [⟨a, fd.slot⟩]) kc ks Qm (F0 m (pc + 3) arr rest) := by
    intro H1 e1 e2 e3
    rw [hsl] at e1 ⊢
    exact kk H1 _ rfl e2 e3 ⟨_, hcl, t_OB.to (V := updV (vp_V fs) k v) ⟨_, e1, q2, q3, t_set q4 hap hkN v⟩ (fun j _ => vp_updV_set hl v j)⟩
  rcases hfin with hfin | ⟨hfin, hin2, hdecl⟩
  · unfold u_lay at hlay
    rw [if_neg (by rw [hfin]; decide)] at hlay
    have h6 := u_store hfc hkC hkind hlay hi hd0 hn hfit
    exact W.putK hx hb (f := fd) ⟨hown, hts _ hw, ⟨_, _, _, hi⟩, hst⟩ (by rw [q2]; exact h6) q1 q3 hlt rfl rfl hd fin
  · unfold u_lay at hlay
    rw [if_pos hfin] at hlay
    have hcf : m.cls = cf := by
      obtain ⟨_, _, c', _, _, _, -, -, hf', -, -, -, hown2, -⟩ := Cond.laysFinal_spec hlay
      have e1 : c' = cf := by have := hi.symm.trans hf'; simp at this; exact this.1.symm
      rw [hdecl] at hown2
      rw [← e1]; exact Option.some.inj (hown.symm.trans hown2)
    have h6 := u_fits hfc hkC hkind (Or.inr hlay) hi hd0 hn hfit
    exact W.putFinK hx hb hown (hts _ hw) hi hst hcf hin2 (by rw [q2]; exact h6) q1 q3 hlt rfl rfl hd fin
theorem set_row {N k : Nat} {g g' : Nat → Value} {v : Value} (hk : g' k = v) (hj : ∀ j, j ≠ k → g' j = g j) : (List.range N).map g' = ((List.range N).map g).set k v := by
  apply List.ext_getElem?
  intro j
  by_cases hjk : j = k
  · subst hjk
    by_cases hN : j < N
    · rw [List.getElem?_set_self (by simpa using hN), List.getElem?_map, List.getElem?_range hN]
      show some (g' j) = _
      rw [hk]
    · rw [List.getElem?_eq_none (by simpa using hN), List.getElem?_eq_none (by simpa using hN)]
  · rw [List.getElem?_set_ne (fun q => hjk q.symm), List.getElem?_map, List.getElem?_map]
    by_cases hN : j < N
    · rw [List.getElem?_range hN]
      show some (g' j) = some (g j)
      rw [hj j hjk]
    · rw [List.getElem?_eq_none (by simpa using hN)]; rfl
theorem fk_21 {f : Nat} (h : (fkd f).1 = 21) : f ≠ 0 := fun q => by subst q; exact absurd h (by decide)
theorem hI0_setI {σ : Hp} {f p k : Nat} {x : Int32} (hf : 1 ≤ f) : hI (setI σ f p k x) 0 0 = hI σ 0 0 := hI_setI_ne (a := (0, 0)) (fun q => by cases q; omega)
theorem ch_setI {σ : Hp} {f p k : Nat} {x : Int32} (h : ∀ f p k, (fkd f).1 = 21 → fits .char (.int (hI σ f p k)) = true) (hx : (fkd f).1 = 21 → fits .char (.int x) = true) : ∀ f' p' k', (fkd f').1 = 21 → fits .char (.int (hI (setI σ f p k x) f' p' k')) = true := by
  intro f' p' k' h21
  show fits .char (.int (if f' = f ∧ p' = p ∧ k' = k then x else σ.2.1 f' p' k')) = true
  split
  · rename_i q
    exact hx (by rw [← q.1]; exact h21)
  · exact h f' p' k' h21
theorem ne_of_fk {f g : Nat} (h : (fkd f).1 ≠ (fkd g).1) : f ≠ g := fun q => h (by rw [q])
theorem one_putf (X : Cx me ini d p R s m args meth c) {i : Nat} (hd : decode me.2.1 pc = .ok (.putfield i, len)) (hln : lnOk pc (.putfield i) len = true)
    (h : one md ini d B me.2.2.2.1 Qa me.2.2.2.2.1 (.putfield i) pc ls st σ K) (hK : ∀ pc' ls' st' σ', K pc' ls' st' σ' → WA me p l e R s m args below meth c Qm D dT z b n0 t0 md pc' ls' st' σ') : WA me p l e R s m args below meth c Qm D dT z b n0 t0 md pc ls st σ := by
  obtain ⟨hx, hb, hml, hown, hts, hini, hfr, hlo, hdc⟩ := X
  intro H locs arr kc ks hH hS hLs hc hs
  obtain rfl : len = 3 := by simpa [lnOk] using hln
  simp only [one] at h
  cases hf : flk me.2.2.2.2.1 i with
  | none => rw [hf] at h; exact False.elim h
  | some ck =>
    obtain ⟨ci, k⟩ := ck
    rw [hf] at h
    dsimp only at h
    cases hfn : (! ffin ci k) || (ini && Nat.beq me.2.2.2.2.1 ci) with
    | false => rw [hfn] at h; exact False.elim h
    | true =>
      rw [hfn, cond_true] at h
      obtain ⟨⟨C, T, N⟩, hcl, hkN, h1, h10, hw⟩ := flk_w hf
      obtain ⟨hft, hff, hdecl⟩ := ftK ci h10 _ hcl h1 k hkN
      have hCn := (ftN ci h10 h1 _ hcl).2
      obtain ⟨hin, hty, hnm⟩ := cls_k hcl h1
      have hfin : (T k).2.2.2 = false ∨ ((T k).2.2.2 = true ∧ meth.name = "<init>" ∧ (T k).1 = ownN me.2.2.2.2.1) := by
        have hff : ffin ci k = (T k).2.2.2 := hff
        have hdecl : (T k).1 = C := hdecl
        have hCn : C = ownN ci := hCn
        cases hb1 : (T k).2.2.2 with
        | false => exact Or.inl rfl
        | true =>
          rw [hff, hb1] at hfn
          simp only [Bool.not_true, Bool.false_or, Bool.and_eq_true] at hfn
          exact Or.inr ⟨rfl, hini hfn.1, by rw [hdecl, hCn, beq_n hfn.2]⟩
      have hd0 := hty k hkN
      have hft : ftyp ci k = tcode (tyW ci k) := hft
      split at h
      · rename_i ht
        split at h
        · rename_i st0 x f q r
          cases hq : Nat.beq (fkd f).1 ci with
          | false => rw [hq] at h; exact False.elim h
          | true =>
            rw [hq, cond_true] at h
            have hk0 := beq_n hq
            obtain ⟨p', hp', ep, hl, hl1, hfa⟩ := acc_ok (by omega) hH.2.2.2.2.2.2.2 h
            have he := wsl_get md dT z b σ hl hl1 hfa
            have hN := obj_n hk0 h10 hcl
            rw [cell_o (by omega), hk0, hN] at he
            have hf1 := fk_ne0 hk0 (by omega)
            have htt : tyW ci k = .int := by
              rw [hft] at ht
              cases hq2 : tyW ci k <;> rw [hq2] at ht <;> first | rfl | cases ht
            refine W.eq (g2 := F0 m pc arr (.int x :: .ref (z + cidx f p') :: r.map (cvv z b))) (by rw [List.map_cons, List.map_cons, ref_eq hf1 ep]; rfl) ?_
            refine put_at hx hb hts hown hH.1 hH.2.1 he hcl h1 hkN (by simpa using hkN) hw hfin hd0 (by rw [htt]; rfl) (by rw [htt]; rfl) hd (fun H1 o ho z1 oq hat => ?_)
            have hrow : cellE md dT z b (setI σ f p' k x) (f, p') = .inr (ci, ((List.range N).map fun j => cvv z b (rdf md σ ci f p' j)).set k (.int x)) := by
              rw [cell_o (by omega), hk0, hN]
              congr 2
              refine set_row ?_ ?_
              · simp only [rdf, ht, hI_setI, upd, if_true]; rfl
              · intro j hj
                simp only [rdf, hI_setI, upd, if_neg hj]; rfl
            refine hK _ _ _ _ hp' H1 _ arr kc ks (HI_write hH hl hl1 hfa rfl (fun a ha => cellE_congr (hI_setI_ne ha) rfl rfl) (ch_setI hH.2.2.2.1 (fun q => by omega)) (hI0_setI hf1) z1 oq (by rw [hrow]; exact hat)) ?_ hLs hc hs
            obtain ⟨ob, ok⟩ := o
            cases ho
            exact hS.put z1 oq (by show z < z + cidx f p'; omega)
        · exact h.elim
      · rename_i ht
        split at h
        · rename_i st0 x f q r
          cases hq : Nat.beq (fkd f).1 ci with
          | false => rw [hq] at h; exact False.elim h
          | true =>
            rw [hq, cond_true] at h
            obtain ⟨hx01, h⟩ := h
            have hk0 := beq_n hq
            obtain ⟨p', hp', ep, hl, hl1, hfa⟩ := acc_ok (by omega) hH.2.2.2.2.2.2.2 h
            have he := wsl_get md dT z b σ hl hl1 hfa
            have hN := obj_n hk0 h10 hcl
            rw [cell_o (by omega), hk0, hN] at he
            have hf1 := fk_ne0 hk0 (by omega)
            have htt : tyW ci k = .boolean := by
              rw [hft] at ht
              cases hq2 : tyW ci k <;> rw [hq2] at ht <;> first | rfl | cases ht
            refine W.eq (g2 := F0 m pc arr (.int x :: .ref (z + cidx f p') :: r.map (cvv z b))) (by rw [List.map_cons, List.map_cons, ref_eq hf1 ep]; rfl) ?_
            refine put_at hx hb hts hown hH.1 hH.2.1 he hcl h1 hkN (by simpa using hkN) hw hfin hd0 (by rw [htt]; rcases hx01 with rfl | rfl <;> decide) (by rw [htt]; rcases hx01 with rfl | rfl <;> decide) hd (fun H1 o ho z1 oq hat => ?_)
            have hrow : cellE md dT z b (setI σ f p' k x) (f, p') = .inr (ci, ((List.range N).map fun j => cvv z b (rdf md σ ci f p' j)).set k (.int x)) := by
              rw [cell_o (by omega), hk0, hN]
              congr 2
              refine set_row ?_ ?_
              · simp only [rdf, ht, hI_setI, upd, if_true]; rfl
              · intro j hj
                simp only [rdf, hI_setI, upd, if_neg hj]; rfl
            refine hK _ _ _ _ hp' H1 _ arr kc ks (HI_write hH hl hl1 hfa rfl (fun a ha => cellE_congr (hI_setI_ne ha) rfl rfl) (ch_setI hH.2.2.2.1 (fun q => by omega)) (hI0_setI hf1) z1 oq (by rw [hrow]; exact hat)) ?_ hLs hc hs
            obtain ⟨ob, ok⟩ := o
            cases ho
            exact hS.put z1 oq (by show z < z + cidx f p'; omega)
        · exact h.elim
      · rename_i ht
        split at h
        · rename_i st0 x f q r
          cases hq : Nat.beq (fkd f).1 ci with
          | false => rw [hq] at h; exact False.elim h
          | true =>
            rw [hq, cond_true] at h
            have hk0 := beq_n hq
            obtain ⟨p', hp', ep, hl, hl1, hfa⟩ := acc_ok (by omega) hH.2.2.2.2.2.2.2 h
            have he := wsl_get md dT z b σ hl hl1 hfa
            have hN := obj_n hk0 h10 hcl
            rw [cell_o (by omega), hk0, hN] at he
            have hf1 := fk_ne0 hk0 (by omega)
            have htt : tyW ci k = .long := by
              rw [hft] at ht
              cases hq2 : tyW ci k <;> rw [hq2] at ht <;> first | rfl | cases ht
            refine W.eq (g2 := F0 m pc arr (.long x :: .ref (z + cidx f p') :: r.map (cvv z b))) (by rw [List.map_cons, List.map_cons, ref_eq hf1 ep]; rfl) ?_
            refine put_at hx hb hts hown hH.1 hH.2.1 he hcl h1 hkN (by simpa using hkN) hw hfin hd0 (by rw [htt]; rfl) (by rw [htt]; rfl) hd (fun H1 o ho z1 oq hat => ?_)
            have hrow : cellE md dT z b (setL σ f p' k x) (f, p') = .inr (ci, ((List.range N).map fun j => cvv z b (rdf md σ ci f p' j)).set k (.long x)) := by
              rw [cell_o (by omega), hk0, hN]
              congr 2
              refine set_row ?_ ?_
              · simp only [rdf, ht, hL_setL, vp_updL, if_true]; rfl
              · intro j hj
                simp only [rdf, hL_setL, vp_updL, if_neg hj]; rfl
            refine hK _ _ _ _ hp' H1 _ arr kc ks (HI_write hH hl hl1 hfa rfl (fun a ha => cellE_congr rfl (hL_setL_ne ha) rfl) hH.2.2.2.1 rfl z1 oq (by rw [hrow]; exact hat)) ?_ hLs hc hs
            obtain ⟨ob, ok⟩ := o
            cases ho
            exact hS.put z1 oq (by show z < z + cidx f p'; omega)
        · exact h.elim
      · rename_i ht
        split at h
        · rename_i st0 x f q r
          cases hq : Nat.beq (fkd f).1 ci with
          | false => rw [hq] at h; exact False.elim h
          | true =>
            rw [hq, cond_true] at h
            have hk0 := beq_n hq
            obtain ⟨p', hp', ep, hl, hl1, hfa⟩ := acc_ok (by omega) hH.2.2.2.2.2.2.2 h
            have hp2 : (md = true → srf f p' k = none) ∧ K (pc + 3) ls r (setR σ f p' k x) := by
              cases md with
              | false => exact ⟨fun q => (by cases q), hp'⟩
              | true =>
                cases hsr : srf f p' k with
                | none => rw [hsr] at hp'; exact ⟨fun _ => rfl, hp'⟩
                | some a => rw [hsr] at hp'; exact hp'.elim
            have he := wsl_get md dT z b σ hl hl1 hfa
            have hN := obj_n hk0 h10 hcl
            rw [cell_o (by omega), hk0, hN] at he
            have hf1 := fk_ne0 hk0 (by omega)
            have htt : (∃ n, tyW ci k = .object n) ∨ ∃ t, tyW ci k = .array t := by
              rw [hft] at ht
              cases hq2 : tyW ci k <;> rw [hq2] at ht <;> first | exact Or.inl ⟨_, rfl⟩ | exact Or.inr ⟨_, rfl⟩ | cases ht
            refine W.eq (g2 := F0 m pc arr (cvv z b (.inr (.inr x)) :: .ref (z + cidx f p') :: r.map (cvv z b))) (by rw [List.map_cons, List.map_cons, ref_eq hf1 ep]) ?_
            refine put_at hx hb hts hown hH.1 hH.2.1 he hcl h1 hkN (by simpa using hkN) hw hfin hd0 (by rcases htt with ⟨n, g⟩ | ⟨n, g⟩ <;> rw [g] <;> cases x <;> rfl) (by rcases htt with ⟨n, g⟩ | ⟨n, g⟩ <;> rw [g] <;> cases x <;> rfl) hd (fun H1 o ho z1 oq hat => ?_)
            have hrow : cellE md dT z b (setR σ f p' k x) (f, p') = .inr (ci, ((List.range N).map fun j => cvv z b (rdf md σ ci f p' j)).set k (cvv z b (.inr (.inr x)))) := by
              rw [cell_o (by omega), hk0, hN]
              congr 2
              refine set_row ?_ ?_
              · cases md with
                | false => simp only [rdf, ht, rdr, hR_setR, va_up, if_true]
                | true => simp only [rdf, ht, rdr, hp2.1 rfl, hR_setR, va_up, if_true]
              · intro j hj
                simp only [rdf, rdr, hR_setR, va_up, if_neg hj]; rfl
            refine hK _ _ _ _ hp2.2 H1 _ arr kc ks (HI_write hH hl hl1 hfa rfl (fun a ha => cellE_congr rfl rfl (hR_setR_ne ha)) hH.2.2.2.1 rfl z1 oq (by rw [hrow]; exact hat)) ?_ hLs hc hs
            obtain ⟨ob, ok⟩ := o
            cases ho
            exact hS.put z1 oq (by show z < z + cidx f p'; omega)
        · exact h.elim
      · exact h.elim
end WR
end
section
section WS
variable {me : MEnt} {ini : Bool} {d : Nat} {p : Program} {l : Launch} {e : Env} {R : Room} {s : State} {m : MethodId} {args : Array Value} {below : List Frame} {meth : Method} {c : Code} {Qm : State → Prop} {D : va_G} {dT : Nat → ClassId} {z b n0 t0 : Nat} {md : Bool} {B : Nat × Nat × Nat} {Qa : Option AV → Hp → Prop} {pc len : Nat} {ls : Ls} {st : List AV} {σ : Hp} {K : Nat → Ls → List AV → Hp → Prop}
theorem fit_nar (x : Int32) : fits .char (.int (vp_nar .char x)) = true := by
  rw [vp_nar_char, ← lg_i2c_nf]
  exact pk_fc x
theorem one_iast (X : Cx me ini d p R s m args meth c) (hd : decode me.2.1 pc = .ok (.iastore, len)) (hln : lnOk pc .iastore len = true)
    (h : one md ini d B me.2.2.2.1 Qa me.2.2.2.2.1 .iastore pc ls st σ K) (hK : ∀ pc' ls' st' σ', K pc' ls' st' σ' → WA me p l e R s m args below meth c Qm D dT z b n0 t0 md pc' ls' st' σ') : WA me p l e R s m args below meth c Qm D dT z b n0 t0 md pc ls st σ := by
  obtain ⟨hx, hb, hml, hown, hts, hini, hfr, hlo, hdc⟩ := X
  intro H locs arr kc ks hH hS hLs hc hs
  obtain rfl : len = 1 := by simpa [lnOk] using hln
  simp only [one] at h
  split at h
  · rename_i x i f q r
    cases hq : Nat.beq (fkd f).1 20 with
    | false => rw [hq] at h; exact False.elim h
    | true =>
      rw [hq, cond_true] at h
      have hk0 := beq_n hq
      obtain ⟨p', hp', ep, hl, hl1, hfa⟩ := acc_ok (by omega) hH.2.2.2.2.2.2.2 h
      have hf1 := fk_ne0 hk0 (by omega)
      have he := wsl_get md dT z b σ hl hl1 hfa
      rw [cell_i hk0 (Or.inl rfl)] at he
      refine W.eq (g2 := F0 m pc arr (.int x :: .int i :: .ref (z + cidx f p') :: r.map (cvv z b))) (by rw [List.map_cons, List.map_cons, List.map_cons, ref_eq hf1 ep]; rfl) ?_
      refine W.iast hx hb (hH.2.1 _ _ he) ((hH.1.2 0 _ rfl).1 (fkd f).2 (fun j => .int (hI σ f p' j))) (fun q => by cases q) (by show ¬ (i < 0 ∨ (arrV _ _ _).slots.size ≤ _); rw [arrV_size]; exact hp'.1) rfl rfl hd fun H1 e1 z1 oq => ?_
      refine hK _ _ _ _ hp'.2 H1 _ arr kc ks (HI_write hH hl hl1 hfa rfl (fun a ha => cellE_congr (hI_setI_ne ha) rfl rfl) (ch_setI hH.2.2.2.1 (fun q => by omega)) (hI0_setI hf1) z1 oq ?_) (hS.put z1 oq (by show z < z + cidx f p'; omega)) hLs hc hs
      rw [cell_i hk0 (Or.inl rfl), hI_setI]
      show H1[z + cidx f p']? = some (vp_cell _ _)
      rw [e1, vp_cell_i, vp_cell_i, arrV_store]
      congr 2
      funext j
      simp only [updV, upd]
      split <;> rfl
  · exact h.elim
theorem one_cast (X : Cx me ini d p R s m args meth c) (hd : decode me.2.1 pc = .ok (.castore, len)) (hln : lnOk pc .castore len = true)
    (h : one md ini d B me.2.2.2.1 Qa me.2.2.2.2.1 .castore pc ls st σ K) (hK : ∀ pc' ls' st' σ', K pc' ls' st' σ' → WA me p l e R s m args below meth c Qm D dT z b n0 t0 md pc' ls' st' σ') : WA me p l e R s m args below meth c Qm D dT z b n0 t0 md pc ls st σ := by
  obtain ⟨hx, hb, hml, hown, hts, hini, hfr, hlo, hdc⟩ := X
  intro H locs arr kc ks hH hS hLs hc hs
  obtain rfl : len = 1 := by simpa [lnOk] using hln
  simp only [one] at h
  split at h
  · rename_i x i f q r
    cases hq : Nat.beq (fkd f).1 21 with
    | false => rw [hq] at h; exact False.elim h
    | true =>
      rw [hq, cond_true] at h
      have hk0 := beq_n hq
      obtain ⟨p', hp', ep, hl, hl1, hfa⟩ := acc_ok (by omega) hH.2.2.2.2.2.2.2 h
      have hf1 := fk_ne0 hk0 (by omega)
      have he := wsl_get md dT z b σ hl hl1 hfa
      rw [cell_i hk0 (Or.inr rfl)] at he
      refine W.eq (g2 := F0 m pc arr (.int x :: .int i :: .ref (z + cidx f p') :: r.map (cvv z b))) (by rw [List.map_cons, List.map_cons, List.map_cons, ref_eq hf1 ep]; rfl) ?_
      refine W.cast hx hb (hH.2.1 _ _ he) ((hH.1.2 1 _ rfl).1 (fkd f).2 (fun j => .int (hI σ f p' j))) (fun q => by cases q) (by show ¬ (i < 0 ∨ (arrV _ _ _).slots.size ≤ _); rw [arrV_size]; exact hp'.1) rfl rfl hd fun H1 e1 z1 oq => ?_
      refine hK _ _ _ _ hp'.2 H1 _ arr kc ks (HI_write hH hl hl1 hfa rfl (fun a ha => cellE_congr (hI_setI_ne ha) rfl rfl) (ch_setI hH.2.2.2.1 (fun _ => fit_nar x)) (hI0_setI hf1) z1 oq ?_) (hS.put z1 oq (by show z < z + cidx f p'; omega)) hLs hc hs
      rw [cell_i hk0 (Or.inr rfl), hI_setI]
      show H1[z + cidx f p']? = some (vp_cell _ _)
      rw [e1, vp_cell_i, vp_cell_i, arrV_store]
      congr 2
      funext j
      simp only [updV, upd]
      split
      · simp [vp_nar]
        try rfl
      · rfl
  · exact h.elim
theorem one_last (X : Cx me ini d p R s m args meth c) (hd : decode me.2.1 pc = .ok (.lastore, len)) (hln : lnOk pc .lastore len = true)
    (h : one md ini d B me.2.2.2.1 Qa me.2.2.2.2.1 .lastore pc ls st σ K) (hK : ∀ pc' ls' st' σ', K pc' ls' st' σ' → WA me p l e R s m args below meth c Qm D dT z b n0 t0 md pc' ls' st' σ') : WA me p l e R s m args below meth c Qm D dT z b n0 t0 md pc ls st σ := by
  obtain ⟨hx, hb, hml, hown, hts, hini, hfr, hlo, hdc⟩ := X
  intro H locs arr kc ks hH hS hLs hc hs
  obtain rfl : len = 1 := by simpa [lnOk] using hln
  simp only [one] at h
  split at h
  · rename_i x i f q r
    cases hq : Nat.beq (fkd f).1 22 with
    | false => rw [hq] at h; exact False.elim h
    | true =>
      rw [hq, cond_true] at h
      have hk0 := beq_n hq
      obtain ⟨p', hp', ep, hl, hl1, hfa⟩ := acc_ok (by omega) hH.2.2.2.2.2.2.2 h
      have hf1 := fk_ne0 hk0 (by omega)
      have he := wsl_get md dT z b σ hl hl1 hfa
      rw [cell_l hk0] at he
      refine W.eq (g2 := F0 m pc arr (.long x :: .int i :: .ref (z + cidx f p') :: r.map (cvv z b))) (by rw [List.map_cons, List.map_cons, List.map_cons, ref_eq hf1 ep]; rfl) ?_
      refine W.last hx hb (hH.2.1 _ _ he) ((hH.1.2 2 _ rfl).1 (fkd f).2 (fun j => .long (hL σ f p' j))) (fun q => by cases q) (by show ¬ (i < 0 ∨ (arrV _ _ _).slots.size ≤ _); rw [arrV_size]; exact hp'.1) rfl rfl hd fun H1 e1 z1 oq => ?_
      refine hK _ _ _ _ hp'.2 H1 _ arr kc ks (HI_write hH hl hl1 hfa rfl (fun a ha => cellE_congr rfl (hL_setL_ne ha) rfl) hH.2.2.2.1 rfl z1 oq ?_) (hS.put z1 oq (by show z < z + cidx f p'; omega)) hLs hc hs
      rw [cell_l hk0, hL_setL]
      show H1[z + cidx f p']? = some (vp_cell _ _)
      rw [e1, vp_cell_l, vp_cell_l, arrV_store]
      congr 2
      funext j
      simp only [updV, vp_updL]
      split <;> rfl
  · exact h.elim
theorem okind_in {ci k : Nat} (h : okind ci = k) (hk : k < 26) : (ci = 7 ∧ k = 23) ∨ (ci = 3 ∧ k = 24) ∨ (ci = 1 ∧ k = 25) := by
  unfold okind at h
  split at h
  · exact Or.inl ⟨rfl, h.symm⟩
  · exact Or.inr (Or.inl ⟨rfl, h.symm⟩)
  · exact Or.inr (Or.inr ⟨rfl, h.symm⟩)
  · omega
theorem one_aast (X : Cx me ini d p R s m args meth c) (hd : decode me.2.1 pc = .ok (.aastore, len)) (hln : lnOk pc .aastore len = true)
    (h : one md ini d B me.2.2.2.1 Qa me.2.2.2.2.1 .aastore pc ls st σ K) (hK : ∀ pc' ls' st' σ', K pc' ls' st' σ' → WA me p l e R s m args below meth c Qm D dT z b n0 t0 md pc' ls' st' σ') : WA me p l e R s m args below meth c Qm D dT z b n0 t0 md pc ls st σ := by
  obtain ⟨hx, hb, hml, hown, hts, hini, hfr, hlo, hdc⟩ := X
  intro H locs arr kc ks hH hS hLs hc hs
  obtain rfl : len = 1 := by simpa [lnOk] using hln
  simp only [one] at h
  split at h
  · rename_i g q i f p0 r
    cases hq : Nat.blt (fkd g).1 20 && (Nat.beq (fkd f).1 (okind (fkd g).1) && Nat.blt (fkd f).1 26) with
    | false => rw [hq] at h; exact False.elim h
    | true =>
      rw [hq, cond_true] at h
      simp only [Bool.and_eq_true] at hq
      have hg20 : (fkd g).1 < 20 := by simpa using hq.1
      have hfk := beq_n hq.2.1
      have hf26 : (fkd f).1 < 26 := by simpa using hq.2.2
      have hoks := okind_in hfk.symm hf26
      have hf22 : 22 < (fkd f).1 := by omega
      obtain ⟨p', hp', ep, hl, hl1, hfa⟩ := acc_ok (by omega) hH.2.2.2.2.2.2.2 h
      obtain ⟨q', hq', eq2, hm, hm1, hma⟩ := acc_ok (by omega) hH.2.2.2.2.2.2.2 hp'
      have hf1 := fk_ne0 (f := f) rfl (by omega)
      have hg1 := fk_ne0 (f := g) rfl (by omega)
      obtain ⟨hin, hq2⟩ := hq'
      have hp2 : (md = true → srf f p' i.toNatClampNeg = none) ∧ K (pc + 1) ls r (setR σ f p' i.toNatClampNeg (some (g, q'))) := by
        cases md with
        | false => exact ⟨fun q => (by cases q), hq2⟩
        | true =>
          cases hsr : srf f p' i.toNatClampNeg with
          | none => rw [hsr] at hq2; exact ⟨fun _ => rfl, hq2⟩
          | some a => rw [hsr] at hq2; exact hq2.elim
      have he := wsl_get md dT z b σ hl hl1 hfa
      rw [cell_r hf22] at he
      have hev := wsl_get md dT z b σ hm hm1 hma
      rw [cell_o hg20] at hev
      obtain ⟨t1, cc, ht, hcl⟩ : ∃ (t1 : Nat) (cc : vw_C), (tysL dT)[t1]? = some (dT (fkd f).1, .object cc.1) ∧ clsW[(fkd g).1]? = some cc := by
        rcases hoks with ⟨e1, e2⟩ | ⟨e1, e2⟩ | ⟨e1, e2⟩
        · rw [e1, e2]; exact ⟨3, _, rfl, rfl⟩
        · rw [e1, e2]; exact ⟨4, _, rfl, rfl⟩
        · rw [e1, e2]; exact ⟨5, _, rfl, rfl⟩
      have hlt : i.toNatClampNeg < (fkd f).2 := Nat.not_le.mp fun q => hin (Or.inr q)
      have h0 : ¬ i < 0 := fun q => hin (Or.inl q)
      obtain ⟨r', hr', cellV, g1, g2, g3, -⟩ := hH.2.1 _ _ hev
      have hcls := (hH.1.1 _ cc hcl).2
      obtain ⟨kA, comp, k1, k2, k3, -⟩ := (hH.1.2 t1 _ ht).2
      obtain rfl : comp = D.1 (fkd g).1 := Option.some.inj (k3.symm.trans hcls.1)
      obtain ⟨kC, hkC, -⟩ := hcls.2
      refine W.eq (g2 := F0 m pc arr (.ref (z + cidx g q') :: .int i :: .ref (z + cidx f p') :: r.map (cvv z b))) (by rw [List.map_cons, List.map_cons, List.map_cons, ref_eq hf1 ep, ref_eq hg1 eq2]; rfl) ?_
      refine W.aast hx hb (hH.2.1 _ _ he) (fun q h => by cases h) (fun h => by cases h) k1 k2 rfl hkC ⟨h0, by show _ < (arrV _ _ _).slots.size; rw [arrV_size]; exact hlt⟩ g1 (fun q h => by rw [g3] at h; cases h) (by rw [g2]; exact hkC) (by rw [g2]; exact va_assign hcls) rfl rfl hd fun H1 e1 z1 oq => ?_
      refine hK _ _ _ _ hp2.2 H1 _ arr kc ks (HI_write hH hl hl1 hfa rfl (fun a ha => cellE_congr rfl rfl (hR_setR_ne ha)) hH.2.2.2.1 rfl z1 oq ?_) (hS.put z1 oq (by show z < z + cidx f p'; omega)) hLs hc hs
      rw [cell_r hf22]
      show H1[z + cidx f p']? = some (vp_cell _ _)
      rw [e1, vp_cell_q, vp_cell_q, arrV_store]
      congr 2
      funext j
      by_cases hj : j = i.toNatClampNeg
      · subst hj
        have e2 : rdr md (setR σ f p' i.toNatClampNeg (some (g, q'))) f p' i.toNatClampNeg = some (g, q') := by
          cases md with
          | false => simp only [rdr, hR_setR, va_up, if_true]
          | true => simp only [rdr, hp2.1 rfl, hR_setR, va_up, if_true]
        rw [e2]
        simp only [updV, if_true]
        show Value.ref _ = Value.ref (adr z b (g, q'))
        rw [adr_eq hg1 rfl]
      · simp only [updV, if_neg hj, rdr, hR_setR, va_up]
  · exact h.elim
end WS
end
section
section MK
variable {me : MEnt} {ini : Bool} {d : Nat} {p : Program} {l : Launch} {e : Env} {R : Room} {s : State} {m : MethodId} {args : Array Value} {below : List Frame} {meth : Method} {c : Code} {Qm : State → Prop} {D : va_G} {dT : Nat → ClassId} {z b n0 t0 : Nat} {md : Bool} {B : Nat × Nat × Nat} {Qa : Option AV → Hp → Prop} {pc len : Nat} {ls : Ls} {st : List AV} {σ : Hp} {K : Nat → Ls → List AV → Hp → Prop}
theorem fa_pos {i : Nat} (h : 1 ≤ i) : 1 ≤ (fa i).1 := by
  unfold fa
  split
  · exact h
  · split
    · show 1 ≤ 21 + (i - 21) % 17; omega
    · split
      · exact h
      · show 1 ≤ 8 + (i - 266) % 10; omega
theorem zap_ne {σ : Hp} {f p n : Nat} {a : Nat × Nat} (h : a ≠ (f, p)) : hI (zap σ f p n) a.1 a.2 = hI σ a.1 a.2 ∧ hL (zap σ f p n) a.1 a.2 = hL σ a.1 a.2 ∧ hR (zap σ f p n) a.1 a.2 = hR σ a.1 a.2 := by
  have hn : ¬ (a.1 = f ∧ a.2 = p) := fun q => h (Prod.ext q.1 q.2)
  refine ⟨?_, ?_, ?_⟩
  · funext j
    show (if a.1 = f ∧ a.2 = p then (0 : Int32) else σ.2.1 a.1 a.2 j) = _
    rw [if_neg hn]; rfl
  · funext j
    show (if a.1 = f ∧ a.2 = p then (0 : Int64) else σ.2.2.1 a.1 a.2 j) = _
    rw [if_neg hn]; rfl
  · funext j
    show (if a.1 = f ∧ a.2 = p then none else σ.2.2.2 a.1 a.2 j) = _
    rw [if_neg hn]; rfl
theorem zap_at (σ : Hp) (f p n : Nat) : hI (zap σ f p n) f p = (fun _ => 0) ∧ hL (zap σ f p n) f p = (fun _ => 0) ∧ hR (zap σ f p n) f p = (fun _ => none) := by
  refine ⟨?_, ?_, ?_⟩
  · funext j
    show (if f = f ∧ p = p then (0 : Int32) else σ.2.1 f p j) = _
    rw [if_pos ⟨rfl, rfl⟩]
  · funext j
    show (if f = f ∧ p = p then (0 : Int64) else σ.2.2.1 f p j) = _
    rw [if_pos ⟨rfl, rfl⟩]
  · funext j
    show (if f = f ∧ p = p then none else σ.2.2.2 f p j) = _
    rw [if_pos ⟨rfl, rfl⟩]
theorem HI_make {D : va_G} {dT : Nat → ClassId} {z b n : Nat} {σ : Hp} {s : State} {H H1 : Heap} (h : HI false D dT z b σ s H) (z1 : H1.size = H.size + 1) (oq : ∀ q : Nat, q < H.size → H1[q]? = H[q]?)
    (he : va_at D clsW (z + σ.1.1, cellE false dT z b (zap σ (fa σ.1.1).1 (fa σ.1.1).2 n) (fa σ.1.1)) H1) : HI false D dT z b (zap σ (fa σ.1.1).1 (fa σ.1.1).2 n) s H1 := by
  obtain ⟨g1, g2, g3, g4, g5, g6, g7, g8⟩ := h
  have hpos := fa_pos g7
  refine ⟨g1, fun i q hq => ?_, ?_, ?_, ?_, g6, ?_, fun hm => by cases hm⟩
  · obtain ⟨hi, rfl⟩ := wsl_in hq
    have hi : i + 1 < σ.1.1 + 1 := hi
    by_cases ha : i + 1 = σ.1.1
    · rw [ha]; exact he
    · have hn : fa (i + 1) ≠ ((fa σ.1.1).1, (fa σ.1.1).2) := by
        intro hh
        have e1 := cidx_fa (i + 1)
        have e2 := cidx_fa σ.1.1
        rw [hh] at e1
        exact ha (e1.symm.trans e2)
      obtain ⟨y1, y2, y3⟩ := zap_ne (σ := σ) (n := n) hn
      rw [cellE_congr y1 y2 y3]
      have hq0 := g2 i _ (wsl_at false dT z b σ (by omega))
      refine hq0.kept (oq _ ?_)
      show z + (i + 1) < H.size
      omega
  · show H1.size = z + (σ.1.1 + 1)
    omega
  · intro f' p' k' h21
    show fits .char (.int (if f' = (fa σ.1.1).1 ∧ p' = (fa σ.1.1).2 then 0 else σ.2.1 f' p' k')) = true
    split
    · rfl
    · exact g4 f' p' k' h21
  · have e0 : hI (zap σ (fa σ.1.1).1 (fa σ.1.1).2 n) 0 0 = hI σ 0 0 := (zap_ne (a := (0, 0)) (fun q => by
      have : 0 = (fa σ.1.1).1 := congrArg Prod.fst q
      omega)).1
    rw [e0]
    show va_X b σ.1.2.2 _ s H1
    exact g5.kept (oq b (by omega))
  · show 1 ≤ σ.1.1 + 1
    omega
theorem ref_fa {z b i : Nat} (h : 1 ≤ i) : cvv z b (.inr (.inr (some (fa i)))) = .ref (z + i) := by
  show Value.ref (adr z b ((fa i).1, (fa i).2)) = _
  rw [adr_eq (fa_pos h) rfl, cidx_fa]
theorem made_ok : ∀ ci, ci < 10 → 1 ≤ ci → ∀ cc : vw_C, clsW[ci]? = some cc → Cond.instantiable cc.1 cc.2.2 ∈ wT := by
  have h : ∀ ci, ci < 10 → (match clsW[ci]? with
    | some cc => Nat.beq ci 0 || slZ_l.elem (cc.1, cc.2.2)
    | none => true) = true := by decide +kernel
  intro ci hci h1 cc hc
  have h2 := h ci hci
  rw [hc] at h2
  have h0 : Nat.beq ci 0 = false := by cases ci with
    | zero => omega
    | succ n => rfl
  simp only [h0, Bool.false_or] at h2
  exact w_made (List.elem_iff.mp h2)
theorem ck10 : (ckT.all fun q => decide (1 ≤ q.2.2.1) && decide (q.2.2.1 < 10)) = true := by decide +kernel
theorem one_new (X : Cx me ini d p R s m args meth c) (hB1 : B.1 ≤ n0 + R.cells) (hB2 : B.2.1 ≤ t0 + R.slots) {i : Nat} (hd : decode me.2.1 pc = .ok (.new i, len)) (hln : lnOk pc (.new i) len = true)
    (h : one md ini d B me.2.2.2.1 Qa me.2.2.2.2.1 (.new i) pc ls st σ K) (hK : ∀ pc' ls' st' σ', K pc' ls' st' σ' → WA me p l e R s m args below meth c Qm D dT z b n0 t0 md pc' ls' st' σ') : WA me p l e R s m args below meth c Qm D dT z b n0 t0 md pc ls st σ := by
  obtain ⟨hx, hb, hml, hown, hts, hini, hfr, hlo, hdc⟩ := X
  intro H locs arr kc ks hH hS hLs hc hs
  obtain rfl : len = 3 := by simpa [lnOk] using hln
  simp only [one] at h
  split at h
  · rename_i ci hci
    obtain ⟨h1, h2, h3, h4⟩ := h
    obtain ⟨pl, hm⟩ := clk_mem hci
    have hcb : 1 ≤ ci ∧ ci < 10 := by simpa using List.all_eq_true.mp ck10 _ hm
    obtain ⟨cc, hcl⟩ : ∃ cc, clsW[ci]? = some cc := ⟨_, List.getElem?_eq_getElem (by exact hcb.2)⟩
    obtain ⟨C, T, N⟩ := cc
    obtain ⟨hin, hty, hnm⟩ := cls_k hcl hcb.1
    obtain ⟨hN, hCn⟩ := ftN ci hcb.2 hcb.1 _ hcl
    have hN : (ftT.getD ci []).length = N := hN
    have hCn : C = ownN ci := hCn
    rw [hN] at h1 h3 h4
    have hKn := hH.1.1 ci _ hcl
    have hlen := hH.2.2.2.2.2.2.1
    refine W.newcK (n := N) hx hb hown (by rw [hCn]; exact hts _ (clk_w hci)) (hts _ (made_ok ci hcb.2 hcb.1 _ hcl)) (hts _ (w_ini (by rw [hCn]; exact inN ci hcb.2))) rfl hd (by omega) (by omega) hKn.2.1 rfl fun H1 kC hkC e1 z1 o1 => ?_
    refine W.eq (g2 := F0 m (pc + 3) arr ((.inr (.inr (some (fa σ.1.1))) :: st).map (cvv z b))) (by rw [List.map_cons, ref_fa hlen, ← hH.2.2.1]) ?_
    refine hK _ _ _ _ h4 H1 locs arr (kc + 1) (ks + N) (HI_make hH z1 o1 ?_) ⟨Nat.le_trans hS.1 (by omega), fun q g1 g2 => (o1 q (Nat.lt_of_lt_of_le g1 hS.1)).trans (hS.2.1 q g1 g2), hS.2.2⟩ hLs (by show σ.1.1 + 1 = _; omega) (by show σ.1.2.1 + N = _; omega)
    have hk1 : (fkd (fa σ.1.1).1).1 = ci := by rw [h1]
    have hk2 : (fkd (fa σ.1.1).1).2 = N := by rw [h1]
    rw [cell_o (f := (fa σ.1.1).1) (p := (fa σ.1.1).2) (by omega), hk1, hk2]
    rw [hH.2.2.1] at e1
    refine ⟨_, hcl, (u_born (tyW ci) hts hin hKn hkC e1 hty).to fun k hk => ?_⟩
    have hft : ftyp ci k = tcode (tyW ci k) := (ftK ci hcb.2 _ hcl hcb.1 k hk).1
    obtain ⟨y1, y2, y3⟩ := zap_at σ (fa σ.1.1).1 (fa σ.1.1).2 N
    have e2 : vp_V ((List.range N).map fun j => cvv z b (rdf false (zap σ (fa σ.1.1).1 (fa σ.1.1).2 N) ci (fa σ.1.1).1 (fa σ.1.1).2 j)) k = cvv z b (rdf false (zap σ (fa σ.1.1).1 (fa σ.1.1).2 N) ci (fa σ.1.1).1 (fa σ.1.1).2 k) := by
      unfold vp_V
      rw [List.getD_eq_getElem?_getD, List.getElem?_map, List.getElem?_range hk]
      rfl
    rw [e2]
    unfold rdf rdr
    rw [hft, y1, y2, y3]
    have hN46 : N ≤ 46 ∧ ∀ k, k < N → tcode (tyW ci k) < 4 := by
      have hall : ∀ ci, ci < 10 → (match clsW[ci]? with
        | some cc => decide (cc.2.2 ≤ 46) && (List.range cc.2.2).all fun k => decide (tcode (tyW ci k) < 4)
        | none => true) = true := by decide +kernel
      have := hall ci hcb.2
      rw [hcl] at this
      simp only [Bool.and_eq_true, decide_eq_true_eq, List.all_eq_true, List.mem_range] at this
      exact this
    have hlt := hN46.2 k hk
    cases hq2 : tyW ci k <;> rw [hq2] at hlt <;> first | rfl | exact absurd hlt (by decide)
  · exact h.elim
theorem one_newa (X : Cx me ini d p R s m args meth c) (hB1 : B.1 ≤ n0 + R.cells) (hB2 : B.2.1 ≤ t0 + R.slots) {t : ArrayType} (hd : decode me.2.1 pc = .ok (.newarray t, len)) (hln : lnOk pc (.newarray t) len = true)
    (h : one md ini d B me.2.2.2.1 Qa me.2.2.2.2.1 (.newarray t) pc ls st σ K) (hK : ∀ pc' ls' st' σ', K pc' ls' st' σ' → WA me p l e R s m args below meth c Qm D dT z b n0 t0 md pc' ls' st' σ') : WA me p l e R s m args below meth c Qm D dT z b n0 t0 md pc ls st σ := by
  obtain ⟨hx, hb, hml, hown, hts, hini, hfr, hlo, hdc⟩ := X
  intro H locs arr kc ks hH hS hLs hc hs
  obtain rfl : len = 2 := by simpa [lnOk] using hln
  simp only [one] at h
  split at h
  · rename_i n r
    obtain ⟨hn, h1, h2, h3, h4⟩ := h
    have hlen := hH.2.2.2.2.2.2.1
    have hk1 : (fkd (fa σ.1.1).1).1 = akind t := by rw [h1]
    have hk2 : (fkd (fa σ.1.1).1).2 = n.toNatClampNeg := by rw [h1]
    have hbig : n.toNatClampNeg < 100000 ∧ (t = .int ∨ t = .char ∨ t = .long) := by
      rcases Nat.lt_or_ge (fa σ.1.1).1 266 with q | q
      · refine ⟨by rw [← hk2]; exact (fkB _ q).2.2, ?_⟩
        have hne : ∀ f, f < 266 → (fkd f).1 ≠ 97 := by decide +kernel
        cases t <;> first | exact Or.inl rfl | exact Or.inr (Or.inl rfl) | exact Or.inr (Or.inr rfl) | exact absurd hk1 (hne _ q)
      · have := fkd_out q
        rw [hk1] at this
        cases t <;> cases this
    obtain ⟨hn5, ht3⟩ := hbig
    have go : ∀ (H1 : Heap) (cA : ClassId) (dv : Value) (k0 : Nat), akind t = k0 → cA = dT k0 → H1[z + σ.1.1]? = some (arrV cA n.toNatClampNeg (fun _ => dv)) → H1.size = H.size + 1 → (∀ q, q < H.size → H1[q]? = H[q]?) → ((k0 = 20 ∨ k0 = 21) ∧ dv = .int 0 ∨ k0 = 22 ∧ dv = .long 0) → W p l e R s m args below meth c H1 locs (kc + 1) (ks + n.toNatClampNeg) Qm (F0 m (pc + 2) arr (.ref (z + σ.1.1) :: r.map (cvv z b))) := by
      intro H1 cA dv k0 hk0 hcA e1 z1 o1 hdv
      refine W.eq (g2 := F0 m (pc + 2) arr ((.inr (.inr (some (fa σ.1.1))) :: r).map (cvv z b))) (by rw [List.map_cons, ref_fa hlen]) ?_
      refine hK _ _ _ _ h4 H1 locs arr (kc + 1) (ks + n.toNatClampNeg) (HI_make hH z1 o1 ?_) ⟨Nat.le_trans hS.1 (by omega), fun q g1 g2 => (o1 q (Nat.lt_of_lt_of_le g1 hS.1)).trans (hS.2.1 q g1 g2), hS.2.2⟩ hLs (by show σ.1.1 + 1 = _; omega) (by show σ.1.2.1 + _ = _; omega)
      obtain ⟨y1, y2, y3⟩ := zap_at σ (fa σ.1.1).1 (fa σ.1.1).2 n.toNatClampNeg
      rcases hdv with ⟨hk, rfl⟩ | ⟨rfl, rfl⟩
      · rw [cell_i (f := (fa σ.1.1).1) (p := (fa σ.1.1).2) (hk1.trans hk0) hk, y1, hk2]
        show H1[z + σ.1.1]? = some (vp_cell _ _)
        rw [vp_cell_i, e1, hcA]
      · rw [cell_l (f := (fa σ.1.1).1) (p := (fa σ.1.1).2) (hk1.trans hk0), y2, hk2]
        show H1[z + σ.1.1]? = some (vp_cell _ _)
        rw [vp_cell_l, e1, hcA]
    rcases ht3 with rfl | rfl | rfl
    · refine va_newaK (atype := .int) hx hb (hts _ (w_arr (by decide))) rfl hd rfl hn rfl (by show _ * 4 ≤ _; omega) (by omega) (by omega) hH.2.2.1 fun H1 cA e1 z1 o1 hAr hNm => ?_
      have hRA : s.vm.findClass ("[" ++ FieldType.toString .int) = some (dT 20) := (hH.1.2 0 _ rfl).2
      exact go H1 cA (.int 0) 20 rfl (Option.some.inj (hNm.symm.trans hRA)) e1 (by rw [z1, hH.2.2.1]) (fun q hq => o1 q (by rw [← hH.2.2.1]; exact hq)) (Or.inl ⟨Or.inl rfl, rfl⟩)
    · refine va_newaK (atype := .char) hx hb (hts _ (w_arr (by decide))) rfl hd rfl hn rfl (by show _ * 2 ≤ _; omega) (by omega) (by omega) hH.2.2.1 fun H1 cA e1 z1 o1 hAr hNm => ?_
      have hRA : s.vm.findClass ("[" ++ FieldType.toString .char) = some (dT 21) := (hH.1.2 1 _ rfl).2
      exact go H1 cA (.int 0) 21 rfl (Option.some.inj (hNm.symm.trans hRA)) e1 (by rw [z1, hH.2.2.1]) (fun q hq => o1 q (by rw [← hH.2.2.1]; exact hq)) (Or.inl ⟨Or.inr rfl, rfl⟩)
    · refine va_newaK (atype := .long) hx hb (hts _ (w_arr (by decide))) rfl hd rfl hn rfl (by show _ * 8 ≤ _; omega) (by omega) (by omega) hH.2.2.1 fun H1 cA e1 z1 o1 hAr hNm => ?_
      have hRA : s.vm.findClass ("[" ++ FieldType.toString .long) = some (dT 22) := (hH.1.2 2 _ rfl).2
      exact go H1 cA (.long 0) 22 rfl (Option.some.inj (hNm.symm.trans hRA)) e1 (by rw [z1, hH.2.2.1]) (fun q hq => o1 q (by rw [← hH.2.2.1]; exact hq)) (Or.inr ⟨rfl, rfl⟩)
  · exact h.elim
theorem one_anew (X : Cx me ini d p R s m args meth c) (hB1 : B.1 ≤ n0 + R.cells) (hB2 : B.2.1 ≤ t0 + R.slots) {i : Nat} (hd : decode me.2.1 pc = .ok (.anewarray i, len)) (hln : lnOk pc (.anewarray i) len = true)
    (h : one md ini d B me.2.2.2.1 Qa me.2.2.2.2.1 (.anewarray i) pc ls st σ K) (hK : ∀ pc' ls' st' σ', K pc' ls' st' σ' → WA me p l e R s m args below meth c Qm D dT z b n0 t0 md pc' ls' st' σ') : WA me p l e R s m args below meth c Qm D dT z b n0 t0 md pc ls st σ := by
  obtain ⟨hx, hb, hml, hown, hts, hini, hfr, hlo, hdc⟩ := X
  intro H locs arr kc ks hH hS hLs hc hs
  obtain rfl : len = 3 := by simpa [lnOk] using hln
  simp only [one] at h
  split at h
  · rename_i ci n r hci
    obtain ⟨hn, h1, h2, h3, h4⟩ := h
    have hlen := hH.2.2.2.2.2.2.1
    have hk1 : (fkd (fa σ.1.1).1).1 = okind ci := by rw [h1]
    have hk2 : (fkd (fa σ.1.1).1).2 = n.toNatClampNeg := by rw [h1]
    have hbig : n.toNatClampNeg < 100000 ∧ okind ci < 26 := by
      rcases Nat.lt_or_ge (fa σ.1.1).1 266 with q | q
      · refine ⟨by rw [← hk2]; exact (fkB _ q).2.2, ?_⟩
        have hne : ∀ f, f < 266 → (fkd f).1 ≠ 97 := by decide +kernel
        have h97 := hne _ q
        rw [hk1] at h97
        unfold okind at h97 ⊢
        split at h97 <;> first | omega | exact absurd rfl h97
      · have := fkd_out q
        rw [hk1] at this
        unfold okind at this
        split at this <;> cases this
    obtain ⟨hn5, hok⟩ := hbig
    have hoks := okind_in (ci := ci) rfl hok
    obtain ⟨t1, cc, ht, hcl, hov⟩ : ∃ (t1 : Nat) (cc : vw_C), (tysL dT)[t1]? = some (dT (okind ci), .object cc.1) ∧ cc.1 = ownN ci ∧ Cond.arrayOver (.object cc.1) ∈ wT := by
      rcases hoks with ⟨rfl, e2⟩ | ⟨rfl, e2⟩ | ⟨rfl, e2⟩
      · exact ⟨3, (RX7, TX7, 11), rfl, rfl, w_over (by decide)⟩
      · exact ⟨4, (RX3, TX3, 16), rfl, rfl, w_over (by decide)⟩
      · exact ⟨5, (RX1, TX1, 10), rfl, rfl, w_over (by decide)⟩
    refine W.anew hx hb hown (by rw [hcl]; exact hts _ (clk_w hci)) (hts _ hov) rfl hd rfl hn (by omega) (by omega) (by omega) fun cA kA comp f1 f2 f3 f4 => ?_
    obtain ⟨kA2, comp2, k1, k2, k3, k4⟩ := (hH.1.2 t1 _ ht).2
    have hcA : cA = dT (okind ci) := Option.some.inj (f1.symm.trans k4)
    refine W.eq (g2 := F0 m (pc + 3) arr ((.inr (.inr (some (fa σ.1.1))) :: r).map (cvv z b))) (by show F0 m (pc + 3) arr (.ref H.size :: r.map (cvv z b)) = F0 m (pc + 3) arr (cvv z b (.inr (.inr (some (fa σ.1.1)))) :: r.map (cvv z b)); rw [ref_fa hlen, hH.2.2.1]) ?_
    have z1 : (H.push ({ cls := cA, slots := Array.replicate n.toNatClampNeg .null, vm := .none } : Cell)).size = H.size + 1 := by rw [Array.size_push]
    have o1 : ∀ q : Nat, q < H.size → (H.push ({ cls := cA, slots := Array.replicate n.toNatClampNeg .null, vm := .none } : Cell))[q]? = H[q]? := fun q hq => by rw [Array.getElem?_push, if_neg (Nat.ne_of_lt hq)]
    refine hK _ _ _ _ h4 _ locs arr (kc + 1) (ks + n.toNatClampNeg) (HI_make hH z1 o1 ?_) ⟨Nat.le_trans hS.1 (by omega), fun q g1 g2 => (o1 q (Nat.lt_of_lt_of_le g1 hS.1)).trans (hS.2.1 q g1 g2), hS.2.2⟩ hLs (by show σ.1.1 + 1 = _; omega) (by show σ.1.2.1 + _ = _; omega)
    obtain ⟨y1, y2, y3⟩ := zap_at σ (fa σ.1.1).1 (fa σ.1.1).2 n.toNatClampNeg
    rw [cell_r (f := (fa σ.1.1).1) (p := (fa σ.1.1).2) (by omega), hk1, hk2]
    show (H.push _)[z + σ.1.1]? = some (vp_cell _ _)
    rw [← hH.2.2.1, Array.getElem?_push_size, arrV_new, vp_cell_q, hcA]
    congr 2
    funext j
    show Value.null = va_rf (Option.map _ (rdr false _ _ _ j))
    unfold rdr
    rw [y3]
    rfl
  · exact h.elim
end MK
end
section
section CL
variable {me : MEnt} {ini : Bool} {d : Nat} {p : Program} {l : Launch} {e : Env} {R : Room} {s : State} {m : MethodId} {args : Array Value} {below : List Frame} {meth : Method} {c : Code} {Qm : State → Prop} {D : va_G} {dT : Nat → ClassId} {z b n0 t0 : Nat} {md : Bool} {B : Nat × Nat × Nat} {Qa : Option AV → Hp → Prop} {pc len : Nat} {ls : Ls} {st : List AV} {σ : Hp} {K : Nat → Ls → List AV → Hp → Prop}
/-- what comes behind a call -/
theorem run_go {H : Heap} {locs : List Loc} {arr : Array Slot} {kc ks mc ms : Nat} {st0 rest : List Value} {Qr : Option AV → Hp → Prop}
    (hr : va_Run p l e R s m args below meth c H locs kc ks mc ms (F0 m pc arr st0) rest (fun st o t => (∃ (r : Option AV) (σ' : Hp), Qr r σ' ∧ o = .returned (r.map (cvv z b)) ∧ HI md D dT z b σ' t t.heap) ∧ va_F (fun q => z < q) st t) (fun q => z < q)) (hS : va_S (fun q => z < q) s.heap H locs)
    (kk : ∀ (r : Option AV) (σ' : Hp) (H1 : Heap) (locs1 : List Loc), Qr r σ' → HI md D dT z b σ' s H1 → va_S (fun q => z < q) s.heap H1 locs1 → W p l e R s m args below meth c H1 locs1 (kc + mc) (ks + ms) Qm (F0 m (pc + 3) arr ((r.map (cvv z b)).toList ++ rest))) :
    W p l e R s m args below meth c H locs kc ks Qm (F0 m pc arr st0) := by
  intro T hT X
  obtain ⟨v, st₀, t, T', L, h0, X', hL, e1, e2, ⟨⟨r, σ', hq, hv, hHI⟩, hz, hk⟩, stp⟩ := hr T hT X
  cases hv
  rw [h0] at hz hk
  have hal : s.vm.Alike t.vm := by rw [← e2]; exact X'.warmed.alike
  have hH1 : HI md D dT z b σ' s T'.heap := by rw [e1]; exact HI_moved hal.symm hHI
  obtain ⟨t2, a1, b1⟩ := kk r σ' T'.heap (locs ++ L) hq hH1 ⟨Nat.le_trans hS.1 (by rw [e1]; exact hz), fun q g1 g2 => by rw [e1, hk q (Nat.lt_of_lt_of_le g1 hS.1) g2]; exact hS.2.1 q g1 g2, fun q hq => by
      rcases List.mem_append.mp hq with g | g
      · exact hS.2.2 q g
      · exact hL q g⟩ T' rfl X'
  exact ⟨t2, stp t2 a1, b1⟩
/-- a call by kind: the machine's own row for it is 'hrun' -/
theorem call_go {H : Heap} {locs : List Loc} {arr : Array Slot} {kc ks mj : Nat} {d' : Nat} {as rest : List AV} {st0 : List Value} {ret : Option FieldType} {K2 : List AV → Hp → Prop}
    (hret : retT.getD mj none = ret) (hB1 : B.1 ≤ n0 + R.cells) (hB2 : B.2.1 ≤ t0 + R.slots) (hc : σ.1.1 = n0 + kc) (hs : σ.1.2.1 = t0 + ks) (hS : va_S (fun q => z < q) s.heap H locs)
    (h : calM md d' mj ret as σ B rest K2)
    (hrun : ∀ (B' : Nat × Nat × Nat) (Q' : Option AV → Hp → Prop) (mj' : MEnt), MT[mj]? = some mj' → σ.1.1 ≤ B'.1 → σ.1.2.1 ≤ B'.2.1 → kc + (B'.1 - σ.1.1) ≤ R.cells → ks + (B'.2.1 - σ.1.2.1) ≤ R.slots →
      (∀ (l : Launch) (D : va_G) (dT : Nat → ClassId) (z b : Nat), Met l mj'.1 (Cond.code mj'.1 mj'.2.1 mj'.2.2.1 mj'.2.2.2.1 :: wT) { frames := d', cells := B'.1 - σ.1.1, slots := B'.2.1 - σ.1.2.1, locals := 64 * d' }
        (fun v U => v = (as.map (cvv z b)).toArray ∧ HI md D dT z b σ U U.heap)
        (fun _ st o t => (∃ (r : Option AV) (σ' : Hp), rOk mj'.2.2.2.1 r ∧ Q' r σ' ∧ σ'.1 = B' ∧ o = .returned (r.map (cvv z b)) ∧ HI md D dT z b σ' t t.heap) ∧ va_F (fun q => z < q) st t)
        (B'.1 - σ.1.1) (B'.2.1 - σ.1.2.1) (fun q => z < q)) →
      va_Run p l e R s m args below meth c H locs kc ks (B'.1 - σ.1.1) (B'.2.1 - σ.1.2.1) (F0 m pc arr st0) (rest.map (cvv z b)) (fun st o t => (∃ (r : Option AV) (σ' : Hp), rOk mj'.2.2.2.1 r ∧ Q' r σ' ∧ σ'.1 = B' ∧ o = .returned (r.map (cvv z b)) ∧ HI md D dT z b σ' t t.heap) ∧ va_F (fun q => z < q) st t) (fun q => z < q))
    (hK : ∀ (st' : List AV) (σ' : Hp), K2 st' σ' → ∀ (H1 : Heap) (locs1 : List Loc) (kc' ks' : Nat), HI md D dT z b σ' s H1 → va_S (fun q => z < q) s.heap H1 locs1 → σ'.1.1 = n0 + kc' → σ'.1.2.1 = t0 + ks' → W p l e R s m args below meth c H1 locs1 kc' ks' Qm (F0 m (pc + 3) arr (st'.map (cvv z b)))) :
    W p l e R s m args below meth c H locs kc ks Qm (F0 m pc arr st0) := by
  have main : ∀ (B' : Nat × Nat × Nat) (Q' : Option AV → Hp → Prop), Ev md d' mj as σ B' Q' → B'.1 ≤ B.1 → B'.2.1 ≤ B.2.1 → (∀ (r : Option AV) (σ' : Hp), rOk ret r → Q' r σ' → σ'.1 = B' → K2 (r.toList ++ rest) σ') → W p l e R s m args below meth c H locs kc ks Qm (F0 m pc arr st0) := by
    intro B' Q' hEv hb1 hb2 hk
    obtain ⟨y1, y2, mj', hmj, hM⟩ := hEv
    have hrt : mj'.2.2.2.1 = ret := by rw [← (mt_d hmj).2.1]; exact hret
    refine run_go (md := md) (D := D) (dT := dT) (b := b) (rest := rest.map (cvv z b)) (Qr := fun r σ' => rOk mj'.2.2.2.1 r ∧ Q' r σ' ∧ σ'.1 = B') (mc := B'.1 - σ.1.1) (ms := B'.2.1 - σ.1.2.1) ?_ hS ?_
    · have := hrun B' Q' mj' hmj y1 y2 (by omega) (by omega) hM
      simpa only [and_assoc] using this
    · intro r σ' H1 locs1 hq hHI hS1
      obtain ⟨q1, q2, q3⟩ := hq
      rw [hrt] at q1
      have := hK (r.toList ++ rest) σ' (hk r σ' q1 q2 q3) H1 locs1 (kc + (B'.1 - σ.1.1)) (ks + (B'.2.1 - σ.1.2.1)) hHI hS1 (by rw [q3]; omega) (by rw [q3]; omega)
      rw [List.map_append] at this
      cases r with
      | none => exact this
      | some v => exact this
  cases ret with
  | none =>
    obtain ⟨B', Q', hEv, h1, h2, h3⟩ := h
    refine main B' Q' hEv h1 h2 fun r σ' hr hq hb => ?_
    have hr : r = none := hr
    subst hr
    exact h3 σ' hq hb
  | some t =>
    cases t with
    | long =>
      obtain ⟨B', Q', hEv, h1, h2, h3⟩ := h
      refine main B' Q' hEv h1 h2 fun r σ' hr hq hb => ?_
      obtain ⟨y, rfl⟩ : ∃ y : Int64, r = some (vl y) := hr
      exact h3 y σ' hq hb
    | _ =>
      obtain ⟨B', Q', hEv, h1, h2, h3⟩ := h
      refine main B' Q' hEv h1 h2 fun r σ' hr hq hb => ?_
      obtain ⟨y, rfl⟩ : ∃ y : Int32, r = some (vi y) := hr
      exact h3 y σ' hq hb
theorem pc_blind {as : List AV} {σ : Hp} : FrameBlind (fun v U => v = (as.map (cvv z b)).toArray ∧ HI md D dT z b σ U U.heap) := fun a U g mk q => ⟨q.1, HI_moved (u := U) (U := U.calling g mk a) (Vm.Alike.refl U.vm) q.2⟩
theorem callB_w {i mj d' : Nat} {mj' : MEnt} {mc ms : Nat} (X : Cx me ini (d' + 1) p R s m args meth c) (hmj : MT[mj]? = some mj') (hw : Cond.methodLink (ownN me.2.2.2.2.1) i (mtN mj) ∈ wT) :
    CallB R s args (ownN me.2.2.2.2.1) i mj'.1 mj'.2.1 mj'.2.2.1 mj'.2.2.2.1 (Cond.code mj'.1 mj'.2.1 mj'.2.2.1 mj'.2.2.2.1 :: wT) { frames := d', cells := mc, slots := ms, locals := 64 * d' } mc ms (pcT.getD mj 0) := by
  obtain ⟨hx, hb, hml, hown, hts, hini, hfr, hlo, hdc⟩ := X
  have hcode := mem_c hmj
  obtain ⟨⟨dd, hdd, hpn⟩, -, -, hcls, hc10⟩ := mt_d hmj
  have hchk := mch mj' (List.mem_of_getElem? hmj)
  simp only [mchk, Bool.and_eq_true, decide_eq_true_eq] at hchk
  obtain ⟨⟨⟨⟨-, -⟩, hL12⟩, hne1⟩, hne2⟩ := hchk
  refine ⟨rfl, rfl, by show d' + 1 ≤ R.frames; omega, by show 8 + (mj'.2.2.1 + 11) + 64 * d' ≤ R.locals; omega, fun w hw a' U hW => ?_, List.mem_cons_self, hts _ hcode, hts _ (w_ini (by rw [hcls]; exact inN _ hc10)), ⟨hne1, hne2⟩, fun sig hsig => ?_, by rw [← mtN_eq hmj]; exact hts _ hw⟩
  · rcases List.mem_cons.mp hw with rfl | hw
    · exact warm (List.mem_filter.mp hcode).2 (hts _ hcode) hW
    · exact warm (List.mem_filter.mp hw).2 (hts _ hw) hW
  · rw [hdd] at hsig
    cases hsig
    exact hpn.symm
theorem callN_w {i mj d' : Nat} {mj' : MEnt} {mc ms : Nat} (X : Cx me ini (d' + 1) p R s m args meth c) (hmj : MT[mj]? = some mj') (hw : Cond.methodLinkNest (ownN me.2.2.2.2.1) i (mtN mj) RX8 ∈ wT) :
    va_CN R s args (ownN me.2.2.2.2.1) i mj'.1 RX8 mj'.2.1 mj'.2.2.1 mj'.2.2.2.1 (Cond.code mj'.1 mj'.2.1 mj'.2.2.1 mj'.2.2.2.1 :: wT) { frames := d', cells := mc, slots := ms, locals := 64 * d' } mc ms (pcT.getD mj 0) := by
  obtain ⟨hx, hb, hml, hown, hts, hini, hfr, hlo, hdc⟩ := X
  have hcode := mem_c hmj
  obtain ⟨⟨dd, hdd, hpn⟩, -, -, hcls, hc10⟩ := mt_d hmj
  have hchk := mch mj' (List.mem_of_getElem? hmj)
  simp only [mchk, Bool.and_eq_true, decide_eq_true_eq] at hchk
  obtain ⟨⟨⟨⟨-, -⟩, hL12⟩, hne1⟩, hne2⟩ := hchk
  refine ⟨⟨rfl, rfl, by show d' + 1 ≤ R.frames; omega, by show 8 + (mj'.2.2.1 + 11) + 64 * d' ≤ R.locals; omega, fun w hw a' U hW => ?_, List.mem_cons_self⟩, hts _ hcode, hts _ (w_ini (by rw [hcls]; exact inN _ hc10)), ⟨hne1, hne2⟩, fun sig hsig => ?_, by rw [← mtN_eq hmj]; exact hts _ hw⟩
  · rcases List.mem_cons.mp hw with rfl | hw
    · exact warm (List.mem_filter.mp hcode).2 (hts _ hcode) hW
    · exact warm (List.mem_filter.mp hw).2 (hts _ hw) hW
  · rw [hdd] at hsig
    cases hsig
    exact hpn.symm
end CL
end
section
def slW : Cond → Option MethodName := fun w => match w with
  | .native y => some y
  | _ => none
set_option maxRecDepth 100000 in
theorem slW_ok : lw_tbl.filterMap slW = [arraycopyName] := by rfl
theorem w_native : Cond.native arraycopyName ∈ wT := by
  obtain ⟨w, hw, e⟩ := mem_sel slW_ok (a := arraycopyName) (by simp)
  cases w <;> simp [slW] at e
  subst e
  exact List.mem_filter.mpr ⟨hw, rfl⟩
set_option maxRecDepth 100000 in
theorem jdkS : slS_l.elem arraycopyName = true ∧ slS_l.elem Lib.Math.min.name = true ∧ slS_l.elem Lib.Math.abs.name = true := by decide +kernel
set_option maxRecDepth 100000 in
theorem jdkC1 : (Lib.Math.min.name, Lib.Math.min.code, 2, some FieldType.int) ∈ slC_l := List.mem_of_getElem? (i := 100) rfl
set_option maxRecDepth 100000 in
theorem jdkC2 : (Lib.Math.abs.name, Lib.Math.abs.code, 1, some FieldType.int) ∈ slC_l := List.mem_of_getElem? (i := 95) rfl
set_option maxRecDepth 100000 in
theorem jdkC3 : (objectInit, (⟨#[0xb1]⟩ : ByteArray), 1, (none : Option FieldType)) ∈ slC_l := List.mem_of_getElem? (i := 1) rfl
set_option maxRecDepth 100000 in
theorem jdkI : slI_l.elem objectInit = true := by decide +kernel
section IV
variable {me : MEnt} {ini : Bool} {d : Nat} {p : Program} {l : Launch} {e : Env} {R : Room} {s : State} {m : MethodId} {args : Array Value} {below : List Frame} {meth : Method} {c : Code} {Qm : State → Prop} {D : va_G} {dT : Nat → ClassId} {z b n0 t0 : Nat} {md : Bool} {B : Nat × Nat × Nat} {Qa : Option AV → Hp → Prop} {pc len : Nat} {ls : Ls} {st : List AV} {σ : Hp} {K : Nat → Ls → List AV → Hp → Prop}
theorem copy_at {α : Type} (mk : α → Value) {ty : FieldType} (hprim : refKind ty = false) {H : Heap} {locs : List Loc} {arr : Array Slot} {kc ks oc i a0 a1 n0 n1 : Nat} {c0 c1 : ClassId} {f g : Nat → α} {sp dp n : Int32} {rest : List Value}
    (hx : p.tables.exec = Jvm.exec) {cc : ByteArray} (hb : c.code = cc) (hml : c.maxLocals = arr.size) (hown : s.vm.findClass (ownN oc) = some m.cls) (hts : ∀ w ∈ wT, w.before args s = true) (hlink : Cond.methodLink (ownN oc) i arraycopyName ∈ wT)
    (hc0 : H[a0]? = some (arrV c0 n0 fun j => mk (f j))) (hc1 : H[a1]? = some (arrV c1 n1 fun j => mk (g j))) (ht0 : ArrOfT s c0 ty) (ht1 : ArrOfT s c1 ty) (h1 : ¬ sp < 0) (h2 : ¬ dp < 0) (h3 : ¬ n < 0) (h4 : sp.toNatClampNeg + n.toNatClampNeg ≤ n0) (h5 : dp.toNatClampNeg + n.toNatClampNeg ≤ n1)
    (hfit : ∀ j, fits ty (mk (f j)) = true) (htk : ∀ (U : State) (dc : ClassId) (x : α), U.takes dc (mk x)) (hframes : 1 ≤ R.frames) (hlocals : (rest.map fun v => v.category).sum + 18 ≤ R.locals) (hd : decode cc pc = .ok (.invokestatic i, 3))
    (kk : ∀ (H1 : Heap) (locs1 : List Loc), H1.size = H.size → (∀ q : Nat, q ≠ a1 → H1[q]? = H[q]?) → H1[a1]? = some (arrV c1 n1 fun j => mk (va_cpy f g sp.toNatClampNeg dp.toNatClampNeg n.toNatClampNeg j)) → (∀ o ∈ locs1, o ∈ locs ∨ o.base = a1) → W p l e R s m args below meth c H1 locs1 kc ks Qm (F0 m (pc + 3) arr rest)) :
    W p l e R s m args below meth c H locs kc ks Qm (F0 m pc arr (.int n :: .int dp :: .ref a1 :: .int sp :: .ref a0 :: rest)) := by
  have nn : ∀ y : Int32, ¬ y < 0 → y.toInt = (y.toNatClampNeg : Int) := by
    intro y hy
    have hy0 : (0 : Int) ≤ y.toInt := by
      have := Int32.not_lt.mp hy
      simpa using Int32.le_iff_toInt_le.mp this
    show y.toInt = ((y.toInt.toNat : Nat) : Int)
    omega
  intro T hT X
  obtain ⟨-, k0, hk0, cm0, hkk0⟩ := ht0 n0 (fun j => mk (f j))
  obtain ⟨-, k1, hk1, cm1, hkk1⟩ := ht1 n1 (fun j => mk (g j))
  obtain ⟨vm', X', step⟩ := X.arraycopy hx hown (hts _ hlink) (hts _ w_native) (hts _ (w_static (List.elem_iff.mp jdkS.1))) (hts _ (w_ini inN2.1)) (src := a0) (dst := a1) (srcPos := sp) (destPos := dp) (n := n) (by rw [hT]; exact hc0) (by rw [hT]; exact hc1)
    (fun _ h => by cases h) (fun _ h => by cases h) (fun h => by cases h) (fun h => by cases h) hk0 hk1 hkk0 hkk1 (by simp [hprim]) h1 h2 h3
    (by rw [nn sp h1, nn n h3, arrV_size]; omega) (by rw [nn dp h2, nn n h3, arrV_size]; omega)
    (fun vm₁ _ i hi => by
      have e1 : (arrV c0 n0 fun j => mk (f j)).slots.getD (sp.toNatClampNeg + i) .null = mk (f (sp.toNatClampNeg + i)) := by
        rw [Array.getD_eq_getD_getElem?, arrV_read _ _ (by omega)]
        rfl
      rw [e1]
      exact ⟨hfit _, htk _ _ _⟩)
    (g := F0 m pc arr (.int n :: .int dp :: .ref a1 :: .int sp :: .ref a0 :: rest)) rfl (by rw [hml]) (rest := rest) rfl (by rw [hb]; exact hd) hframes (by show 2 * 0 + _ + (7 + 11) ≤ _; omega)
  have e1 : copied (arrV c0 n0 fun j => mk (f j)) (arrV c1 n1 fun j => mk (g j)) sp dp n = arrV c1 n1 fun j => mk (va_cpy f g sp.toNatClampNeg dp.toNatClampNeg n.toNatClampNeg j) := va_copied mk c0 c1 f g h4
  rw [e1] at X' step
  have hl : a1 < H.size := (Array.getElem?_eq_some_iff.mp hc1).1
  have hheap : ((T.setVm vm').setCell a1 (arrV c1 n1 fun j => mk (va_cpy f g sp.toNatClampNeg dp.toNatClampNeg n.toNatClampNeg j))).heap = H.setIfInBounds a1 (arrV c1 n1 fun j => mk (va_cpy f g sp.toNatClampNeg dp.toNatClampNeg n.toNatClampNeg j)) := by rw [← hT]; rfl
  obtain ⟨t, a2, b2⟩ := kk _ _ (by simp) (fun q hq => by simp [Array.getElem?_setIfInBounds, Ne.symm hq]) (by simp [Array.getElem?_setIfInBounds, hl]) (fun o ho => by
      rcases List.mem_append.mp ho with g1 | g1
      · exact Or.inl g1
      · obtain ⟨y, -, hy⟩ := List.mem_map.mp g1
        rw [← hy]
        exact Or.inr rfl) _ hheap X'
  exact ⟨t, step t a2, b2⟩
theorem cpI_ne {σ : Hp} {f p sp g q dp n : Nat} {a : Nat × Nat} (h : a ≠ (g, q)) : hI (cpI σ f p sp g q dp n) a.1 a.2 = hI σ a.1 a.2 := by
  funext j
  show (if a.1 = g ∧ a.2 = q then _ else σ.2.1 a.1 a.2 j) = _
  rw [if_neg fun w => h (Prod.ext w.1 w.2)]; rfl
theorem cpL_ne {σ : Hp} {f p sp g q dp n : Nat} {a : Nat × Nat} (h : a ≠ (g, q)) : hL (cpL σ f p sp g q dp n) a.1 a.2 = hL σ a.1 a.2 := by
  funext j
  show (if a.1 = g ∧ a.2 = q then _ else σ.2.2.1 a.1 a.2 j) = _
  rw [if_neg fun w => h (Prod.ext w.1 w.2)]; rfl
theorem cpI_at (σ : Hp) (f p sp g q dp n : Nat) : hI (cpI σ f p sp g q dp n) g q = va_cpy (hI σ f p) (hI σ g q) sp dp n := by
  funext j
  show (if g = g ∧ q = q then _ else _) = _
  rw [if_pos ⟨rfl, rfl⟩]; rfl
theorem cpL_at (σ : Hp) (f p sp g q dp n : Nat) : hL (cpL σ f p sp g q dp n) g q = va_cpy (hL σ f p) (hL σ g q) sp dp n := by
  funext j
  show (if g = g ∧ q = q then _ else _) = _
  rw [if_pos ⟨rfl, rfl⟩]; rfl
theorem S_more {A : Nat → Prop} {H0 H H1 : Heap} {locs locs1 : List Loc} {a : Nat} (h : va_S A H0 H locs) (z1 : H1.size = H.size) (oq : ∀ q : Nat, q ≠ a → H1[q]? = H[q]?) (ha : A a) (hl : ∀ o ∈ locs1, o ∈ locs ∨ o.base = a) : va_S A H0 H1 locs1 := by
  refine ⟨by rw [z1]; exact h.1, fun q g1 g2 => ?_, fun o ho => ?_⟩
  · rw [oq q fun w => g2 (by rw [w]; exact ha)]
    exact h.2.1 q g1 g2
  · rcases hl o ho with g | g
    · exact h.2.2 o g
    · rw [g]; exact ha
theorem one_inv (X : Cx me ini d p R s m args meth c) (hB1 : B.1 ≤ n0 + R.cells) (hB2 : B.2.1 ≤ t0 + R.slots) {i : Nat} (hd : decode me.2.1 pc = .ok (.invokevirtual i, len)) (hln : lnOk pc (.invokevirtual i) len = true)
    (h : one md ini d B me.2.2.2.1 Qa me.2.2.2.2.1 (.invokevirtual i) pc ls st σ K) (hK : ∀ pc' ls' st' σ', K pc' ls' st' σ' → WA me p l e R s m args below meth c Qm D dT z b n0 t0 md pc' ls' st' σ') : WA me p l e R s m args below meth c Qm D dT z b n0 t0 md pc ls st σ := by
  have X0 := X
  obtain ⟨hx, hb, hml, hown, hts, hini, hfr, hlo, hdc⟩ := X
  intro H locs arr kc ks hH hS hLs hc hs
  obtain rfl : len = 3 := by simpa [lnOk] using hln
  simp only [one] at h
  split at h
  · rename_i mj hm
    split at h
    · rename_i f q r hst
      cases hq : Nat.beq (fkd f).1 (ocT.getD mj 99) with
      | false => rw [hq] at h; exact False.elim h
      | true =>
        rw [hq, cond_true] at h
        have hk0 := beq_n hq
        have hk90 : (fkd f).1 < 90 := by
          rcases Nat.lt_or_ge f 266 with w | w
          · have hne : ∀ f, f < 266 → (fkd f).1 < 90 ∨ (fkd f).1 = 98 ∨ (fkd f).1 = 99 := by decide +kernel
            have ho : ∀ k, (ocT.getD k 99) ≠ 98 := by
              have h1 : ocT.all (fun x => decide (x ≠ 98)) = true := by decide +kernel
              intro k
              rw [List.getD_eq_getElem?_getD]
              cases hk : ocT[k]? with
              | none => show (99 : Nat) ≠ 98; decide
              | some y => simpa using List.all_eq_true.mp h1 y (List.mem_of_getElem? hk)
            rcases hne f w with g | g | g
            · exact g
            · exact absurd (hk0.symm.trans g) (ho mj)
            · exfalso
              have hidx := ((mk_k hm).1 rfl).1
              have h1 : idxI.all (fun x => decide (ocT.getD x 99 ≠ 99)) = true := by decide +kernel
              have := List.all_eq_true.mp h1 mj (List.elem_iff.mp hidx)
              simp only [decide_eq_true_eq] at this
              exact this (hk0.symm.trans g)
          · exfalso
            have hidx := ((mk_k hm).1 rfl).1
            have h1 : idxI.all (fun x => decide (ocT.getD x 99 ≠ 99)) = true := by decide +kernel
            have := List.all_eq_true.mp h1 mj (List.elem_iff.mp hidx)
            simp only [decide_eq_true_eq] at this
            exact this (hk0.symm.trans (fkd_out w))
        obtain ⟨p', hp', ep, hl, hl1, hfa⟩ := acc_ok hk90 hH.2.2.2.2.2.2.2 h
        have hf1 := (fkd_in hk90).2.1
        cases d with
        | zero => exact hp'.elim
        | succ d' =>
          unfold callP at hp'
          dsimp only at hp'
          cases hw8 : Nat.ble (stw r) 8 with
          | false => rw [hw8] at hp'; exact hp'.elim
          | true =>
            rw [hw8, cond_true] at hp'
            have hw8 : stw r ≤ 8 := Nat.le_of_ble_eq_true hw8
            have hdec : st = st.take (pcT.getD mj 0) ++ .inr (.inr (some (f, q))) :: r := by rw [← hst, List.take_append_drop]
            have hlen : (st.take (pcT.getD mj 0)).length = pcT.getD mj 0 := by
              rw [List.length_take]
              have : st.length = (st.take (pcT.getD mj 0)).length + (r.length + 1) := by
                conv => lhs; rw [hdec]
                simp
              rw [List.length_take] at this
              omega
            refine call_go (mj := mj) (d' := d') (as := vr f p' :: (st.take (pcT.getD mj 0)).reverse) (rest := r) rfl hB1 hB2 hc hs hS hp' ?_ (fun st' σ' hk H1 locs1 kc' ks' hHI hS1 hc' hs' => hK _ _ _ _ hk H1 locs1 arr kc' ks' hHI hS1 hLs hc' hs')
            intro B' Q' mj' hmj y1 y2 y3 y4 hM
            obtain ⟨-, -, hoc, hcls, hc10⟩ := mt_d hmj
            have hci : (fkd f).1 = mj'.2.2.2.2.1 := hk0.trans hoc
            have h1 : 1 ≤ (fkd f).1 := ((fkB f (fkd_in hk90).1).1 (by omega)).1
            obtain ⟨cc, hcl⟩ : ∃ cc, clsW[(fkd f).1]? = some cc := ⟨_, List.getElem?_eq_getElem (by show _ < 10; omega)⟩
            have hCn := (ftN _ (by omega) h1 cc hcl).2
            have he := wsl_get md dT z b σ hl hl1 hfa
            rw [cell_o (by omega)] at he
            have hC : mj'.1.cls = cc.1 := by rw [hcls, hCn, hci]
            have hkk := mk_k hm
            have hstk : (F0 m pc arr (st.map (cvv z b))).stack = (((st.take (pcT.getD mj 0)).reverse).map (cvv z b)).reverse ++ .ref (z + cidx f p') :: r.map (cvv z b) := by
              show st.map (cvv z b) = _
              conv => lhs; rw [hdec]
              rw [List.map_append, List.map_cons, ref_eq hf1 ep, List.map_reverse, List.reverse_reverse]
            refine va_runV (Ts := wT) (own := ownN me.2.2.2.2.1) (C := mj'.1.cls) (n := pcT.getD mj 0) ⟨hx, hb, hml, hown, hts⟩ (hM l D dT z b) ⟨callB_w X0 hmj (mlk_w hm (by omega)), by rw [← mtN_eq hmj]; exact hts _ (mem_i (hkk.1 rfl).1), by rw [← mtN_eq hmj]; exact hts _ (mem_v (hkk.1 rfl).2)⟩ ⟨pc_blind, ?_, ?_⟩ rfl (by rw [List.length_map, List.length_reverse]; exact hlen) hLs.1 hstk (by show 2 * 0 + _ ≤ 8; rw [stw_cvv]; omega) hd ⟨y3, y4⟩
            · rw [hC]
              exact va_recv hH.1 hH.2.1 hcl he
            · intro U hU hW
              refine ⟨?_, by rw [hU]; exact HI_moved hW.alike hH⟩
              rw [List.map_cons, ref_eq (z := z) (b := b) hf1 rfl]
    · exact h.elim
  · exact h.elim
theorem one_invS (X : Cx me ini d p R s m args meth c) (hB1 : B.1 ≤ n0 + R.cells) (hB2 : B.2.1 ≤ t0 + R.slots) {i : Nat} (hd : decode me.2.1 pc = .ok (.invokestatic i, len)) (hln : lnOk pc (.invokestatic i) len = true)
    (h : one md ini d B me.2.2.2.1 Qa me.2.2.2.2.1 (.invokestatic i) pc ls st σ K) (hK : ∀ pc' ls' st' σ', K pc' ls' st' σ' → WA me p l e R s m args below meth c Qm D dT z b n0 t0 md pc' ls' st' σ') : WA me p l e R s m args below meth c Qm D dT z b n0 t0 md pc ls st σ := by
  have X0 := X
  obtain ⟨hx, hb, hml, hown, hts, hini, hfr, hlo, hdc⟩ := X
  intro H locs arr kc ks hH hS hLs hc hs
  obtain rfl : len = 3 := by simpa [lnOk] using hln
  have stat : ∀ mj, mlk me.2.2.2.2.1 i = some (1, mj) ∨ mlk me.2.2.2.2.1 i = some (3, mj) → (bif Nat.ble (pcT.getD mj 0) st.length then callP md d mj (retT.getD mj none) (st.take (pcT.getD mj 0)).reverse σ B (st.drop (pcT.getD mj 0)) (fun st' σ' => K (pc + 3) ls st' σ') else False) → W p l e R s m args below meth c H locs kc ks Qm (F0 m pc arr (st.map (cvv z b))) := by
    intro mj hm hp'
    have hlen : pcT.getD mj 0 ≤ st.length := by
      cases hq : Nat.ble (pcT.getD mj 0) st.length with
      | false => rw [hq] at hp'; exact hp'.elim
      | true => exact Nat.le_of_ble_eq_true hq
    rw [show Nat.ble (pcT.getD mj 0) st.length = true from Nat.ble_eq_true_of_le hlen, cond_true] at hp'
    cases d with
    | zero => exact hp'.elim
    | succ d' =>
      unfold callP at hp'
      dsimp only at hp'
      cases hw8 : Nat.ble (stw (st.drop (pcT.getD mj 0))) 8 with
      | false => rw [hw8] at hp'; exact hp'.elim
      | true =>
        rw [hw8, cond_true] at hp'
        have hw8 : stw (st.drop (pcT.getD mj 0)) ≤ 8 := Nat.le_of_ble_eq_true hw8
        refine call_go (mj := mj) (d' := d') (as := (st.take (pcT.getD mj 0)).reverse) (rest := st.drop (pcT.getD mj 0)) rfl hB1 hB2 hc hs hS hp' ?_ (fun st' σ' hk H1 locs1 kc' ks' hHI hS1 hc' hs' => hK _ _ _ _ hk H1 locs1 arr kc' ks' hHI hS1 hLs hc' hs')
        intro B' Q' mj' hmj y1 y2 y3 y4 hM
        have hstk : (F0 m pc arr (st.map (cvv z b))).stack = (((st.take (pcT.getD mj 0)).reverse).map (cvv z b)).reverse ++ (st.drop (pcT.getD mj 0)).map (cvv z b) := by
          show st.map (cvv z b) = _
          rw [List.map_reverse, List.reverse_reverse, ← List.map_append, List.take_append_drop]
        have hp : PreS s H (fun v U => v = (((st.take (pcT.getD mj 0)).reverse).map (cvv z b)).toArray ∧ HI md D dT z b σ U U.heap) (((st.take (pcT.getD mj 0)).reverse).map (cvv z b)) := ⟨pc_blind, fun U hU hW => ⟨rfl, by rw [hU]; exact HI_moved hW.alike hH⟩⟩
        rcases hm with hm | hm
        · exact va_runS (Ts := wT) (own := ownN me.2.2.2.2.1) (n := pcT.getD mj 0) ⟨hx, hb, hml, hown, hts⟩ (hM l D dT z b) ⟨callB_w X0 hmj (mlk_w hm (by omega)), by rw [← mtN_eq hmj]; exact hts _ (mem_s ((mk_k hm).2.1 (Or.inl rfl)))⟩ hp rfl (by rw [List.length_map, List.length_reverse, List.length_take]; omega) hLs.1 hstk (by show 2 * 0 + _ ≤ 8; rw [stw_cvv]; omega) hd ⟨y3, y4⟩
        · exact va_runSN (Ts := wT) (own := ownN me.2.2.2.2.1) (n := pcT.getD mj 0) ⟨hx, hb, hml, hown, hts⟩ (hM l D dT z b) ⟨callN_w X0 hmj (mlk_n hm (Or.inl rfl)), by rw [← mtN_eq hmj]; exact hts _ (mem_s ((mk_k hm).2.1 (Or.inr rfl))), trivial⟩ hp rfl (by rw [List.length_map, List.length_reverse, List.length_take]; omega) hLs.1 hstk (by show 2 * 0 + _ ≤ 8; rw [stw_cvv]; omega) hd ⟨y3, y4⟩
  simp only [one] at h
  split at h
  · rename_i mj hm
    exact stat mj (Or.inl hm) h
  · rename_i mj hm
    exact stat mj (Or.inr hm) h
  · rename_i w0 hm
    split at h
    · rename_i d' n dp g q sp f p0 r
      cases hq : Nat.ble (stw r) 8 && (Nat.beq (fkd f).1 (fkd g).1 && (Nat.blt 19 (fkd f).1 && Nat.blt (fkd f).1 23)) with
      | false => rw [hq] at h; exact False.elim h
      | true =>
        rw [hq, cond_true] at h
        simp only [Bool.and_eq_true] at hq
        have hw8 : stw r ≤ 8 := Nat.le_of_ble_eq_true hq.1
        have hfg := beq_n hq.2.1
        have hb1 : 19 < (fkd f).1 := by simpa using hq.2.2.1
        have hb2 : (fkd f).1 < 23 := by simpa using hq.2.2.2
        obtain ⟨p', hp', ep, hl, hl1, hfa⟩ := acc_ok (by omega) hH.2.2.2.2.2.2.2 h
        obtain ⟨q', hq', eq2, hm2, hm1, hma⟩ := acc_ok (by omega) hH.2.2.2.2.2.2.2 hp'
        obtain ⟨g1, g2, g3, g4, g5, g6⟩ := hq'
        have hf1 := fk_ne0 (f := f) rfl (by omega)
        have hg1 := fk_ne0 (f := g) rfl (by omega)
        have he := wsl_get md dT z b σ hl hl1 hfa
        have hev := wsl_get md dT z b σ hm2 hm1 hma
        have hlk : Cond.methodLink (ownN me.2.2.2.2.1) i arraycopyName ∈ wT := mlk_j hm (by omega)
        refine W.eq (g2 := F0 m pc arr (.int n :: .int dp :: .ref (z + cidx g q') :: .int sp :: .ref (z + cidx f p') :: r.map (cvv z b))) (by rw [List.map_cons, List.map_cons, List.map_cons, List.map_cons, List.map_cons, ref_eq hf1 ep, ref_eq hg1 eq2]; rfl) ?_
        have hlo2 : (((r.map (cvv z b)).map fun v => v.category).sum) + 18 ≤ R.locals := by rw [stw_cvv]; omega
        by_cases h22 : (fkd f).1 = 22
        · rw [show Nat.beq (fkd f).1 22 = true by rw [h22]; rfl, cond_true] at g6
          rw [cell_l h22] at he
          rw [cell_l (by omega)] at hev
          refine copy_at (fun y => .long y) (ty := .long) rfl hx hb (by rw [hml, hLs.1]) hown hts hlk (hH.2.1 _ _ he) (hH.2.1 _ _ hev) ((hH.1.2 2 _ rfl).1) ((hH.1.2 2 _ rfl).1) g1 g2 g3 g4 g5 (fun _ => rfl) (fun _ _ _ => trivial) (by omega) hlo2 hd fun H1 locs1 z1 oq e1 hlo1 => ?_
          refine hK _ _ _ _ g6 H1 locs1 arr kc ks (HI_write hH hm2 hm1 hma rfl (fun a ha => cellE_congr rfl (cpL_ne ha) rfl) hH.2.2.2.1 rfl z1 oq ?_) (S_more hS z1 oq (by show z < z + cidx g q'; omega) hlo1) hLs hc hs
          rw [cell_l (by omega), cpL_at]
          exact e1
        · have hbf : Nat.beq (fkd f).1 22 = false := by
            cases hq2 : Nat.beq (fkd f).1 22 with
            | false => rfl
            | true => exact absurd (beq_n hq2) h22
          rw [hbf, cond_false] at g6
          have hchs : ∀ f1 p1 k1, (fkd f1).1 = 21 → fits .char (.int (hI (cpI σ f p' sp.toNatClampNeg g q' dp.toNatClampNeg n.toNatClampNeg) f1 p1 k1)) = true := by
            intro f1 p1 k1 h21
            by_cases ha : (f1, p1) = (g, q')
            · cases ha
              rw [cpI_at]
              unfold va_cpy
              split
              · exact hH.2.2.2.1 f p' _ (by omega)
              · exact hH.2.2.2.1 _ _ _ h21
            · rw [show hI (cpI σ f p' sp.toNatClampNeg g q' dp.toNatClampNeg n.toNatClampNeg) f1 p1 = hI σ f1 p1 from cpI_ne (a := (f1, p1)) ha]
              exact hH.2.2.2.1 _ _ _ h21
          have h00 : hI (cpI σ f p' sp.toNatClampNeg g q' dp.toNatClampNeg n.toNatClampNeg) 0 0 = hI σ 0 0 := cpI_ne (a := (0, 0)) fun w => by
            have : 0 = g := congrArg Prod.fst w
            omega
          have hx2 : (fkd f).1 = 20 ∨ (fkd f).1 = 21 := by omega
          rcases hx2 with hk | hk
          · rw [cell_i hk (Or.inl rfl)] at he
            rw [cell_i (hfg.symm.trans hk) (Or.inl rfl)] at hev
            refine copy_at (fun y => .int y) (ty := .int) rfl hx hb (by rw [hml, hLs.1]) hown hts hlk (hH.2.1 _ _ he) (hH.2.1 _ _ hev) ((hH.1.2 0 _ rfl).1) ((hH.1.2 0 _ rfl).1) g1 g2 g3 g4 g5 (fun _ => rfl) (fun _ _ _ => trivial) (by omega) hlo2 hd fun H1 locs1 z1 oq e1 hlo1 => ?_
            refine hK _ _ _ _ g6 H1 locs1 arr kc ks (HI_write hH hm2 hm1 hma rfl (fun a ha => cellE_congr (cpI_ne ha) rfl rfl) hchs h00 z1 oq ?_) (S_more hS z1 oq (by show z < z + cidx g q'; omega) hlo1) hLs hc hs
            rw [cell_i (hfg.symm.trans hk) (Or.inl rfl), cpI_at]
            exact e1
          · rw [cell_i hk (Or.inr rfl)] at he
            rw [cell_i (hfg.symm.trans hk) (Or.inr rfl)] at hev
            refine copy_at (fun y => .int y) (ty := .char) rfl hx hb (by rw [hml, hLs.1]) hown hts hlk (hH.2.1 _ _ he) (hH.2.1 _ _ hev) ((hH.1.2 1 _ rfl).1) ((hH.1.2 1 _ rfl).1) g1 g2 g3 g4 g5 (fun j => hH.2.2.2.1 f p' j hk) (fun _ _ _ => trivial) (by omega) hlo2 hd fun H1 locs1 z1 oq e1 hlo1 => ?_
            refine hK _ _ _ _ g6 H1 locs1 arr kc ks (HI_write hH hm2 hm1 hma rfl (fun a ha => cellE_congr (cpI_ne ha) rfl rfl) hchs h00 z1 oq ?_) (S_more hS z1 oq (by show z < z + cidx g q'; omega) hlo1) hLs hc hs
            rw [cell_i (hfg.symm.trans hk) (Or.inr rfl), cpI_at]
            exact e1
    · exact h.elim
  · rename_i w0 hm
    split at h
    · rename_i d' y x r
      cases hw8 : Nat.ble (stw r) 8 with
      | false => rw [hw8] at h; exact h.elim
      | true =>
        rw [hw8, cond_true] at h
        have hw8 : stw r ≤ 8 := Nat.le_of_ble_eq_true hw8
        exact va_mmin (x := x) (y := y) hx hb (by rw [hml, hLs.1]) hown (hts _ (mlk_j hm (by omega))) (hts _ (w_static (List.elem_iff.mp jdkS.2.1))) (hts _ (w_ini inN2.2)) (hts _ (w_code (jdkC1))) (by omega) (by rw [stw_cvv]; omega) (by omega) (by omega) hd (hK _ _ _ _ h.2.2 H locs arr kc ks hH hS hLs hc hs)
    · exact h.elim
  · rename_i w0 hm
    split at h
    · rename_i d' x r
      cases hw8 : Nat.ble (stw r) 8 with
      | false => rw [hw8] at h; exact h.elim
      | true =>
        rw [hw8, cond_true] at h
        have hw8 : stw r ≤ 8 := Nat.le_of_ble_eq_true hw8
        exact va_mabs (x := x) hx hb (by rw [hml, hLs.1]) hown (hts _ (mlk_j hm (by omega))) (hts _ (w_static (List.elem_iff.mp jdkS.2.2))) (hts _ (w_ini inN2.2)) (hts _ (w_code (jdkC2))) (by omega) (by rw [stw_cvv]; omega) (by omega) (by omega) hd (hK _ _ _ _ h.2.2 H locs arr kc ks hH hS hLs hc hs)
    · exact h.elim
  · exact h.elim
end IV
end
section
section MC
variable {me : MEnt} {ini : Bool} {d : Nat} {p : Program} {l : Launch} {e : Env} {R : Room} {s : State} {m : MethodId} {args : Array Value} {below : List Frame} {meth : Method} {c : Code} {Qm : State → Prop} {D : va_G} {dT : Nat → ClassId} {z b n0 t0 : Nat} {md : Bool} {B : Nat × Nat × Nat} {Qa : Option AV → Hp → Prop} {pc len : Nat} {ls : Ls} {st : List AV} {σ : Hp} {K : Nat → Ls → List AV → Hp → Prop}
theorem one_invI (X : Cx me ini d p R s m args meth c) (hB1 : B.1 ≤ n0 + R.cells) (hB2 : B.2.1 ≤ t0 + R.slots) {i : Nat} (hd : decode me.2.1 pc = .ok (.invokespecial i, len)) (hln : lnOk pc (.invokespecial i) len = true)
    (h : one md ini d B me.2.2.2.1 Qa me.2.2.2.2.1 (.invokespecial i) pc ls st σ K) (hK : ∀ pc' ls' st' σ', K pc' ls' st' σ' → WA me p l e R s m args below meth c Qm D dT z b n0 t0 md pc' ls' st' σ') : WA me p l e R s m args below meth c Qm D dT z b n0 t0 md pc ls st σ := by
  have X0 := X
  obtain ⟨hx, hb, hml, hown, hts, hini, hfr, hlo, hdc⟩ := X
  intro H locs arr kc ks hH hS hLs hc hs
  obtain rfl : len = 3 := by simpa [lnOk] using hln
  have spec : ∀ (mj : Nat) (a : Nat × Nat) (r : List AV), mlk me.2.2.2.2.1 i = some (2, mj) ∨ mlk me.2.2.2.2.1 i = some (4, mj) → st.drop (pcT.getD mj 0) = .inr (.inr (some a)) :: r → callP md d mj none (.inr (.inr (some a)) :: (st.take (pcT.getD mj 0)).reverse) σ B r (fun st' σ' => K (pc + 3) ls st' σ') → W p l e R s m args below meth c H locs kc ks Qm (F0 m pc arr (st.map (cvv z b))) := by
    intro mj a r hm hst hp'
    have hkk : idxI.elem mj = true ∧ (mtN mj).name = "<init>" ∧ retT.getD mj none = none := by
      rcases hm with hm | hm
      · exact (mk_k hm).2.2 (Or.inl rfl)
      · exact (mk_k hm).2.2 (Or.inr rfl)
    cases d with
    | zero => exact hp'.elim
    | succ d' =>
      unfold callP at hp'
      dsimp only at hp'
      cases hw8 : Nat.ble (stw r) 8 with
      | false => rw [hw8] at hp'; exact hp'.elim
      | true =>
        rw [hw8, cond_true] at hp'
        have hw8 : stw r ≤ 8 := Nat.le_of_ble_eq_true hw8
        have hdec : st = st.take (pcT.getD mj 0) ++ .inr (.inr (some a)) :: r := by rw [← hst, List.take_append_drop]
        have hlen : (st.take (pcT.getD mj 0)).length = pcT.getD mj 0 := by
          rw [List.length_take]
          have : st.length = (st.take (pcT.getD mj 0)).length + (r.length + 1) := by
            conv => lhs; rw [hdec]
            simp
          rw [List.length_take] at this
          omega
        refine call_go (mj := mj) (d' := d') (as := .inr (.inr (some a)) :: (st.take (pcT.getD mj 0)).reverse) (rest := r) hkk.2.2 hB1 hB2 hc hs hS hp' ?_ (fun st' σ' hk H1 locs1 kc' ks' hHI hS1 hc' hs' => hK _ _ _ _ hk H1 locs1 arr kc' ks' hHI hS1 hLs hc' hs')
        intro B' Q' mj' hmj y1 y2 y3 y4 hM
        have hrn : mj'.2.2.2.1 = none := by rw [← (mt_d hmj).2.1]; exact hkk.2.2
        have hyn : mj'.1.name = "<init>" := by rw [← mtN_eq hmj]; exact hkk.2.1
        have hstk : (F0 m pc arr (st.map (cvv z b))).stack = (((st.take (pcT.getD mj 0)).reverse).map (cvv z b)).reverse ++ .ref (adr z b a) :: r.map (cvv z b) := by
          show st.map (cvv z b) = _
          conv => lhs; rw [hdec]
          rw [List.map_append, List.map_cons, List.map_reverse, List.reverse_reverse]
          rfl
        have hp : PreS s H (fun v U => v = ((.inr (.inr (some a)) :: (st.take (pcT.getD mj 0)).reverse).map (cvv z b)).toArray ∧ HI md D dT z b σ U U.heap) (.ref (adr z b a) :: ((st.take (pcT.getD mj 0)).reverse).map (cvv z b)) := ⟨pc_blind, fun U hU hW => ⟨rfl, by rw [hU]; exact HI_moved hW.alike hH⟩⟩
        have hMM := hM l D dT z b
        rcases hm with hm | hm
        · have hcw := callB_w (i := i) (mc := B'.1 - σ.1.1) (ms := B'.2.1 - σ.1.2.1) X0 hmj (mlk_w hm (by omega))
          rw [hrn] at hcw hMM
          have := va_runI (Ts := wT) (own := ownN me.2.2.2.2.1) (n := pcT.getD mj 0) (e := e) (below := below) (meth := meth) (locs := locs) (cells := kc) (slots := ks) ⟨hx, hb, hml, hown, hts⟩ hMM ⟨hcw, hyn, by rw [← mtN_eq hmj]; exact hts _ (mem_i hkk.1)⟩ hp rfl (by rw [List.length_map, List.length_reverse]; exact hlen) hLs.1 hstk (by show 2 * 0 + _ ≤ 8; rw [stw_cvv]; omega) hd ⟨y3, y4⟩
          rw [hrn]
          exact this
        · have hcw := callN_w (i := i) (mc := B'.1 - σ.1.1) (ms := B'.2.1 - σ.1.2.1) X0 hmj (mlk_n hm (Or.inr rfl))
          rw [hrn] at hcw hMM
          have := va_runIN (Ts := wT) (own := ownN me.2.2.2.2.1) (n := pcT.getD mj 0) (e := e) (below := below) (meth := meth) (locs := locs) (cells := kc) (slots := ks) ⟨hx, hb, hml, hown, hts⟩ hMM ⟨hcw, hyn, by rw [← mtN_eq hmj]; exact hts _ (mem_i hkk.1)⟩ hp rfl (by rw [List.length_map, List.length_reverse]; exact hlen) hLs.1 hstk (by show 2 * 0 + _ ≤ 8; rw [stw_cvv]; omega) hd ⟨y3, y4⟩
          rw [hrn]
          exact this
  simp only [one] at h
  split at h
  · rename_i w0 hm
    split at h
    · rename_i d' a r
      cases hw8 : Nat.ble (stw r) 8 with
      | false => rw [hw8] at h; exact h.elim
      | true =>
        rw [hw8, cond_true] at h
        have hw8 : stw r ≤ 8 := Nat.le_of_ble_eq_true hw8
        exact W.objInit (a := adr z b a) (rest := r.map (cvv z b)) hx hb hown (hts _ (mlk_j hm (by omega))) (hts _ (w_inst (List.elem_iff.mp jdkI))) (hts _ (w_code jdkC3)) rfl (by rw [hml]; exact hLs.1) rfl hd (by omega) (by show 2 * 0 + _ + 12 ≤ _; rw [stw_cvv]; omega) (hK _ _ _ _ h H locs arr kc ks hH hS hLs hc hs)
    · exact h.elim
  · rename_i mj hm
    split at h
    · rename_i a r hst
      exact spec mj a r (Or.inl hm) hst h
    · exact h.elim
  · rename_i mj hm
    split at h
    · rename_i a r hst
      exact spec mj a r (Or.inr hm) hst h
    · exact h.elim
  · exact h.elim
theorem one_ok (X : Cx me ini d p R s m args meth c) (hB1 : B.1 ≤ n0 + R.cells) (hB2 : B.2.1 ≤ t0 + R.slots) (hz : z < s.heap.size) (hret : HRet me p l e R s m args below meth c Qm D dT z b n0 t0 md B Qa) {ins : Instr} (hd : decode me.2.1 pc = .ok (ins, len)) (hln : lnOk pc ins len = true)
    (h : one md ini d B me.2.2.2.1 Qa me.2.2.2.2.1 ins pc ls st σ K) (hK : ∀ pc' ls' st' σ', K pc' ls' st' σ' → WA me p l e R s m args below meth c Qm D dT z b n0 t0 md pc' ls' st' σ') : WA me p l e R s m args below meth c Qm D dT z b n0 t0 md pc ls st σ := by
  cases hsi : SimI ins with
  | true => exact one_sim X hsi hd hln h hK
  | false =>
    cases ins with
    | getfield i => exact one_getf X hd hln h hK
    | putfield i => exact one_putf X hd hln h hK
    | iaload => exact one_iald X hd hln hz h hK
    | caload => exact one_cald X hd hln h hK
    | laload => exact one_lald X hd hln h hK
    | aaload => exact one_aald X hd hln h hK
    | iastore => exact one_iast X hd hln h hK
    | castore => exact one_cast X hd hln h hK
    | lastore => exact one_last X hd hln h hK
    | aastore => exact one_aast X hd hln h hK
    | arraylength => exact one_alen X hd hln h hK
    | ireturn => exact one_ret hret (Or.inl rfl) hd hln h
    | lreturn => exact one_ret hret (Or.inr (Or.inl rfl)) hd hln h
    | return_ => exact one_ret hret (Or.inr (Or.inr rfl)) hd hln h
    | new i => exact one_new X hB1 hB2 hd hln h hK
    | newarray t => exact one_newa X hB1 hB2 hd hln h hK
    | anewarray i => exact one_anew X hB1 hB2 hd hln h hK
    | invokevirtual i => exact one_inv X hB1 hB2 hd hln h hK
    | invokestatic i => exact one_invS X hB1 hB2 hd hln h hK
    | invokespecial i => exact one_invI X hB1 hB2 hd hln h hK
    | _ => first | (exact absurd hsi (by decide)) | exact h.elim | (simp [SimI] at hsi)
end MC
/-- the machine does what wp says -/
theorem wp_ok {md ini : Bool} {d mi : Nat} {B : Nat × Nat × Nat} {ret : Option FieldType} {Qa : Option AV → Hp → Prop} {oc : Nat} {tb : List (Nat × Instr × Nat)} {cut : List Nat} {y : MethodName} {cc : ByteArray} {nL : Nat} (hm : MA[mi]? = some (y, cc, nL, ret, oc, tb)) (hi : isIni (y, cc, nL, ret, oc, tb) = ini) :
    ∀ (n pc : Nat) (ls : Ls) (st : List AV) (σ : Hp), wp md ini d mi B ret Qa oc tb cut n pc ls st σ → Sat md d mi B Qa pc ls st σ := by
  intro n
  induction n with
  | zero => intro pc ls st σ h; exact h
  | succ n ih =>
    intro pc ls st σ h
    intro me hme p l e R s m args below meth c Qm D dT z b n0 t0 X hB1 hB2 hz hret
    obtain rfl : me = (y, cc, nL, ret, oc, tb) := Option.some.inj (hme.symm.trans hm)
    have h : (match lkI tb pc with
      | none => False
      | some q => one md ini d B ret Qa oc q.1 pc ls st σ fun pc' ls' st' σ' => bif cut.elem pc' then Sat md d mi B Qa pc' ls' st' σ' else wp md ini d mi B ret Qa oc tb cut n pc' ls' st' σ') := h
    cases hq : lkI tb pc with
    | none => rw [hq] at h; exact h.elim
    | some q =>
      rw [hq] at h
      obtain ⟨hd, hln⟩ := dk X.2.2.2.2.2.2.2.2 hq
      rw [hi] at X
      refine one_ok X hB1 hB2 hz hret hd hln h fun pc' ls' st' σ' hk => ?_
      have hs : Sat md d mi B Qa pc' ls' st' σ' := by
        cases hcu : cut.elem pc' with
        | true => rw [hcu] at hk; exact hk
        | false => rw [hcu] at hk; exact ih pc' ls' st' σ' hk
      exact hs _ hm p l e R s m args below meth c Qm D dT z b n0 t0 (by rw [hi]; exact X) hB1 hB2 hz hret
theorem ent_len : ∀ as : List AV, (ent as).length = ((as.map cat).sum)
  | [] => rfl
  | .inl x :: t => by simp only [ent, List.length_cons, ent_len t, List.map_cons, List.sum_cons, cat]; omega
  | .inr (.inl x) :: t => by simp only [ent, List.length_cons, ent_len t, List.map_cons, List.sum_cons, cat]; omega
  | .inr (.inr x) :: t => by simp only [ent, List.length_cons, ent_len t, List.map_cons, List.sum_cons, cat]; omega
theorem sl_len (z b : Nat) : ∀ as : List AV, (lg_sl (as.map (cvv z b))).length = (ent as).length
  | [] => rfl
  | .inl x :: t => by
    have := sl_len z b t
    simp only [lg_sl, List.map_cons, List.flatMap_cons, List.length_append] at this ⊢
    rw [this]
    simp [cvv, Value.category, ent]
    omega
  | .inr (.inl x) :: t => by
    have := sl_len z b t
    simp only [lg_sl, List.map_cons, List.flatMap_cons, List.length_append] at this ⊢
    rw [this]
    simp [cvv, Value.category, ent]
    omega
  | .inr (.inr x) :: t => by
    have := sl_len z b t
    simp only [lg_sl, List.map_cons, List.flatMap_cons, List.length_append] at this ⊢
    rw [this]
    cases x <;> simp [cvv, Value.category, ent, va_rf] <;> omega
/-- a contract out of the walk of the body -/
theorem Ev_of {md : Bool} {d mi : Nat} {args : List AV} {σ : Hp} {B : Nat × Nat × Nat} {Q : Option AV → Hp → Prop} {me : MEnt} (hm : MT[mi]? = some me) (hl : (ent args).length ≤ me.2.2.1) (h1 : σ.1.1 ≤ B.1) (h2 : σ.1.2.1 ≤ B.2.1) (hq : Sat md d mi B Q 0 (entL me.2.2.1 args) [] σ) : Ev md d mi args σ B Q := by
  refine ⟨h1, h2, me, hm, fun l D dT z b => ?_⟩
  have hchk := mch me (List.mem_of_getElem? hm)
  simp only [mchk, Bool.and_eq_true, decide_eq_true_eq] at hchk
  obtain ⟨⟨⟨⟨hdc, hpl⟩, hL12⟩, -⟩, -⟩ := hchk
  have hma : MA[mi]? = some me := by
    unfold MA
    rw [List.getElem?_append_left (List.getElem?_eq_some_iff.mp hm).1]
    exact hm
  refine Met.ofW (cc := me.2.1) (maxL := me.2.2.1) (ret := me.2.2.2.1) hpl rfl ?_
  intro p e s m args' below meth c s₁ Bd hml hv
  obtain ⟨rfl, hHI⟩ := hv
  have hts := atoms_spec (ws := Cond.code me.1 me.2.1 me.2.2.1 me.2.2.2.1 :: wT) Bd.pre
  have hown : s.vm.findClass me.1.cls = some m.cls := findClass_of_methodNamed Bd.named
  have hlocks := Bd.notSynchronized
  rw [lg_entry_eq]
  have hent := lv_entry (args.map (cvv z b)) (n := me.2.2.1) (by rw [sl_len]; exact hl)
  have hsz := hHI.2.2.1
  have hlen1 := hHI.2.2.2.2.2.2.1
  refine hq me hma p l e _ s m _ below meth c _ D dT z b σ.1.1 σ.1.2.1 ⟨Bd.exec, Bd.bytes, hml, by rw [← (mt_d hm).2.2.2.1]; exact hown, fun w hw => hts w (List.mem_cons_of_mem _ hw), fun hi => ?_, Nat.le_refl _, Nat.le_refl _, hdc⟩ (by show B.1 ≤ σ.1.1 + (B.1 - σ.1.1); omega) (by show B.2.1 ≤ σ.1.2.1 + (B.2.1 - σ.1.2.1); omega) (by omega) ?_ s.heap [] _ 0 0 hHI va_S.rf ⟨hent.1, hent.2.1, ?_, fun i v hiv => ?_⟩ rfl rfl
  · rw [(name_of_methodNamed Bd.named Bd.method).1]
    exact of_decide_eq_true hi
  · intro r σ' H locs arr kc ks pc' ri hri hdd hQ hB hH hS hc hs
    have ekc : kc = B.1 - σ.1.1 := by rw [hB] at hc; omega
    have eks : ks = B.2.1 - σ.1.2.1 := by rw [hB] at hs; omega
    subst ekc
    subst eks
    have hr := Bd.returns
    have fin : ∀ (ov : Option Value), ov = r.map (cvv z b) → ∀ t : State, t.heap = H → s.WarmedH t.vm → (∃ (r : Option AV) (σ' : Hp), rOk me.2.2.2.1 r ∧ Q r σ' ∧ σ'.1 = B ∧ Outcome.returned ov = .returned (r.map (cvv z b)) ∧ HI md D dT z b σ' t t.heap) ∧ va_F (fun q => z < q) s t := by
      intro ov hov t ht hW
      refine ⟨⟨r, σ', ?_, hQ, hB, by rw [hov], by rw [ht]; exact HI_moved hW.alike hH⟩, hS.F ht⟩
      unfold rIns at hri
      unfold rOk
      split at hri
      · rename_i hh; rw [hh]; exact hri.2
      · rename_i hh; rw [hh]; exact hri.2
      · rename_i hh
        rw [hh]
        obtain ⟨-, x, hx, -⟩ := hri
        exact ⟨x, hx⟩
      · rename_i hh
        rw [hri.2.1]
        exact hri.2.2
    unfold rIns at hri
    split at hri
    · rename_i hh
      obtain ⟨rfl, rfl⟩ := hri
      rw [hh] at hr
      exact W.vret Bd.exec Bd.bytes hr (fun t ht hW => fin none rfl t ht hW) hS.2.2 hdd
    · rename_i hh
      obtain ⟨rfl, y, rfl⟩ := hri
      rw [hh] at hr
      exact W.lret Bd.exec Bd.bytes hr (fun t ht hW => fin (some (.long y)) rfl t ht hW) hS.2.2 hdd
    · rename_i hh
      obtain ⟨rfl, x, rfl, hx01⟩ := hri
      rw [hh] at hr
      exact W.zret Bd.exec Bd.bytes hr (by rcases hx01 with rfl | rfl <;> decide) (fun t ht hW => fin (some (.int x)) rfl t ht hW) hS.2.2 hdd
    · obtain ⟨rfl, hh, x, rfl⟩ := hri
      rw [hh] at hr
      exact W.iret Bd.exec Bd.bytes hr (fun t ht hW => fin (some (.int x)) rfl t ht hW) hS.2.2 hdd
  · unfold entL
    rw [List.length_append, List.length_replicate]
    omega
  · unfold entL at hiv
    have hix : (ent args)[i]? = some (some v) := by
      rcases Nat.lt_or_ge i (ent args).length with q | q
      · rw [List.getElem?_append_left q] at hiv
        exact hiv
      · rw [List.getElem?_append_right q] at hiv
        have := List.mem_of_getElem? hiv
        rw [List.mem_replicate] at this
        cases this.2
    have h3 := ent_ok z b args 0 i v hix
    rw [Nat.zero_add] at h3
    exact hent.2.2 _ h3
end
section
/-! THE CLAIM OUT OF ONE WALK OF THE LAW'S BODY. Your part is whole_start (and what it stands on); all else here is the same for every law, but numbers. -/
def R_law : String := "LinkAuditorLaw"
def lw_P (b : Addr) (xs : List Int32) (args : Array Value) (s : State) : Prop := args = #[.ref b] ∧ s.IntsAt b xs ∧ xs.length ≤ 2048 ∧ (Jvm.Cond.and given_1 narrow_1).before args s = true
def lw_Q (_ : Array Value) (s : State) (o : Outcome) (t : State) : Prop := o = .returned (some (.int 1)) ∧ Framed s o t [] 600000 7302250
def lw_Z (below : List Frame) (a : Array Value) (s : State) : State → Prop := fun t => ∃ o, t.status = .running ∧ Ended t below o ∧ lw_Q a s o t
/-- the law's own end, with 1 on the stack, nothing written that was there before, its room as the claim has it -/
theorem lw_ret {p : Program} {l : Launch} {e : Env} {s : State} {m : MethodId} {below : List Frame} {meth : Method} {c : Code} {b : Nat} (hx : p.tables.exec = Jvm.exec) (hb : c.code = code) (hr : meth.sig.returnType = ret) (hlocks : meth.locks = false) {pc : Nat} {H : Heap} {ls : Array Slot} (hdg : decode code pc = .ok (.ireturn, 1)) : W p l e room_1 s m #[Value.ref b] below meth c H [] 600000 7302250 (lw_Z below #[Value.ref b] s) (F0 m pc ls [.int 1]) := by
  intro T hT X
  obtain ⟨fs, hret, hrun, hended, hW, hframe⟩ := X.leave (v := some (.int 1)) (hlocks := hlocks) (fun h => by rw [hr] at h; cases h)
  have hmeth' : T.vm.method? m = some meth := X.method'
  refine ⟨T.setFrames fs, ?_, .returned (some (.int 1)), hrun, hended, rfl, ⟨_, rfl⟩, hW, hframe⟩
  jvm_step X.here [X.here.top, hx, hb, hdg, hmeth', hr, ret, narrow_b1]
  (try refine ⟨rfl, ?_⟩); (try refine ⟨rfl, ?_⟩)
  first | (intro acts; rw [hret _ acts rfl rfl rfl]) | rw [hret _ _ rfl rfl rfl]
  exact Steps.refl _
/-- what holds at the law's entry: the machine, the code, the tables' words (any of lw_tbl by 'hts w (by decide +kernel)'), the script of L ints xs at the cell b, what the Statement gives of the start (any of its parts by flat_of_before) -/
def lw_At (p : Program) (s : State) (m : MethodId) (meth : Method) (c : Code) (b L : Nat) (xs : Nat → Int32) : Prop :=
  p.tables.exec = Jvm.exec ∧ c.code = code ∧ meth.sig.returnType = ret ∧ c.maxLocals = 4 ∧ s.vm.findClass R_law = some m.cls ∧ (∀ w ∈ lw_tbl, w.before #[Value.ref b] s = true) ∧ va_X b L xs s s.heap ∧ b < s.heap.size ∧ meth.locks = false ∧ (Jvm.Cond.and given_1 narrow_1).before #[Value.ref b] s = true
/-- the heap as the law finds it: the script alone -/
def sg0 (L : Nat) (xs : Nat → Int32) : Hp := ((1, 0, L), (fun f _ k => if f = 0 then xs k else 0), (fun _ _ _ => 0), (fun _ _ _ => none))
/-- what the law's walk must give -/
def LawSat : Prop := ∀ (L : Nat) (xs : Nat → Int32), L ≤ 2048 → ∃ B : Nat × Nat × Nat, B.1 ≤ 600001 ∧ B.2.1 ≤ 7302250 ∧ Sat false 40 204 B (fun r _ => r = some (vi 1)) 0 [some (vr 0 0), none, none, none] [] (sg0 L xs)
theorem law_words {args : Array Value} {s : State} (hts : ∀ w ∈ lw_tbl, w.before args s = true) : ∃ (D : va_G) (dT : Nat → ClassId), va_K D clsW (tysL dT) s := by
  have hw : ∀ w ∈ wT, w.before args s = true := fun w h => hts w (List.mem_filter.mp h).1
  have hk : ∀ ci : Nat, ∃ (cC : ClassId) (iS : Nat → Nat), ∀ q : vw_C, clsW[ci]? = some q → u_Kn s q.1 q.2.1 q.2.2 cC iS := by
    intro ci
    cases hq : clsW[ci]? with
    | none => exact ⟨0, fun _ => 0, fun q h => by cases h⟩
    | some q =>
      have hl : ci < 10 := (List.getElem?_eq_some_iff.mp hq).1
      by_cases h1 : 1 ≤ ci
      · obtain ⟨cC, iS, h⟩ := u_known (N := q.2.2) hw (cls_k hq h1).1 (hw _ (made_ok ci hl h1 q hq))
        exact ⟨cC, iS, fun q' h' => by cases h'; exact h⟩
      · obtain rfl : ci = 0 := by omega
        cases hq
        obtain ⟨cC, iS, h⟩ := u_known (N := 10) hw (cls_k (ci := 1) rfl (Nat.le_refl 1)).1 (hw _ (made_ok 1 (by omega) (Nat.le_refl 1) _ rfl))
        exact ⟨cC, iS, fun q' h' => by cases h'; exact h⟩
  have harr : ∀ t : FieldType, (∀ C, t ≠ .object C) → t ∈ slA_l → ∃ cA : ClassId, ArrOfT s cA t ∧ va_RA s cA t := by
    intro t hn ht
    obtain ⟨cA, kA, comp, f1, f2, f3⟩ := Cond.arrayClass_spec (hw _ (w_arr ht))
    refine ⟨cA, fun n z => ⟨(fun k h => by cases h), kA, f2, comp, f3⟩, ?_⟩
    cases t <;> first | exact f1 | exact absurd rfl (hn _)
  have hobj : ∀ C : String, FieldType.object C ∈ slO_l → ∃ cA : ClassId, ArrOfT s cA (.object C) ∧ va_RA s cA (.object C) := by
    intro C hC
    obtain ⟨comp, cA, kA, f1, f2, f3, f4, f5⟩ := Cond.arrayOver_spec (hw _ (w_over hC))
    exact ⟨cA, fun n z => ⟨(fun k h => by cases h), kA, f3, comp, f4⟩, kA, comp, f3, f4, f1, f5⟩
  obtain ⟨a0, h0⟩ := harr .int (fun C h => by cases h) (by decide)
  obtain ⟨a1, h1⟩ := harr .char (fun C h => by cases h) (by decide)
  obtain ⟨a2, h2⟩ := harr .long (fun C h => by cases h) (by decide)
  obtain ⟨a3, h3⟩ := hobj RX7 (by decide)
  obtain ⟨a4, h4⟩ := hobj RX3 (by decide)
  obtain ⟨a5, h5⟩ := hobj RX1 (by decide)
  refine ⟨(fun ci => Classical.choose (hk ci), fun ci => Classical.choose (Classical.choose_spec (hk ci))), fun k => match k with
    | 20 => a0 | 21 => a1 | 22 => a2 | 23 => a3 | 24 => a4 | _ => a5, fun ci q hq => Classical.choose_spec (Classical.choose_spec (hk ci)) q hq, fun k q hq => ?_⟩
  have hl : k < 6 := (List.getElem?_eq_some_iff.mp hq).1
  have hx : k = 0 ∨ k = 1 ∨ k = 2 ∨ k = 3 ∨ k = 4 ∨ k = 5 := by omega
  rcases hx with rfl | rfl | rfl | rfl | rfl | rfl
  · cases hq; exact h0
  · cases hq; exact h1
  · cases hq; exact h2
  · cases hq; exact h3
  · cases hq; exact h4
  · cases hq; exact h5
theorem whole_of (hlaw : LawSat) {p : Program} {e : Env} {s : State} {m : MethodId} {below : List Frame} {meth : Method} {c : Code} (l : Launch) {b L : Nat} {xs : Nat → Int32} (hL : L ≤ 2048) (C0 : lw_At p s m meth c b L xs) : W p l e room_1 s m #[Value.ref b] below meth c s.heap [] 0 0 (lw_Z below #[Value.ref b] s) (entryFrame m ([Value.ref b] : List Value).toArray 4) := by
  obtain ⟨hx, hb, hr, hml, hown, hts, hX, hbl, hlocks, hgv⟩ := C0
  obtain ⟨D, dT, hK⟩ := law_words hts
  obtain ⟨B, hB1, hB2, hsat⟩ := hlaw L xs hL
  obtain ⟨z, hz⟩ : ∃ z, s.heap.size = z + 1 := ⟨s.heap.size - 1, by omega⟩
  have hma : MA[204]? = some eLaw := by
    unfold MA
    have hl : MT.length = 204 := by decide +kernel
    rw [List.getElem?_append_right (by omega), hl]
    rfl
  have hent := lv_entry ([Value.ref b]) (n := 4) (Nat.le_of_ble_eq_true rfl)
  rw [lg_entry_eq]
  have hHI : HI false D dT z b (sg0 L xs) s s.heap := by
    refine ⟨hK, ?_, hz, fun f q k h21 => ?_, hX, by omega, Nat.le_refl 1, fun h => by cases h⟩
    · intro i q hq
      obtain ⟨hi, -⟩ := wsl_in hq
      have hi : i + 1 < 1 := hi
      omega
    · have hf : f ≠ 0 := fk_21 h21
      show fits .char (.int (if f = 0 then xs k else 0)) = true
      rw [if_neg hf]
      rfl
  refine hsat eLaw hma p l e room_1 s m _ below meth c _ D dT z b 1 0 ⟨hx, hb, hml, hown, fun w hw => hts w (List.mem_filter.mp hw).1, fun h => absurd h (by decide), by decide, by decide, mcl⟩ hB1 (by show B.2.1 ≤ 0 + 7302250; omega) (by omega) ?_ s.heap [] _ 0 0 hHI va_S.rf ⟨hent.1, hent.2.1, rfl, fun i v hiv => ?_⟩ rfl rfl
  · intro r σ' H locs arr kc ks pc' ri hri hd hQ hBe hH hS hc hs
    subst hQ
    have hri : ri = .ireturn := by
      obtain ⟨q, -⟩ : ri = .ireturn ∧ _ := hri
      exact q
    subst hri
    refine va_forget (fun q hq => ?_) ?_
    · have := hS.2.2 q hq
      show s.heap.size ≤ q.base
      omega
    · refine W.widen (k := 600000) (n := 7302250) ?_ ?_ (lw_ret hx hb hr hlocks hd)
      · rw [hBe] at hc; omega
      · rw [hBe] at hs; omega
  · have hx4 : i = 0 ∨ i = 1 ∨ i = 2 ∨ i = 3 := by
      have := (List.getElem?_eq_some_iff.mp hiv).1
      have : i < 4 := this
      omega
    rcases hx4 with rfl | rfl | rfl | rfl
    · cases hiv
      exact hent.2.2 (0, .ref b) (by simp [lv_args])
    · cases hiv
    · cases hiv
    · cases hiv
end
section
/-! the methods one by one -/
theorem mt_0 : MT[0]? = some (yX0_nameIn, cX0_nameIn, 7, some FieldType.long, 0, tb_0) := rfl
theorem ma_0 : MA[0]? = some (yX0_nameIn, cX0_nameIn, 7, some FieldType.long, 0, tb_0) := rfl
theorem mt_1 : MT[1]? = some (yX0_numbered, cX0_numbered, 3, some FieldType.long, 0, tb_1) := rfl
theorem ma_1 : MA[1]? = some (yX0_numbered, cX0_numbered, 3, some FieldType.long, 0, tb_1) := rfl
theorem mt_2 : MT[2]? = some (yX0_nameOf, cX0_nameOf, 2, some FieldType.long, 0, tb_2) := rfl
theorem ma_2 : MA[2]? = some (yX0_nameOf, cX0_nameOf, 2, some FieldType.long, 0, tb_2) := rfl
theorem mt_3 : MT[3]? = some (yX0_placeAnchor, cX0_placeAnchor, 7, some FieldType.long, 0, tb_3) := rfl
theorem ma_3 : MA[3]? = some (yX0_placeAnchor, cX0_placeAnchor, 7, some FieldType.long, 0, tb_3) := rfl
theorem mt_4 : MT[4]? = some (yX0_indexOf, cX0_indexOf, 5, some FieldType.int, 0, tb_4) := rfl
theorem ma_4 : MA[4]? = some (yX0_indexOf, cX0_indexOf, 5, some FieldType.int, 0, tb_4) := rfl
theorem mt_5 : MT[5]? = some (yX0_spell, cX0_spell, 10, some FieldType.int, 0, tb_5) := rfl
theorem ma_5 : MA[5]? = some (yX0_spell, cX0_spell, 10, some FieldType.int, 0, tb_5) := rfl
theorem mt_6 : MT[6]? = some (yX0_spellNumber, cX0_spellNumber, 4, some FieldType.int, 0, tb_6) := rfl
theorem ma_6 : MA[6]? = some (yX0_spellNumber, cX0_spellNumber, 4, some FieldType.int, 0, tb_6) := rfl
theorem mt_7 : MT[7]? = some (yX1_init, cX1_init, 1, none, 1, tb_7) := rfl
theorem ma_7 : MA[7]? = some (yX1_init, cX1_init, 1, none, 1, tb_7) := rfl
theorem mt_8 : MT[8]? = some (yX1_build, cX1_build, 4, none, 1, tb_8) := rfl
theorem ma_8 : MA[8]? = some (yX1_build, cX1_build, 4, none, 1, tb_8) := rfl
theorem mt_9 : MT[9]? = some (yX1_addPage, cX1_addPage, 9, none, 1, tb_9) := rfl
theorem ma_9 : MA[9]? = some (yX1_addPage, cX1_addPage, 9, none, 1, tb_9) := rfl
theorem mt_10 : MT[10]? = some (yX1_isReplaced, cX1_isReplaced, 3, some FieldType.boolean, 1, tb_10) := rfl
theorem ma_10 : MA[10]? = some (yX1_isReplaced, cX1_isReplaced, 3, some FieldType.boolean, 1, tb_10) := rfl
theorem mt_11 : MT[11]? = some (yX1_addHeading, cX1_addHeading, 6, none, 1, tb_11) := rfl
theorem ma_11 : MA[11]? = some (yX1_addHeading, cX1_addHeading, 6, none, 1, tb_11) := rfl
theorem mt_12 : MT[12]? = some (yX1_headingsNamed, cX1_headingsNamed, 5, some FieldType.int, 1, tb_12) := rfl
theorem ma_12 : MA[12]? = some (yX1_headingsNamed, cX1_headingsNamed, 5, some FieldType.int, 1, tb_12) := rfl
theorem mt_13 : MT[13]? = some (yX1_headingWith, cX1_headingWith, 4, some FieldType.int, 1, tb_13) := rfl
theorem ma_13 : MA[13]? = some (yX1_headingWith, cX1_headingWith, 4, some FieldType.int, 1, tb_13) := rfl
theorem mt_14 : MT[14]? = some (yX1_partOf, cX1_partOf, 5, some FieldType.int, 1, tb_14) := rfl
theorem ma_14 : MA[14]? = some (yX1_partOf, cX1_partOf, 5, some FieldType.int, 1, tb_14) := rfl
theorem mt_15 : MT[15]? = some (yX2_init, cX2_init, 2, none, 2, tb_15) := rfl
theorem ma_15 : MA[15]? = some (yX2_init, cX2_init, 2, none, 2, tb_15) := rfl
theorem mt_16 : MT[16]? = some (yX2_find, cX2_find, 8, none, 2, tb_16) := rfl
theorem ma_16 : MA[16]? = some (yX2_find, cX2_find, 8, none, 2, tb_16) := rfl
theorem mt_17 : MT[17]? = some (yX2_offerHeadings, cX2_offerHeadings, 10, none, 2, tb_17) := rfl
theorem ma_17 : MA[17]? = some (yX2_offerHeadings, cX2_offerHeadings, 10, none, 2, tb_17) := rfl
theorem mt_18 : MT[18]? = some (yX2_offer, cX2_offer, 6, none, 2, tb_18) := rfl
theorem ma_18 : MA[18]? = some (yX2_offer, cX2_offer, 6, none, 2, tb_18) := rfl
theorem mt_19 : MT[19]? = some (yX2_stepsTo, cX2_stepsTo, 6, some FieldType.int, 2, tb_19) := rfl
theorem ma_19 : MA[19]? = some (yX2_stepsTo, cX2_stepsTo, 6, some FieldType.int, 2, tb_19) := rfl
theorem mt_20 : MT[20]? = some (yX2_fillRow, cX2_fillRow, 7, some FieldType.int, 2, tb_20) := rfl
theorem ma_20 : MA[20]? = some (yX2_fillRow, cX2_fillRow, 7, some FieldType.int, 2, tb_20) := rfl
theorem mt_21 : MT[21]? = some (yX3_init, cX3_init, 2, none, 3, tb_21) := rfl
theorem ma_21 : MA[21]? = some (yX3_init, cX3_init, 2, none, 3, tb_21) := rfl
theorem mt_22 : MT[22]? = some (yX3_read, cX3_read, 6, none, 3, tb_22) := rfl
theorem ma_22 : MA[22]? = some (yX3_read, cX3_read, 6, none, 3, tb_22) := rfl
theorem mt_23 : MT[23]? = some (yX3_addLine, cX3_addLine, 4, none, 3, tb_23) := rfl
theorem ma_23 : MA[23]? = some (yX3_addLine, cX3_addLine, 4, none, 3, tb_23) := rfl
theorem mt_24 : MT[24]? = some (yX3_addHeading, cX3_addHeading, 5, none, 3, tb_24) := rfl
theorem ma_24 : MA[24]? = some (yX3_addHeading, cX3_addHeading, 5, none, 3, tb_24) := rfl
theorem mt_25 : MT[25]? = some (yX3_addInclude, cX3_addInclude, 5, none, 3, tb_25) := rfl
theorem ma_25 : MA[25]? = some (yX3_addInclude, cX3_addInclude, 5, none, 3, tb_25) := rfl
theorem mt_26 : MT[26]? = some (yX3_readLinks, cX3_readLinks, 6, none, 3, tb_26) := rfl
theorem ma_26 : MA[26]? = some (yX3_readLinks, cX3_readLinks, 6, none, 3, tb_26) := rfl
theorem mt_27 : MT[27]? = some (yX3_growSection, cX3_growSection, 7, none, 3, tb_27) := rfl
theorem ma_27 : MA[27]? = some (yX3_growSection, cX3_growSection, 7, none, 3, tb_27) := rfl
theorem mt_28 : MT[28]? = some (yX4_init, cX4_init, 1, none, 4, tb_28) := rfl
theorem ma_28 : MA[28]? = some (yX4_init, cX4_init, 1, none, 4, tb_28) := rfl
theorem mt_29 : MT[29]? = some (yX4_pageFault, cX4_pageFault, 4, some FieldType.int, 4, tb_29) := rfl
theorem ma_29 : MA[29]? = some (yX4_pageFault, cX4_pageFault, 4, some FieldType.int, 4, tb_29) := rfl
theorem mt_30 : MT[30]? = some (yX4_redirectFault, cX4_redirectFault, 3, some FieldType.int, 4, tb_30) := rfl
theorem ma_30 : MA[30]? = some (yX4_redirectFault, cX4_redirectFault, 3, some FieldType.int, 4, tb_30) := rfl
theorem mt_31 : MT[31]? = some (yX4_begin, cX4_begin, 3, none, 4, tb_31) := rfl
theorem ma_31 : MA[31]? = some (yX4_begin, cX4_begin, 3, none, 4, tb_31) := rfl
theorem mt_32 : MT[32]? = some (yX4_isNext, cX4_isNext, 2, some FieldType.boolean, 4, tb_32) := rfl
theorem ma_32 : MA[32]? = some (yX4_isNext, cX4_isNext, 2, some FieldType.boolean, 4, tb_32) := rfl
theorem mt_33 : MT[33]? = some (yX4_take, cX4_take, 2, some FieldType.boolean, 4, tb_33) := rfl
theorem ma_33 : MA[33]? = some (yX4_take, cX4_take, 2, some FieldType.boolean, 4, tb_33) := rfl
theorem mt_34 : MT[34]? = some (yX4_takeBetween, cX4_takeBetween, 3, some FieldType.boolean, 4, tb_34) := rfl
theorem ma_34 : MA[34]? = some (yX4_takeBetween, cX4_takeBetween, 3, some FieldType.boolean, 4, tb_34) := rfl
theorem mt_35 : MT[35]? = some (yX4_takeLine, cX4_takeLine, 2, some FieldType.boolean, 4, tb_35) := rfl
theorem ma_35 : MA[35]? = some (yX4_takeLine, cX4_takeLine, 2, some FieldType.boolean, 4, tb_35) := rfl
theorem mt_36 : MT[36]? = some (yX4_takeHeading, cX4_takeHeading, 2, some FieldType.boolean, 4, tb_36) := rfl
theorem ma_36 : MA[36]? = some (yX4_takeHeading, cX4_takeHeading, 2, some FieldType.boolean, 4, tb_36) := rfl
theorem mt_37 : MT[37]? = some (yX4_takeInclude, cX4_takeInclude, 1, some FieldType.boolean, 4, tb_37) := rfl
theorem ma_37 : MA[37]? = some (yX4_takeInclude, cX4_takeInclude, 1, some FieldType.boolean, 4, tb_37) := rfl
theorem mt_38 : MT[38]? = some (yX4_takeElement, cX4_takeElement, 2, some FieldType.boolean, 4, tb_38) := rfl
theorem ma_38 : MA[38]? = some (yX4_takeElement, cX4_takeElement, 2, some FieldType.boolean, 4, tb_38) := rfl
theorem mt_39 : MT[39]? = some (yX4_takePlace, cX4_takePlace, 1, some FieldType.boolean, 4, tb_39) := rfl
theorem ma_39 : MA[39]? = some (yX4_takePlace, cX4_takePlace, 1, some FieldType.boolean, 4, tb_39) := rfl
theorem mt_40 : MT[40]? = some (yX4_takeAnchor, cX4_takeAnchor, 1, some FieldType.boolean, 4, tb_40) := rfl
theorem ma_40 : MA[40]? = some (yX4_takeAnchor, cX4_takeAnchor, 1, some FieldType.boolean, 4, tb_40) := rfl
theorem mt_41 : MT[41]? = some (yX4_takeName, cX4_takeName, 2, some FieldType.boolean, 4, tb_41) := rfl
theorem ma_41 : MA[41]? = some (yX4_takeName, cX4_takeName, 2, some FieldType.boolean, 4, tb_41) := rfl
theorem mt_42 : MT[42]? = some (yX5_init, cX5_init, 2, none, 5, tb_42) := rfl
theorem ma_42 : MA[42]? = some (yX5_init, cX5_init, 2, none, 5, tb_42) := rfl
theorem mt_43 : MT[43]? = some (yX5_follow, cX5_follow, 3, none, 5, tb_43) := rfl
theorem ma_43 : MA[43]? = some (yX5_follow, cX5_follow, 3, none, 5, tb_43) := rfl
theorem mt_44 : MT[44]? = some (yX5_usesOf, cX5_usesOf, 4, some FieldType.int, 5, tb_44) := rfl
theorem ma_44 : MA[44]? = some (yX5_usesOf, cX5_usesOf, 4, some FieldType.int, 5, tb_44) := rfl
theorem mt_45 : MT[45]? = some (yX5_wasHere, cX5_wasHere, 2, some FieldType.boolean, 5, tb_45) := rfl
theorem ma_45 : MA[45]? = some (yX5_wasHere, cX5_wasHere, 2, some FieldType.boolean, 5, tb_45) := rfl
theorem mt_46 : MT[46]? = some (yX5_isGood, cX5_isGood, 1, some FieldType.boolean, 5, tb_46) := rfl
theorem ma_46 : MA[46]? = some (yX5_isGood, cX5_isGood, 1, some FieldType.boolean, 5, tb_46) := rfl
theorem mt_47 : MT[47]? = some (yX5_goOn, cX5_goOn, 4, some FieldType.boolean, 5, tb_47) := rfl
theorem ma_47 : MA[47]? = some (yX5_goOn, cX5_goOn, 4, some FieldType.boolean, 5, tb_47) := rfl
theorem mt_48 : MT[48]? = some (yX6_init, cX6_init, 2, none, 6, tb_48) := rfl
theorem ma_48 : MA[48]? = some (yX6_init, cX6_init, 2, none, 6, tb_48) := rfl
theorem mt_49 : MT[49]? = some (yX6_replaceSource, cX6_replaceSource, 4, none, 6, tb_49) := rfl
theorem ma_49 : MA[49]? = some (yX6_replaceSource, cX6_replaceSource, 4, none, 6, tb_49) := rfl
theorem mt_50 : MT[50]? = some (yX6_restore, cX6_restore, 3, none, 6, tb_50) := rfl
theorem ma_50 : MA[50]? = some (yX6_restore, cX6_restore, 3, none, 6, tb_50) := rfl
theorem mt_51 : MT[51]? = some (yX6_readSource, cX6_readSource, 3, none, 6, tb_51) := rfl
theorem ma_51 : MA[51]? = some (yX6_readSource, cX6_readSource, 3, none, 6, tb_51) := rfl
theorem mt_52 : MT[52]? = some (yX6_expandAll, cX6_expandAll, 2, none, 6, tb_52) := rfl
theorem ma_52 : MA[52]? = some (yX6_expandAll, cX6_expandAll, 2, none, 6, tb_52) := rfl
theorem mt_53 : MT[53]? = some (yX6_rememberSections, cX6_rememberSections, 6, none, 6, tb_53) := rfl
theorem ma_53 : MA[53]? = some (yX6_rememberSections, cX6_rememberSections, 6, none, 6, tb_53) := rfl
theorem mt_54 : MT[54]? = some (yX6_sectionsWith, cX6_sectionsWith, 6, some FieldType.int, 6, tb_54) := rfl
theorem ma_54 : MA[54]? = some (yX6_sectionsWith, cX6_sectionsWith, 6, some FieldType.int, 6, tb_54) := rfl
theorem mt_55 : MT[55]? = some (yX6_includedFrom, cX6_includedFrom, 6, some FieldType.int, 6, tb_55) := rfl
theorem ma_55 : MA[55]? = some (yX6_includedFrom, cX6_includedFrom, 6, some FieldType.int, 6, tb_55) := rfl
theorem mt_56 : MT[56]? = some (yX6_spellTarget, cX6_spellTarget, 7, some FieldType.int, 6, tb_56) := rfl
theorem ma_56 : MA[56]? = some (yX6_spellTarget, cX6_spellTarget, 7, some FieldType.int, 6, tb_56) := rfl
theorem mt_57 : MT[57]? = some (yX6_writeTarget, cX6_writeTarget, 6, none, 6, tb_57) := rfl
theorem ma_57 : MA[57]? = some (yX6_writeTarget, cX6_writeTarget, 6, none, 6, tb_57) := rfl
theorem mt_58 : MT[58]? = some (yX7_init, cX7_init, 1, none, 7, tb_58) := rfl
theorem ma_58 : MA[58]? = some (yX7_init, cX7_init, 1, none, 7, tb_58) := rfl
theorem mt_59 : MT[59]? = some (yX7_become, cX7_become, 2, none, 7, tb_59) := rfl
theorem ma_59 : MA[59]? = some (yX7_become, cX7_become, 2, none, 7, tb_59) := rfl
theorem mt_60 : MT[60]? = some (yX7_hasSource, cX7_hasSource, 2, some FieldType.boolean, 7, tb_60) := rfl
theorem ma_60 : MA[60]? = some (yX7_hasSource, cX7_hasSource, 2, some FieldType.boolean, 7, tb_60) := rfl
theorem mt_61 : MT[61]? = some (yX7_sources, cX7_sources, 3, some FieldType.int, 7, tb_61) := rfl
theorem ma_61 : MA[61]? = some (yX7_sources, cX7_sources, 3, some FieldType.int, 7, tb_61) := rfl
theorem mt_62 : MT[62]? = some (yX7_redirectFrom, cX7_redirectFrom, 5, some FieldType.int, 7, tb_62) := rfl
theorem ma_62 : MA[62]? = some (yX7_redirectFrom, cX7_redirectFrom, 5, some FieldType.int, 7, tb_62) := rfl
theorem mt_63 : MT[63]? = some (yX7_addRedirect, cX7_addRedirect, 7, none, 7, tb_63) := rfl
theorem ma_63 : MA[63]? = some (yX7_addRedirect, cX7_addRedirect, 7, none, 7, tb_63) := rfl
theorem mt_64 : MT[64]? = some (yX7_dropRedirect, cX7_dropRedirect, 3, none, 7, tb_64) := rfl
theorem ma_64 : MA[64]? = some (yX7_dropRedirect, cX7_dropRedirect, 3, none, 7, tb_64) := rfl
theorem mt_65 : MT[65]? = some (yX7_entryWith, cX7_entryWith, 5, some FieldType.int, 7, tb_65) := rfl
theorem ma_65 : MA[65]? = some (yX7_entryWith, cX7_entryWith, 5, some FieldType.int, 7, tb_65) := rfl
theorem mt_66 : MT[66]? = some (yX7_addEntry, cX7_addEntry, 5, none, 7, tb_66) := rfl
theorem ma_66 : MA[66]? = some (yX7_addEntry, cX7_addEntry, 5, none, 7, tb_66) := rfl
theorem mt_67 : MT[67]? = some (yX7_dropEntry, cX7_dropEntry, 3, none, 7, tb_67) := rfl
theorem ma_67 : MA[67]? = some (yX7_dropEntry, cX7_dropEntry, 3, none, 7, tb_67) := rfl
theorem mt_68 : MT[68]? = some (yX8_init, cX8_init, 1, none, 8, tb_68) := rfl
theorem ma_68 : MA[68]? = some (yX8_init, cX8_init, 1, none, 8, tb_68) := rfl
theorem mt_69 : MT[69]? = some (yX8_put, cX8_put, 5, some FieldType.int, 8, tb_69) := rfl
theorem ma_69 : MA[69]? = some (yX8_put, cX8_put, 5, some FieldType.int, 8, tb_69) := rfl
theorem mt_70 : MT[70]? = some (yX8_wipe, cX8_wipe, 2, some FieldType.int, 8, tb_70) := rfl
theorem ma_70 : MA[70]? = some (yX8_wipe, cX8_wipe, 2, some FieldType.int, 8, tb_70) := rfl
theorem mt_71 : MT[71]? = some (yX8_fault, cX8_fault, 2, some FieldType.int, 8, tb_71) := rfl
theorem ma_71 : MA[71]? = some (yX8_fault, cX8_fault, 2, some FieldType.int, 8, tb_71) := rfl
theorem mt_72 : MT[72]? = some (yX8_load, cX8_load, 2, some FieldType.int, 8, tb_72) := rfl
theorem ma_72 : MA[72]? = some (yX8_load, cX8_load, 2, some FieldType.int, 8, tb_72) := rfl
theorem mt_73 : MT[73]? = some (yX8_remove, cX8_remove, 2, some FieldType.int, 8, tb_73) := rfl
theorem ma_73 : MA[73]? = some (yX8_remove, cX8_remove, 2, some FieldType.int, 8, tb_73) := rfl
theorem mt_74 : MT[74]? = some (yX8_character, cX8_character, 4, some FieldType.int, 8, tb_74) := rfl
theorem ma_74 : MA[74]? = some (yX8_character, cX8_character, 4, some FieldType.int, 8, tb_74) := rfl
theorem mt_75 : MT[75]? = some (yX8_about, cX8_about, 5, some FieldType.int, 8, tb_75) := rfl
theorem ma_75 : MA[75]? = some (yX8_about, cX8_about, 5, some FieldType.int, 8, tb_75) := rfl
theorem mt_76 : MT[76]? = some (yX8_heading, cX8_heading, 5, some FieldType.int, 8, tb_76) := rfl
theorem ma_76 : MA[76]? = some (yX8_heading, cX8_heading, 5, some FieldType.int, 8, tb_76) := rfl
theorem mt_77 : MT[77]? = some (yX8_anchor, cX8_anchor, 5, some FieldType.int, 8, tb_77) := rfl
theorem ma_77 : MA[77]? = some (yX8_anchor, cX8_anchor, 5, some FieldType.int, 8, tb_77) := rfl
theorem mt_78 : MT[78]? = some (yX8_section, cX8_section, 4, some FieldType.int, 8, tb_78) := rfl
theorem ma_78 : MA[78]? = some (yX8_section, cX8_section, 4, some FieldType.int, 8, tb_78) := rfl
theorem mt_79 : MT[79]? = some (yX8_cycles, cX8_cycles, 3, some FieldType.int, 8, tb_79) := rfl
theorem ma_79 : MA[79]? = some (yX8_cycles, cX8_cycles, 3, some FieldType.int, 8, tb_79) := rfl
theorem mt_80 : MT[80]? = some (yX8_redirect, cX8_redirect, 8, some FieldType.int, 8, tb_80) := rfl
theorem ma_80 : MA[80]? = some (yX8_redirect, cX8_redirect, 8, some FieldType.int, 8, tb_80) := rfl
theorem mt_81 : MT[81]? = some (yX8_unredirect, cX8_unredirect, 2, some FieldType.int, 8, tb_81) := rfl
theorem ma_81 : MA[81]? = some (yX8_unredirect, cX8_unredirect, 2, some FieldType.int, 8, tb_81) := rfl
theorem mt_82 : MT[82]? = some (yX8_redirection, cX8_redirection, 3, some FieldType.int, 8, tb_82) := rfl
theorem ma_82 : MA[82]? = some (yX8_redirection, cX8_redirection, 3, some FieldType.int, 8, tb_82) := rfl
theorem mt_83 : MT[83]? = some (yX8_link, cX8_link, 5, some FieldType.int, 8, tb_83) := rfl
theorem ma_83 : MA[83]? = some (yX8_link, cX8_link, 5, some FieldType.int, 8, tb_83) := rfl
theorem mt_84 : MT[84]? = some (yX8_tally, cX8_tally, 2, some FieldType.int, 8, tb_84) := rfl
theorem ma_84 : MA[84]? = some (yX8_tally, cX8_tally, 2, some FieldType.int, 8, tb_84) := rfl
theorem mt_85 : MT[85]? = some (yX8_reach, cX8_reach, 4, some FieldType.int, 8, tb_85) := rfl
theorem ma_85 : MA[85]? = some (yX8_reach, cX8_reach, 4, some FieldType.int, 8, tb_85) := rfl
theorem mt_86 : MT[86]? = some (yX8_memory, cX8_memory, 4, some FieldType.int, 8, tb_86) := rfl
theorem ma_86 : MA[86]? = some (yX8_memory, cX8_memory, 4, some FieldType.int, 8, tb_86) := rfl
theorem mt_87 : MT[87]? = some (yX8_repair, cX8_repair, 4, some FieldType.int, 8, tb_87) := rfl
theorem ma_87 : MA[87]? = some (yX8_repair, cX8_repair, 4, some FieldType.int, 8, tb_87) := rfl
theorem mt_88 : MT[88]? = some (yX8_mend, cX8_mend, 3, some FieldType.int, 8, tb_88) := rfl
theorem ma_88 : MA[88]? = some (yX8_mend, cX8_mend, 3, some FieldType.int, 8, tb_88) := rfl
theorem mt_89 : MT[89]? = some (yX8_mendAll, cX8_mendAll, 5, some FieldType.int, 8, tb_89) := rfl
theorem ma_89 : MA[89]? = some (yX8_mendAll, cX8_mendAll, 5, some FieldType.int, 8, tb_89) := rfl
theorem mt_90 : MT[90]? = some (yX8_straighten, cX8_straighten, 4, some FieldType.int, 8, tb_90) := rfl
theorem ma_90 : MA[90]? = some (yX8_straighten, cX8_straighten, 4, some FieldType.int, 8, tb_90) := rfl
theorem mt_91 : MT[91]? = some (yX8_undo, cX8_undo, 2, some FieldType.int, 8, tb_91) := rfl
theorem ma_91 : MA[91]? = some (yX8_undo, cX8_undo, 2, some FieldType.int, 8, tb_91) := rfl
theorem mt_92 : MT[92]? = some (yX8_count, cX8_count, 2, some FieldType.int, 8, tb_92) := rfl
theorem ma_92 : MA[92]? = some (yX8_count, cX8_count, 2, some FieldType.int, 8, tb_92) := rfl
theorem mt_93 : MT[93]? = some (yX8_isPage, cX8_isPage, 1, some FieldType.boolean, 8, tb_93) := rfl
theorem ma_93 : MA[93]? = some (yX8_isPage, cX8_isPage, 1, some FieldType.boolean, 8, tb_93) := rfl
theorem mt_94 : MT[94]? = some (yX8_isHeading, cX8_isHeading, 3, some FieldType.boolean, 8, tb_94) := rfl
theorem ma_94 : MA[94]? = some (yX8_isHeading, cX8_isHeading, 3, some FieldType.boolean, 8, tb_94) := rfl
theorem mt_95 : MT[95]? = some (yX8_isLink, cX8_isLink, 3, some FieldType.boolean, 8, tb_95) := rfl
theorem ma_95 : MA[95]? = some (yX8_isLink, cX8_isLink, 3, some FieldType.boolean, 8, tb_95) := rfl
theorem mt_96 : MT[96]? = some (yX8_isRedirect, cX8_isRedirect, 2, some FieldType.boolean, 8, tb_96) := rfl
theorem ma_96 : MA[96]? = some (yX8_isRedirect, cX8_isRedirect, 2, some FieldType.boolean, 8, tb_96) := rfl
theorem mt_97 : MT[97]? = some (yX8_isIn, cX8_isIn, 2, some FieldType.boolean, 8, tb_97) := rfl
theorem ma_97 : MA[97]? = some (yX8_isIn, cX8_isIn, 2, some FieldType.boolean, 8, tb_97) := rfl
theorem mt_98 : MT[98]? = some (yX8_charactersIn, cX8_charactersIn, 7, some FieldType.int, 8, tb_98) := rfl
theorem ma_98 : MA[98]? = some (yX8_charactersIn, cX8_charactersIn, 7, some FieldType.int, 8, tb_98) := rfl
theorem mt_99 : MT[99]? = some (yX8_arrowInPad, cX8_arrowInPad, 2, some FieldType.int, 8, tb_99) := rfl
theorem ma_99 : MA[99]? = some (yX8_arrowInPad, cX8_arrowInPad, 2, some FieldType.int, 8, tb_99) := rfl
theorem mt_100 : MT[100]? = some (yX8_isBroken, cX8_isBroken, 4, some FieldType.boolean, 8, tb_100) := rfl
theorem ma_100 : MA[100]? = some (yX8_isBroken, cX8_isBroken, 4, some FieldType.boolean, 8, tb_100) := rfl
theorem mt_101 : MT[101]? = some (yX8_linksOfKinds, cX8_linksOfKinds, 7, some FieldType.int, 8, tb_101) := rfl
theorem ma_101 : MA[101]? = some (yX8_linksOfKinds, cX8_linksOfKinds, 7, some FieldType.int, 8, tb_101) := rfl
theorem mt_102 : MT[102]? = some (yX8_usesOf, cX8_usesOf, 6, some FieldType.int, 8, tb_102) := rfl
theorem ma_102 : MA[102]? = some (yX8_usesOf, cX8_usesOf, 6, some FieldType.int, 8, tb_102) := rfl
theorem mt_103 : MT[103]? = some (yX8_reachedFrom, cX8_reachedFrom, 6, some FieldType.int, 8, tb_103) := rfl
theorem ma_103 : MA[103]? = some (yX8_reachedFrom, cX8_reachedFrom, 6, some FieldType.int, 8, tb_103) := rfl
theorem mt_104 : MT[104]? = some (yX8_neighboursOf, cX8_neighboursOf, 5, some FieldType.int, 8, tb_104) := rfl
theorem ma_104 : MA[104]? = some (yX8_neighboursOf, cX8_neighboursOf, 5, some FieldType.int, 8, tb_104) := rfl
theorem mt_105 : MT[105]? = some (yX8_writePlace, cX8_writePlace, 8, some FieldType.int, 8, tb_105) := rfl
theorem ma_105 : MA[105]? = some (yX8_writePlace, cX8_writePlace, 8, some FieldType.int, 8, tb_105) := rfl
theorem mt_106 : MT[106]? = some (yX8_keepState, cX8_keepState, 3, none, 8, tb_106) := rfl
theorem ma_106 : MA[106]? = some (yX8_keepState, cX8_keepState, 3, none, 8, tb_106) := rfl
theorem mt_107 : MT[107]? = some (yX9_init, cX9_init, 2, none, 9, tb_107) := rfl
theorem ma_107 : MA[107]? = some (yX9_init, cX9_init, 2, none, 9, tb_107) := rfl
theorem mt_108 : MT[108]? = some (yX9_in, cX9_in, 3, some FieldType.boolean, 9, tb_108) := rfl
theorem ma_108 : MA[108]? = some (yX9_in, cX9_in, 3, some FieldType.boolean, 9, tb_108) := rfl
theorem mt_109 : MT[109]? = some (yX9_isPage, cX9_isPage, 1, some FieldType.boolean, 9, tb_109) := rfl
theorem ma_109 : MA[109]? = some (yX9_isPage, cX9_isPage, 1, some FieldType.boolean, 9, tb_109) := rfl
theorem mt_110 : MT[110]? = some (yX9_size, cX9_size, 2, some FieldType.int, 9, tb_110) := rfl
theorem ma_110 : MA[110]? = some (yX9_size, cX9_size, 2, some FieldType.int, 9, tb_110) := rfl
theorem mt_111 : MT[111]? = some (yX9_hasSource, cX9_hasSource, 2, some FieldType.boolean, 9, tb_111) := rfl
theorem ma_111 : MA[111]? = some (yX9_hasSource, cX9_hasSource, 2, some FieldType.boolean, 9, tb_111) := rfl
theorem mt_112 : MT[112]? = some (yX9_sign, cX9_sign, 3, some FieldType.int, 9, tb_112) := rfl
theorem ma_112 : MA[112]? = some (yX9_sign, cX9_sign, 3, some FieldType.int, 9, tb_112) := rfl
theorem mt_113 : MT[113]? = some (yX9_put, cX9_put, 7, some FieldType.int, 9, tb_113) := rfl
theorem ma_113 : MA[113]? = some (yX9_put, cX9_put, 7, some FieldType.int, 9, tb_113) := rfl
theorem mt_114 : MT[114]? = some (yX9_wipe, cX9_wipe, 2, some FieldType.int, 9, tb_114) := rfl
theorem ma_114 : MA[114]? = some (yX9_wipe, cX9_wipe, 2, some FieldType.int, 9, tb_114) := rfl
theorem mt_115 : MT[115]? = some (yX9_next, cX9_next, 1, some FieldType.int, 9, tb_115) := rfl
theorem ma_115 : MA[115]? = some (yX9_next, cX9_next, 1, some FieldType.int, 9, tb_115) := rfl
theorem mt_116 : MT[116]? = some (yX9_isNext, cX9_isNext, 2, some FieldType.boolean, 9, tb_116) := rfl
theorem ma_116 : MA[116]? = some (yX9_isNext, cX9_isNext, 2, some FieldType.boolean, 9, tb_116) := rfl
theorem mt_117 : MT[117]? = some (yX9_isSmallNext, cX9_isSmallNext, 1, some FieldType.boolean, 9, tb_117) := rfl
theorem ma_117 : MA[117]? = some (yX9_isSmallNext, cX9_isSmallNext, 1, some FieldType.boolean, 9, tb_117) := rfl
theorem mt_118 : MT[118]? = some (yX9_isDigitNext, cX9_isDigitNext, 1, some FieldType.boolean, 9, tb_118) := rfl
theorem ma_118 : MA[118]? = some (yX9_isDigitNext, cX9_isDigitNext, 1, some FieldType.boolean, 9, tb_118) := rfl
theorem mt_119 : MT[119]? = some (yX9_keepSign, cX9_keepSign, 1, none, 9, tb_119) := rfl
theorem ma_119 : MA[119]? = some (yX9_keepSign, cX9_keepSign, 1, none, 9, tb_119) := rfl
theorem mt_120 : MT[120]? = some (yX9_readName, cX9_readName, 1, some FieldType.boolean, 9, tb_120) := rfl
theorem ma_120 : MA[120]? = some (yX9_readName, cX9_readName, 1, some FieldType.boolean, 9, tb_120) := rfl
theorem mt_121 : MT[121]? = some (yX9_readAnchor, cX9_readAnchor, 1, some FieldType.boolean, 9, tb_121) := rfl
theorem ma_121 : MA[121]? = some (yX9_readAnchor, cX9_readAnchor, 1, some FieldType.boolean, 9, tb_121) := rfl
theorem mt_122 : MT[122]? = some (yX9_readLetter, cX9_readLetter, 1, some FieldType.boolean, 9, tb_122) := rfl
theorem ma_122 : MA[122]? = some (yX9_readLetter, cX9_readLetter, 1, some FieldType.boolean, 9, tb_122) := rfl
theorem mt_123 : MT[123]? = some (yX9_readPlace, cX9_readPlace, 1, some FieldType.boolean, 9, tb_123) := rfl
theorem ma_123 : MA[123]? = some (yX9_readPlace, cX9_readPlace, 1, some FieldType.boolean, 9, tb_123) := rfl
theorem mt_124 : MT[124]? = some (yX9_readHeading, cX9_readHeading, 2, some FieldType.boolean, 9, tb_124) := rfl
theorem ma_124 : MA[124]? = some (yX9_readHeading, cX9_readHeading, 2, some FieldType.boolean, 9, tb_124) := rfl
theorem mt_125 : MT[125]? = some (yX9_readInclude, cX9_readInclude, 1, some FieldType.boolean, 9, tb_125) := rfl
theorem ma_125 : MA[125]? = some (yX9_readInclude, cX9_readInclude, 1, some FieldType.boolean, 9, tb_125) := rfl
theorem mt_126 : MT[126]? = some (yX9_readElement, cX9_readElement, 2, some FieldType.boolean, 9, tb_126) := rfl
theorem ma_126 : MA[126]? = some (yX9_readElement, cX9_readElement, 2, some FieldType.boolean, 9, tb_126) := rfl
theorem mt_127 : MT[127]? = some (yX9_readElements, cX9_readElements, 2, some FieldType.boolean, 9, tb_127) := rfl
theorem ma_127 : MA[127]? = some (yX9_readElements, cX9_readElements, 2, some FieldType.boolean, 9, tb_127) := rfl
theorem mt_128 : MT[128]? = some (yX9_readLine, cX9_readLine, 1, some FieldType.boolean, 9, tb_128) := rfl
theorem ma_128 : MA[128]? = some (yX9_readLine, cX9_readLine, 1, some FieldType.boolean, 9, tb_128) := rfl
theorem mt_129 : MT[129]? = some (yX9_faultOfPage, cX9_faultOfPage, 2, some FieldType.int, 9, tb_129) := rfl
theorem ma_129 : MA[129]? = some (yX9_faultOfPage, cX9_faultOfPage, 2, some FieldType.int, 9, tb_129) := rfl
theorem mt_130 : MT[130]? = some (yX9_readSide, cX9_readSide, 3, some FieldType.boolean, 9, tb_130) := rfl
theorem ma_130 : MA[130]? = some (yX9_readSide, cX9_readSide, 3, some FieldType.boolean, 9, tb_130) := rfl
theorem mt_131 : MT[131]? = some (yX9_faultOfRedirect, cX9_faultOfRedirect, 2, some FieldType.int, 9, tb_131) := rfl
theorem ma_131 : MA[131]? = some (yX9_faultOfRedirect, cX9_faultOfRedirect, 2, some FieldType.int, 9, tb_131) := rfl
theorem mt_132 : MT[132]? = some (yX9_fault, cX9_fault, 2, some FieldType.int, 9, tb_132) := rfl
theorem ma_132 : MA[132]? = some (yX9_fault, cX9_fault, 2, some FieldType.int, 9, tb_132) := rfl
theorem mt_133 : MT[133]? = some (yX9_putDown, cX9_putDown, 2, none, 9, tb_133) := rfl
theorem ma_133 : MA[133]? = some (yX9_putDown, cX9_putDown, 2, none, 9, tb_133) := rfl
theorem mt_134 : MT[134]? = some (yX9_undo, cX9_undo, 2, some FieldType.int, 9, tb_134) := rfl
theorem ma_134 : MA[134]? = some (yX9_undo, cX9_undo, 2, some FieldType.int, 9, tb_134) := rfl
theorem mt_135 : MT[135]? = some (yX9_areSameAnchors, cX9_areSameAnchors, 7, some FieldType.boolean, 9, tb_135) := rfl
theorem ma_135 : MA[135]? = some (yX9_areSameAnchors, cX9_areSameAnchors, 7, some FieldType.boolean, 9, tb_135) := rfl
theorem mt_136 : MT[136]? = some (yX9_remember, cX9_remember, 6, none, 9, tb_136) := rfl
theorem ma_136 : MA[136]? = some (yX9_remember, cX9_remember, 6, none, 9, tb_136) := rfl
theorem mt_137 : MT[137]? = some (yX9_dropEntry, cX9_dropEntry, 3, none, 9, tb_137) := rfl
theorem ma_137 : MA[137]? = some (yX9_dropEntry, cX9_dropEntry, 3, none, 9, tb_137) := rfl
theorem mt_138 : MT[138]? = some (yX9_forget, cX9_forget, 5, none, 9, tb_138) := rfl
theorem ma_138 : MA[138]? = some (yX9_forget, cX9_forget, 5, none, 9, tb_138) := rfl
theorem mt_139 : MT[139]? = some (yX9_linesOf, cX9_linesOf, 4, some FieldType.int, 9, tb_139) := rfl
theorem ma_139 : MA[139]? = some (yX9_linesOf, cX9_linesOf, 4, some FieldType.int, 9, tb_139) := rfl
theorem mt_140 : MT[140]? = some (yX9_load, cX9_load, 3, some FieldType.int, 9, tb_140) := rfl
theorem ma_140 : MA[140]? = some (yX9_load, cX9_load, 3, some FieldType.int, 9, tb_140) := rfl
theorem mt_141 : MT[141]? = some (yX9_sources, cX9_sources, 3, some FieldType.int, 9, tb_141) := rfl
theorem ma_141 : MA[141]? = some (yX9_sources, cX9_sources, 3, some FieldType.int, 9, tb_141) := rfl
theorem mt_142 : MT[142]? = some (yX9_remove, cX9_remove, 2, some FieldType.int, 9, tb_142) := rfl
theorem ma_142 : MA[142]? = some (yX9_remove, cX9_remove, 2, some FieldType.int, 9, tb_142) := rfl
theorem mt_143 : MT[143]? = some (yX9_character, cX9_character, 3, some FieldType.int, 9, tb_143) := rfl
theorem ma_143 : MA[143]? = some (yX9_character, cX9_character, 3, some FieldType.int, 9, tb_143) := rfl
theorem mt_144 : MT[144]? = some (yX9_anchorAt, cX9_anchorAt, 2, some FieldType.int, 9, tb_144) := rfl
theorem ma_144 : MA[144]? = some (yX9_anchorAt, cX9_anchorAt, 2, some FieldType.int, 9, tb_144) := rfl
theorem mt_145 : MT[145]? = some (yX9_linkAnchor, cX9_linkAnchor, 2, some FieldType.int, 9, tb_145) := rfl
theorem ma_145 : MA[145]? = some (yX9_linkAnchor, cX9_linkAnchor, 2, some FieldType.int, 9, tb_145) := rfl
theorem mt_146 : MT[146]? = some (yX9_lineEnd, cX9_lineEnd, 4, some FieldType.int, 9, tb_146) := rfl
theorem ma_146 : MA[146]? = some (yX9_lineEnd, cX9_lineEnd, 4, some FieldType.int, 9, tb_146) := rfl
theorem mt_147 : MT[147]? = some (yX9_keepAnchor, cX9_keepAnchor, 6, none, 9, tb_147) := rfl
theorem ma_147 : MA[147]? = some (yX9_keepAnchor, cX9_keepAnchor, 6, none, 9, tb_147) := rfl
theorem mt_148 : MT[148]? = some (yX9_keepLink, cX9_keepLink, 7, none, 9, tb_148) := rfl
theorem ma_148 : MA[148]? = some (yX9_keepLink, cX9_keepLink, 7, none, 9, tb_148) := rfl
theorem mt_149 : MT[149]? = some (yX9_layLinks, cX9_layLinks, 6, none, 9, tb_149) := rfl
theorem ma_149 : MA[149]? = some (yX9_layLinks, cX9_layLinks, 6, none, 9, tb_149) := rfl
theorem mt_150 : MT[150]? = some (yX9_digestLine, cX9_digestLine, 7, none, 9, tb_150) := rfl
theorem ma_150 : MA[150]? = some (yX9_digestLine, cX9_digestLine, 7, none, 9, tb_150) := rfl
theorem mt_151 : MT[151]? = some (yX9_layOwn, cX9_layOwn, 5, none, 9, tb_151) := rfl
theorem ma_151 : MA[151]? = some (yX9_layOwn, cX9_layOwn, 5, none, 9, tb_151) := rfl
theorem mt_152 : MT[152]? = some (yX9_push, cX9_push, 3, none, 9, tb_152) := rfl
theorem ma_152 : MA[152]? = some (yX9_push, cX9_push, 3, none, 9, tb_152) := rfl
theorem mt_153 : MT[153]? = some (yX9_namesakes, cX9_namesakes, 9, some FieldType.int, 9, tb_153) := rfl
theorem ma_153 : MA[153]? = some (yX9_namesakes, cX9_namesakes, 9, some FieldType.int, 9, tb_153) := rfl
theorem mt_154 : MT[154]? = some (yX9_appendSign, cX9_appendSign, 3, none, 9, tb_154) := rfl
theorem ma_154 : MA[154]? = some (yX9_appendSign, cX9_appendSign, 3, none, 9, tb_154) := rfl
theorem mt_155 : MT[155]? = some (yX9_keepHeading, cX9_keepHeading, 12, none, 9, tb_155) := rfl
theorem ma_155 : MA[155]? = some (yX9_keepHeading, cX9_keepHeading, 12, none, 9, tb_155) := rfl
theorem mt_156 : MT[156]? = some (yX9_layExpansion, cX9_layExpansion, 10, none, 9, tb_156) := rfl
theorem ma_156 : MA[156]? = some (yX9_layExpansion, cX9_layExpansion, 10, none, 9, tb_156) := rfl
theorem mt_157 : MT[157]? = some (yX9_layAll, cX9_layAll, 2, none, 9, tb_157) := rfl
theorem ma_157 : MA[157]? = some (yX9_layAll, cX9_layAll, 2, none, 9, tb_157) := rfl
theorem mt_158 : MT[158]? = some (yX9_about, cX9_about, 3, some FieldType.int, 9, tb_158) := rfl
theorem ma_158 : MA[158]? = some (yX9_about, cX9_about, 3, some FieldType.int, 9, tb_158) := rfl
theorem mt_159 : MT[159]? = some (yX9_isHeading, cX9_isHeading, 3, some FieldType.boolean, 9, tb_159) := rfl
theorem ma_159 : MA[159]? = some (yX9_isHeading, cX9_isHeading, 3, some FieldType.boolean, 9, tb_159) := rfl
theorem mt_160 : MT[160]? = some (yX9_heading, cX9_heading, 5, some FieldType.int, 9, tb_160) := rfl
theorem ma_160 : MA[160]? = some (yX9_heading, cX9_heading, 5, some FieldType.int, 9, tb_160) := rfl
theorem mt_161 : MT[161]? = some (yX9_anchor, cX9_anchor, 5, some FieldType.int, 9, tb_161) := rfl
theorem ma_161 : MA[161]? = some (yX9_anchor, cX9_anchor, 5, some FieldType.int, 9, tb_161) := rfl
theorem mt_162 : MT[162]? = some (yX9_section, cX9_section, 5, some FieldType.int, 9, tb_162) := rfl
theorem ma_162 : MA[162]? = some (yX9_section, cX9_section, 5, some FieldType.int, 9, tb_162) := rfl
theorem mt_163 : MT[163]? = some (yX9_included, cX9_included, 6, some FieldType.int, 9, tb_163) := rfl
theorem ma_163 : MA[163]? = some (yX9_included, cX9_included, 6, some FieldType.int, 9, tb_163) := rfl
theorem mt_164 : MT[164]? = some (yX9_cycles, cX9_cycles, 3, some FieldType.int, 9, tb_164) := rfl
theorem ma_164 : MA[164]? = some (yX9_cycles, cX9_cycles, 3, some FieldType.int, 9, tb_164) := rfl
theorem mt_165 : MT[165]? = some (yX9_turnAt, cX9_turnAt, 2, some FieldType.int, 9, tb_165) := rfl
theorem ma_165 : MA[165]? = some (yX9_turnAt, cX9_turnAt, 2, some FieldType.int, 9, tb_165) := rfl
theorem mt_166 : MT[166]? = some (yX9_turns, cX9_turns, 1, some FieldType.int, 9, tb_166) := rfl
theorem ma_166 : MA[166]? = some (yX9_turns, cX9_turns, 1, some FieldType.int, 9, tb_166) := rfl
theorem mt_167 : MT[167]? = some (yX9_areSamePlaces, cX9_areSamePlaces, 5, some FieldType.boolean, 9, tb_167) := rfl
theorem ma_167 : MA[167]? = some (yX9_areSamePlaces, cX9_areSamePlaces, 5, some FieldType.boolean, 9, tb_167) := rfl
theorem mt_168 : MT[168]? = some (yX9_redirect, cX9_redirect, 3, some FieldType.int, 9, tb_168) := rfl
theorem ma_168 : MA[168]? = some (yX9_redirect, cX9_redirect, 3, some FieldType.int, 9, tb_168) := rfl
theorem mt_169 : MT[169]? = some (yX9_isTurn, cX9_isTurn, 2, some FieldType.boolean, 9, tb_169) := rfl
theorem ma_169 : MA[169]? = some (yX9_isTurn, cX9_isTurn, 2, some FieldType.boolean, 9, tb_169) := rfl
theorem mt_170 : MT[170]? = some (yX9_unredirect, cX9_unredirect, 3, some FieldType.int, 9, tb_170) := rfl
theorem ma_170 : MA[170]? = some (yX9_unredirect, cX9_unredirect, 3, some FieldType.int, 9, tb_170) := rfl
theorem mt_171 : MT[171]? = some (yX9_redirection, cX9_redirection, 3, some FieldType.int, 9, tb_171) := rfl
theorem ma_171 : MA[171]? = some (yX9_redirection, cX9_redirection, 3, some FieldType.int, 9, tb_171) := rfl
theorem mt_172 : MT[172]? = some (yX9_headingWith, cX9_headingWith, 5, some FieldType.int, 9, tb_172) := rfl
theorem ma_172 : MA[172]? = some (yX9_headingWith, cX9_headingWith, 5, some FieldType.int, 9, tb_172) := rfl
theorem mt_173 : MT[173]? = some (yX9_wasHere, cX9_wasHere, 3, some FieldType.boolean, 9, tb_173) := rfl
theorem ma_173 : MA[173]? = some (yX9_wasHere, cX9_wasHere, 3, some FieldType.boolean, 9, tb_173) := rfl
theorem mt_174 : MT[174]? = some (yX9_isGood, cX9_isGood, 3, some FieldType.boolean, 9, tb_174) := rfl
theorem ma_174 : MA[174]? = some (yX9_isGood, cX9_isGood, 3, some FieldType.boolean, 9, tb_174) := rfl
theorem mt_175 : MT[175]? = some (yX9_turnFrom, cX9_turnFrom, 5, some FieldType.int, 9, tb_175) := rfl
theorem ma_175 : MA[175]? = some (yX9_turnFrom, cX9_turnFrom, 5, some FieldType.int, 9, tb_175) := rfl
theorem mt_176 : MT[176]? = some (yX9_go, cX9_go, 6, none, 9, tb_176) := rfl
theorem ma_176 : MA[176]? = some (yX9_go, cX9_go, 6, none, 9, tb_176) := rfl
theorem mt_177 : MT[177]? = some (yX9_resolve, cX9_resolve, 7, none, 9, tb_177) := rfl
theorem ma_177 : MA[177]? = some (yX9_resolve, cX9_resolve, 7, none, 9, tb_177) := rfl
theorem mt_178 : MT[178]? = some (yX9_isLink, cX9_isLink, 3, some FieldType.boolean, 9, tb_178) := rfl
theorem ma_178 : MA[178]? = some (yX9_isLink, cX9_isLink, 3, some FieldType.boolean, 9, tb_178) := rfl
theorem mt_179 : MT[179]? = some (yX9_link, cX9_link, 4, some FieldType.int, 9, tb_179) := rfl
theorem ma_179 : MA[179]? = some (yX9_link, cX9_link, 4, some FieldType.int, 9, tb_179) := rfl
theorem mt_180 : MT[180]? = some (yX9_followedBy, cX9_followedBy, 3, some FieldType.int, 9, tb_180) := rfl
theorem ma_180 : MA[180]? = some (yX9_followedBy, cX9_followedBy, 3, some FieldType.int, 9, tb_180) := rfl
theorem mt_181 : MT[181]? = some (yX9_tallyOf, cX9_tallyOf, 5, some FieldType.int, 9, tb_181) := rfl
theorem ma_181 : MA[181]? = some (yX9_tallyOf, cX9_tallyOf, 5, some FieldType.int, 9, tb_181) := rfl
theorem mt_182 : MT[182]? = some (yX9_tally, cX9_tally, 2, some FieldType.int, 9, tb_182) := rfl
theorem ma_182 : MA[182]? = some (yX9_tally, cX9_tally, 2, some FieldType.int, 9, tb_182) := rfl
theorem mt_183 : MT[183]? = some (yX9_reach, cX9_reach, 6, some FieldType.int, 9, tb_183) := rfl
theorem ma_183 : MA[183]? = some (yX9_reach, cX9_reach, 6, some FieldType.int, 9, tb_183) := rfl
theorem mt_184 : MT[184]? = some (yX9_endsOf, cX9_endsOf, 4, some FieldType.int, 9, tb_184) := rfl
theorem ma_184 : MA[184]? = some (yX9_endsOf, cX9_endsOf, 4, some FieldType.int, 9, tb_184) := rfl
theorem mt_185 : MT[185]? = some (yX9_alike, cX9_alike, 5, some FieldType.int, 9, tb_185) := rfl
theorem ma_185 : MA[185]? = some (yX9_alike, cX9_alike, 5, some FieldType.int, 9, tb_185) := rfl
theorem mt_186 : MT[186]? = some (yX9_memory, cX9_memory, 4, some FieldType.int, 9, tb_186) := rfl
theorem ma_186 : MA[186]? = some (yX9_memory, cX9_memory, 4, some FieldType.int, 9, tb_186) := rfl
theorem mt_187 : MT[187]? = some (yX9_lesser, cX9_lesser, 2, some FieldType.int, 9, tb_187) := rfl
theorem ma_187 : MA[187]? = some (yX9_lesser, cX9_lesser, 2, some FieldType.int, 9, tb_187) := rfl
theorem mt_188 : MT[188]? = some (yX9_changes, cX9_changes, 9, some FieldType.int, 9, tb_188) := rfl
theorem ma_188 : MA[188]? = some (yX9_changes, cX9_changes, 9, some FieldType.int, 9, tb_188) := rfl
theorem mt_189 : MT[189]? = some (yX9_remembered, cX9_remembered, 5, some FieldType.int, 9, tb_189) := rfl
theorem ma_189 : MA[189]? = some (yX9_remembered, cX9_remembered, 5, some FieldType.int, 9, tb_189) := rfl
theorem mt_190 : MT[190]? = some (yX9_isSectionWith, cX9_isSectionWith, 6, some FieldType.boolean, 9, tb_190) := rfl
theorem ma_190 : MA[190]? = some (yX9_isSectionWith, cX9_isSectionWith, 6, some FieldType.boolean, 9, tb_190) := rfl
theorem mt_191 : MT[191]? = some (yX9_offer, cX9_offer, 4, none, 9, tb_191) := rfl
theorem ma_191 : MA[191]? = some (yX9_offer, cX9_offer, 4, none, 9, tb_191) := rfl
theorem mt_192 : MT[192]? = some (yX9_layRepair, cX9_layRepair, 12, none, 9, tb_192) := rfl
theorem ma_192 : MA[192]? = some (yX9_layRepair, cX9_layRepair, 12, none, 9, tb_192) := rfl
theorem mt_193 : MT[193]? = some (yX9_isBroken, cX9_isBroken, 3, some FieldType.boolean, 9, tb_193) := rfl
theorem ma_193 : MA[193]? = some (yX9_isBroken, cX9_isBroken, 3, some FieldType.boolean, 9, tb_193) := rfl
theorem mt_194 : MT[194]? = some (yX9_repair, cX9_repair, 4, some FieldType.int, 9, tb_194) := rfl
theorem ma_194 : MA[194]? = some (yX9_repair, cX9_repair, 4, some FieldType.int, 9, tb_194) := rfl
theorem mt_195 : MT[195]? = some (yX9_say, cX9_say, 2, none, 9, tb_195) := rfl
theorem ma_195 : MA[195]? = some (yX9_say, cX9_say, 2, none, 9, tb_195) := rfl
theorem mt_196 : MT[196]? = some (yX9_layTarget, cX9_layTarget, 6, none, 9, tb_196) := rfl
theorem ma_196 : MA[196]? = some (yX9_layTarget, cX9_layTarget, 6, none, 9, tb_196) := rfl
theorem mt_197 : MT[197]? = some (yX9_fitsTarget, cX9_fitsTarget, 4, some FieldType.boolean, 9, tb_197) := rfl
theorem ma_197 : MA[197]? = some (yX9_fitsTarget, cX9_fitsTarget, 4, some FieldType.boolean, 9, tb_197) := rfl
theorem mt_198 : MT[198]? = some (yX9_writeTarget, cX9_writeTarget, 7, none, 9, tb_198) := rfl
theorem ma_198 : MA[198]? = some (yX9_writeTarget, cX9_writeTarget, 7, none, 9, tb_198) := rfl
theorem mt_199 : MT[199]? = some (yX9_mend, cX9_mend, 3, some FieldType.int, 9, tb_199) := rfl
theorem ma_199 : MA[199]? = some (yX9_mend, cX9_mend, 3, some FieldType.int, 9, tb_199) := rfl
theorem mt_200 : MT[200]? = some (yX9_mendAll, cX9_mendAll, 4, some FieldType.int, 9, tb_200) := rfl
theorem ma_200 : MA[200]? = some (yX9_mendAll, cX9_mendAll, 4, some FieldType.int, 9, tb_200) := rfl
theorem mt_201 : MT[201]? = some (yX9_straighten, cX9_straighten, 3, some FieldType.int, 9, tb_201) := rfl
theorem ma_201 : MA[201]? = some (yX9_straighten, cX9_straighten, 3, some FieldType.int, 9, tb_201) := rfl
theorem mt_202 : MT[202]? = some (yX9_count, cX9_count, 2, some FieldType.int, 9, tb_202) := rfl
theorem ma_202 : MA[202]? = some (yX9_count, cX9_count, 2, some FieldType.int, 9, tb_202) := rfl
theorem mt_203 : MT[203]? = some (yX9_linksOfAll, cX9_linksOfAll, 3, some FieldType.int, 9, tb_203) := rfl
theorem ma_203 : MA[203]? = some (yX9_linksOfAll, cX9_linksOfAll, 3, some FieldType.int, 9, tb_203) := rfl
theorem ma_204 : MA[204]? = some (x, cL_law, 4, some FieldType.boolean, 10, tb_204) := rfl
end
section
/-! contracts with a known answer and a known heap behind them -/
def bI (b : Bool) : Int32 := if b then 1 else 0
theorem bI_0 {b : Bool} : bI b = 0 ↔ b = false := by cases b <;> decide
theorem bI_n {b : Bool} : ¬ bI b = 0 ↔ b = true := by cases b <;> decide
theorem bI_01 (b : Bool) : bI b = 0 ∨ bI b = 1 := by cases b <;> decide
def EI (d mi : Nat) (as : List AV) (σ : Hp) (v : Int32) (h : Hp) : Prop := Ev true d mi as σ σ.1 (fun r s => r = some (vi v) ∧ s = h)
def EL (d mi : Nat) (as : List AV) (σ : Hp) (v : Int64) (h : Hp) : Prop := Ev true d mi as σ σ.1 (fun r s => r = some (vl v) ∧ s = h)
def EV (d mi : Nat) (as : List AV) (σ : Hp) (h : Hp) : Prop := Ev true d mi as σ σ.1 (fun r s => r = none ∧ s = h)
theorem EI_of {d mi : Nat} {as : List AV} {σ h : Hp} {v : Int32} {me : MEnt} (hm : MT[mi]? = some me) (hl : (ent as).length ≤ me.2.2.1) (k : ∀ Q : Option AV → Hp → Prop, Q (some (vi v)) h → Sat true d mi σ.1 Q 0 (entL me.2.2.1 as) [] σ) : EI d mi as σ v h := Ev_of hm hl (Nat.le_refl _) (Nat.le_refl _) (k _ ⟨rfl, rfl⟩)
theorem EL_of {d mi : Nat} {as : List AV} {σ h : Hp} {v : Int64} {me : MEnt} (hm : MT[mi]? = some me) (hl : (ent as).length ≤ me.2.2.1) (k : ∀ Q : Option AV → Hp → Prop, Q (some (vl v)) h → Sat true d mi σ.1 Q 0 (entL me.2.2.1 as) [] σ) : EL d mi as σ v h := Ev_of hm hl (Nat.le_refl _) (Nat.le_refl _) (k _ ⟨rfl, rfl⟩)
theorem EV_of {d mi : Nat} {as : List AV} {σ h : Hp} {me : MEnt} (hm : MT[mi]? = some me) (hl : (ent as).length ≤ me.2.2.1) (k : ∀ Q : Option AV → Hp → Prop, Q none h → Sat true d mi σ.1 Q 0 (entL me.2.2.1 as) [] σ) : EV d mi as σ h := Ev_of hm hl (Nat.le_refl _) (Nat.le_refl _) (k _ ⟨rfl, rfl⟩)
theorem cal_i {d mj : Nat} {as : List AV} {σ h : Hp} {v : Int32} {B : Nat × Nat × Nat} {K : Int32 → Hp → Prop} (c : EI d mj as σ v h) (hB : σ.1 = B) (k : K v h) : CalI true d mj as σ B K := ⟨σ.1, _, c, by rw [hB]; exact Nat.le_refl _, by rw [hB]; exact Nat.le_refl _, fun x s q _ => by
  obtain ⟨q1, q2⟩ := q
  cases q1
  rw [q2]
  exact k⟩
theorem cal_l {d mj : Nat} {as : List AV} {σ h : Hp} {v : Int64} {B : Nat × Nat × Nat} {K : Int64 → Hp → Prop} (c : EL d mj as σ v h) (hB : σ.1 = B) (k : K v h) : CalL true d mj as σ B K := ⟨σ.1, _, c, by rw [hB]; exact Nat.le_refl _, by rw [hB]; exact Nat.le_refl _, fun x s q _ => by
  obtain ⟨q1, q2⟩ := q
  cases q1
  rw [q2]
  exact k⟩
theorem cal_v {d mj : Nat} {as : List AV} {σ h : Hp} {B : Nat × Nat × Nat} {K : Hp → Prop} (c : EV d mj as σ h) (hB : σ.1 = B) (k : K h) : CalV true d mj as σ B K := ⟨σ.1, _, c, by rw [hB]; exact Nat.le_refl _, by rw [hB]; exact Nat.le_refl _, fun s q _ => by
  rw [q.2]
  exact k⟩
theorem brI {b : Bool} {A C : Prop} (h0 : b = false → A) (h1 : b = true → C) : (bI b = 0 → A) ∧ (¬ bI b = 0 → C) := ⟨fun q => h0 (bI_0.mp q), fun q => h1 (bI_n.mp q)⟩
theorem brN {b : Bool} {A C : Prop} (h1 : b = true → A) (h0 : b = false → C) : (¬ bI b = 0 → A) ∧ (bI b = 0 → C) := ⟨fun q => h1 (bI_n.mp q), fun q => h0 (bI_0.mp q)⟩
/-- heaps -/
theorem setI_setI (σ : Hp) (f p k : Nat) (x y : Int32) : setI (setI σ f p k x) f p k y = setI σ f p k y := by
  unfold setI
  refine Prod.ext rfl (Prod.ext ?_ rfl)
  funext f' p' k'
  show (if f' = f ∧ p' = p ∧ k' = k then y else if f' = f ∧ p' = p ∧ k' = k then x else σ.2.1 f' p' k') = if f' = f ∧ p' = p ∧ k' = k then y else σ.2.1 f' p' k'
  split <;> rfl
theorem setI_self (σ : Hp) (f p k : Nat) : setI σ f p k (hI σ f p k) = σ := by
  unfold setI
  refine Prod.ext rfl (Prod.ext ?_ rfl)
  funext f' p' k'
  show (if f' = f ∧ p' = p ∧ k' = k then σ.2.1 f p k else σ.2.1 f' p' k') = σ.2.1 f' p' k'
  split
  · rename_i h; rw [h.1, h.2.1, h.2.2]
  · rfl
/-- numbers -/
theorem ix {n : Nat} (h : n < 2147483648) : (nI n).toNatClampNeg = n := nI_clamp h
theorem inb {i n : Nat} (h : i < n) (hn : n < 2147483648) : vp_in (nI i) n := vp_in_nI h hn
theorem leN {a b : Nat} (ha : a < 2147483648) (hb : b < 2147483648) : nI a ≤ nI b ↔ a ≤ b := nI_leI ha hb
theorem ltN {a b : Nat} (ha : a < 2147483648) (hb : b < 2147483648) : nI a < nI b ↔ a < b := nI_ltI ha hb
theorem eqN {a b : Nat} (ha : a < 2147483648) (hb : b < 2147483648) : nI a = nI b ↔ a = b := nI_eq ha hb
theorem addN (a b : Nat) : nI a + nI b = nI (a + b) := nI_add a b
theorem subN {a b : Nat} (h : b ≤ a) : nI a - nI b = nI (a - b) := pk_sub h
theorem mulN (a b : Nat) : nI a * nI b = nI (a * b) := pk_mul a b
theorem br_le {a b : Nat} {A C : Prop} (ha : a < 2147483648) (hb : b < 2147483648) (h1 : a ≤ b → A) (h0 : b < a → C) : (nI a ≤ nI b → A) ∧ (¬ nI a ≤ nI b → C) := ⟨fun q => h1 ((leN ha hb).mp q), fun q => h0 (Nat.not_le.mp fun w => q ((leN ha hb).mpr w))⟩
theorem br_lt {a b : Nat} {A C : Prop} (ha : a < 2147483648) (hb : b < 2147483648) (h1 : a < b → A) (h0 : b ≤ a → C) : (nI a < nI b → A) ∧ (¬ nI a < nI b → C) := ⟨fun q => h1 ((ltN ha hb).mp q), fun q => h0 (Nat.not_lt.mp fun w => q ((ltN ha hb).mpr w))⟩
theorem br_eq {a b : Nat} {A C : Prop} (ha : a < 2147483648) (hb : b < 2147483648) (h1 : a = b → A) (h0 : a ≠ b → C) : (nI a = nI b → A) ∧ (¬ nI a = nI b → C) := ⟨fun q => h1 ((eqN ha hb).mp q), fun q => h0 fun w => q ((eqN ha hb).mpr w)⟩
theorem br_ne {a b : Nat} {A C : Prop} (ha : a < 2147483648) (hb : b < 2147483648) (h1 : a ≠ b → A) (h0 : a = b → C) : (¬ nI a = nI b → A) ∧ (nI a = nI b → C) := ⟨fun q => h1 fun w => q ((eqN ha hb).mpr w), fun q => h0 ((eqN ha hb).mp q)⟩
theorem b_f {A C : Prop} (a : A) : (bI false = 0 → A) ∧ (¬ bI false = 0 → C) := ⟨fun _ => a, fun h => absurd rfl h⟩
theorem b_t {A C : Prop} (a : C) : (bI true = 0 → A) ∧ (¬ bI true = 0 → C) := ⟨fun h => absurd h (by decide), fun _ => a⟩
theorem b_f' {A C : Prop} (a : C) : (¬ bI false = 0 → A) ∧ (bI false = 0 → C) := ⟨fun h => absurd rfl h, fun _ => a⟩
theorem b_t' {A C : Prop} (a : A) : (¬ bI true = 0 → A) ∧ (bI true = 0 → C) := ⟨fun _ => a, fun h => absurd h (by decide)⟩
theorem setI_comm (σ : Hp) {f p k f2 p2 k2 : Nat} (x y : Int32) (h : f ≠ f2 ∨ p ≠ p2 ∨ k ≠ k2) : setI (setI σ f p k x) f2 p2 k2 y = setI (setI σ f2 p2 k2 y) f p k x := by
  unfold setI
  refine Prod.ext rfl (Prod.ext ?_ rfl)
  funext f' p' k'
  show (if f' = f2 ∧ p' = p2 ∧ k' = k2 then y else if f' = f ∧ p' = p ∧ k' = k then x else σ.2.1 f' p' k') = if f' = f ∧ p' = p ∧ k' = k then x else if f' = f2 ∧ p' = p2 ∧ k' = k2 then y else σ.2.1 f' p' k'
  by_cases a : f' = f2 ∧ p' = p2 ∧ k' = k2
  · rw [if_pos a]
    by_cases b : f' = f ∧ p' = p ∧ k' = k
    · exfalso; omega
    · rw [if_neg b, if_pos a]
  · rw [if_neg a]
    by_cases b : f' = f ∧ p' = p ∧ k' = k
    · rw [if_pos b, if_pos b]
    · rw [if_neg b, if_neg b, if_neg a]
/-- a whole row of ints -/
def arrI (σ : Hp) (f p : Nat) (g : Nat → Int32) : Hp := (σ.1, (fun f' p' k' => if f' = f ∧ p' = p then g k' else σ.2.1 f' p' k'), σ.2.2)
theorem arrI_setI (σ : Hp) (f p k : Nat) (g : Nat → Int32) (x : Int32) : setI (arrI σ f p g) f p k x = arrI σ f p (upd g k x) := by
  unfold setI arrI
  refine Prod.ext rfl (Prod.ext ?_ rfl)
  funext f' p' k'
  show (if f' = f ∧ p' = p ∧ k' = k then x else if f' = f ∧ p' = p then g k' else σ.2.1 f' p' k') = if f' = f ∧ p' = p then upd g k x k' else σ.2.1 f' p' k'
  unfold upd
  by_cases a : f' = f ∧ p' = p
  · rw [if_pos a, if_pos a]
    by_cases b : k' = k
    · rw [if_pos ⟨a.1, a.2, b⟩, if_pos b]
    · rw [if_neg (fun q => b q.2.2), if_neg b]
  · rw [if_neg a, if_neg a, if_neg (fun q => a ⟨q.1, q.2.1⟩)]
theorem arrI_self (σ : Hp) (f p : Nat) : arrI σ f p (hI σ f p) = σ := by
  unfold arrI
  refine Prod.ext rfl (Prod.ext ?_ rfl)
  funext f' p' k'
  show (if f' = f ∧ p' = p then σ.2.1 f p k' else σ.2.1 f' p' k') = σ.2.1 f' p' k'
  split
  · rename_i h; rw [h.1, h.2]
  · rfl
theorem arrI_arrI (σ : Hp) (f p : Nat) (g g2 : Nat → Int32) : arrI (arrI σ f p g) f p g2 = arrI σ f p g2 := by
  unfold arrI
  refine Prod.ext rfl (Prod.ext ?_ rfl)
  funext f' p' k'
  show (if f' = f ∧ p' = p then g2 k' else if f' = f ∧ p' = p then g k' else σ.2.1 f' p' k') = if f' = f ∧ p' = p then g2 k' else σ.2.1 f' p' k'
  split <;> rfl
end
section
/-! the class's Reader, over the pad -/
def rh (σ : Hp) (n a : Nat) : Hp := setI (setI (setR σ 5 0 0 (some (2, 0))) 5 0 1 (nI n)) 5 0 2 (nI a)
theorem rh_at (σ : Hp) (n a b : Nat) : setI (rh σ n a) 5 0 2 (nI b) = rh σ n b := setI_setI _ _ _ _ _ _
/-- the pad holds the text t of n signs -/
def PadC (σ : Hp) (n : Nat) (t : Nat → Nat) : Prop := n ≤ 160 ∧ ∀ k, k < n → hI σ 2 0 k = nI (t k) ∧ t k < 128
def pTB (t : Nat → Nat) (n x y a : Nat) : Bool × Nat := if a < n ∧ x ≤ t a ∧ t a ≤ y then (true, a + 1) else (false, a)
def pT (t : Nat → Nat) (n c a : Nat) : Bool × Nat := pTB t n c c a
def isN (t : Nat → Nat) (n c a : Nat) : Bool := decide (a < n ∧ t a = c)
section
variable {σ : Hp} {n : Nat} {t : Nat → Nat}
theorem e_takeBetween (d : Nat) (hp : PadC σ n t) {x y a : Nat} (hx : x < 128) (hy : y < 128) (ha : a ≤ n) : EI d 34 [vr 5 0, vi (nI x), vi (nI y)] (rh σ n a) (bI (pTB t n x y a).1) (rh σ n (pTB t n x y a).2) := by
  refine EI_of mt_34 (Nat.le_of_ble_eq_true rfl) fun Q hq => ?_
  have hn := hp.1
  refine wp_ok (cut := []) ma_34 rfl 27 _ _ _ _ ?_
  show (((nI n) ≤ (nI a) → (((nI 0) = 0 ∨ (nI 0) = 1) ∧ (Q (some (vi (nI 0))) (rh σ n a) ∧ (rh σ n a).1 = (rh σ n a).1))) ∧ (¬ (nI n) ≤ (nI a) → (vp_in (nI a) 160 ∧ (((hI σ 2 0 ((nI a).toNatClampNeg)) < (nI x) → (((nI 0) = 0 ∨ (nI 0) = 1) ∧ (Q (some (vi (nI 0))) (rh σ n a) ∧ (rh σ n a).1 = (rh σ n a).1))) ∧ (¬ (hI σ 2 0 ((nI a).toNatClampNeg)) < (nI x) → (vp_in (nI a) 160 ∧ (((hI σ 2 0 ((nI a).toNatClampNeg)) ≤ (nI y) → (((nI 1) = 0 ∨ (nI 1) = 1) ∧ (Q (some (vi (nI 1))) (setI (rh σ n a) 5 0 2 ((nI a) + (nI 1))) ∧ (rh σ n a).1 = (rh σ n a).1))) ∧ (¬ (hI σ 2 0 ((nI a).toNatClampNeg)) ≤ (nI y) → (((nI 0) = 0 ∨ (nI 0) = 1) ∧ (Q (some (vi (nI 0))) (rh σ n a) ∧ (rh σ n a).1 = (rh σ n a).1))))))))))
  refine br_le (by omega) (by omega) (fun h => ?_) (fun h => ?_)
  · have e : pTB t n x y a = (false, a) := if_neg (by omega)
    rw [e] at hq
    exact ⟨Or.inl rfl, hq, rfl⟩
  · obtain ⟨h1, h2⟩ := hp.2 a h
    rw [ix (by omega), h1]
    refine ⟨inb (by omega) (by omega), br_lt (by omega) (by omega) (fun g => ?_) (fun g => ⟨inb (by omega) (by omega), br_le (by omega) (by omega) (fun k => ?_) (fun k => ?_)⟩)⟩
    · have e : pTB t n x y a = (false, a) := if_neg (by omega)
      rw [e] at hq
      exact ⟨Or.inl rfl, hq, rfl⟩
    · have e : pTB t n x y a = (true, a + 1) := if_pos (by omega)
      rw [e] at hq
      rw [addN, rh_at]
      exact ⟨Or.inr rfl, hq, rfl⟩
    · have e : pTB t n x y a = (false, a) := if_neg (by omega)
      rw [e] at hq
      exact ⟨Or.inl rfl, hq, rfl⟩
theorem e_isNext (d : Nat) (hp : PadC σ n t) {x a : Nat} (hx : x < 128) (ha : a ≤ n) : EI d 32 [vr 5 0, vi (nI x)] (rh σ n a) (bI (isN t n x a)) (rh σ n a) := by
  refine EI_of mt_32 (Nat.le_of_ble_eq_true rfl) fun Q hq => ?_
  have hn := hp.1
  refine wp_ok (cut := []) ma_32 rfl 15 _ _ _ _ ?_
  show (((nI n) ≤ (nI a) → (((nI 0) = 0 ∨ (nI 0) = 1) ∧ (Q (some (vi (nI 0))) (rh σ n a) ∧ (rh σ n a).1 = (rh σ n a).1))) ∧ (¬ (nI n) ≤ (nI a) → (vp_in (nI a) 160 ∧ ((¬ (hI σ 2 0 ((nI a).toNatClampNeg)) = (nI x) → (((nI 0) = 0 ∨ (nI 0) = 1) ∧ (Q (some (vi (nI 0))) (rh σ n a) ∧ (rh σ n a).1 = (rh σ n a).1))) ∧ ((hI σ 2 0 ((nI a).toNatClampNeg)) = (nI x) → (((nI 1) = 0 ∨ (nI 1) = 1) ∧ (Q (some (vi (nI 1))) (rh σ n a) ∧ (rh σ n a).1 = (rh σ n a).1)))))))
  refine br_le (by omega) (by omega) (fun h => ?_) (fun h => ?_)
  · have e : isN t n x a = false := decide_eq_false (by omega)
    rw [e] at hq
    exact ⟨Or.inl rfl, hq, rfl⟩
  · obtain ⟨h1, h2⟩ := hp.2 a h
    rw [ix (by omega), h1]
    refine ⟨inb (by omega) (by omega), br_ne (by omega) (by omega) (fun g => ?_) (fun g => ?_)⟩
    · have e : isN t n x a = false := decide_eq_false (by omega)
      rw [e] at hq
      exact ⟨Or.inl rfl, hq, rfl⟩
    · have e : isN t n x a = true := decide_eq_true (by omega)
      rw [e] at hq
      exact ⟨Or.inr rfl, hq, rfl⟩
theorem e_take (d : Nat) (hp : PadC σ n t) {x a : Nat} (hx : x < 128) (ha : a ≤ n) : EI (d + 1) 33 [vr 5 0, vi (nI x)] (rh σ n a) (bI (pT t n x a).1) (rh σ n (pT t n x a).2) := by
  refine EI_of mt_33 (Nat.le_of_ble_eq_true rfl) fun Q hq => ?_
  refine wp_ok (cut := []) ma_33 rfl 5 _ _ _ _ ?_
  show CalI true d 34 [vr 5 0, vi (nI x), vi (nI x)] (rh σ n a) ((rh σ n a).1) (fun x2 s1 => ((x2 = 0 ∨ x2 = 1) ∧ (Q (some (vi x2)) s1 ∧ s1.1 = (rh σ n a).1)))
  exact cal_i (e_takeBetween d hp hx hx ha) rfl ⟨bI_01 _, hq, rfl⟩
theorem pTB_le {x y a : Nat} (ha : a ≤ n) : (pTB t n x y a).2 ≤ n := by
  unfold pTB
  split
  · show a + 1 ≤ n; omega
  · exact ha
theorem pT_le {x a : Nat} (ha : a ≤ n) : (pT t n x a).2 ≤ n := pTB_le ha
/-- up to k letters or digits -/
def pNl (t : Nat → Nat) (n : Nat) : Nat → Nat → Nat
  | 0, a => a
  | k + 1, a => if (pTB t n 97 122 a).1 then pNl t n k (pTB t n 97 122 a).2 else if (pTB t n 48 57 a).1 then pNl t n k (pTB t n 48 57 a).2 else a
def pName (t : Nat → Nat) (n a : Nat) : Bool × Nat := if (pTB t n 97 122 a).1 then (true, pNl t n 7 (pTB t n 97 122 a).2) else (false, a)
theorem pTB_f {x y a : Nat} (h : (pTB t n x y a).1 = false) : (pTB t n x y a).2 = a := by
  unfold pTB at h ⊢
  split at h
  · cases h
  · rename_i q; rw [if_neg q]
theorem pNl_le : ∀ (k a : Nat), a ≤ n → pNl t n k a ≤ n := by
  intro k
  induction k with
  | zero => intro a h; exact h
  | succ k ih =>
    intro a h
    unfold pNl
    split
    · exact ih _ (pTB_le h)
    · split
      · exact ih _ (pTB_le h)
      · exact h
theorem pName_le {a : Nat} (ha : a ≤ n) : (pName t n a).2 ≤ n := by
  unfold pName
  split
  · exact pNl_le _ _ (pTB_le ha)
  · exact ha
theorem s_nameLoop (d : Nat) (hp : PadC σ n t) (Q : Option AV → Hp → Prop) : ∀ (k i a : Nat), i + k = 8 → a ≤ n → Q (some (vi (bI true))) (rh σ n (pNl t n k a)) → Sat true (d + 1) 41 σ.1 Q 15 [some (vr 5 0), some (vi (nI i))] [] (rh σ n a) := by
  intro k
  induction k with
  | zero =>
    intro i a hi ha hq
    refine wp_ok (cut := [15]) ma_41 rfl 15 _ _ _ _ ?_
    show (((nI 8) ≤ (nI i) → (((nI 1) = 0 ∨ (nI 1) = 1) ∧ (Q (some (vi (nI 1))) (rh σ n a) ∧ (rh σ n a).1 = σ.1))) ∧ (¬ (nI 8) ≤ (nI i) → CalI true d 34 [vr 5 0, vi (nI 97), vi (nI 122)] (rh σ n a) σ.1 (fun x2 s1 => ((¬ x2 = 0 → Sat true (d + 1) 41 σ.1 Q 15 [some (vr 5 0), some (vi ((nI i) + nI 1))] [] s1) ∧ (x2 = 0 → CalI true d 34 [vr 5 0, vi (nI 48), vi (nI 57)] s1 σ.1 (fun x4 s3 => ((x4 = 0 → (((nI 1) = 0 ∨ (nI 1) = 1) ∧ (Q (some (vi (nI 1))) s3 ∧ s3.1 = σ.1))) ∧ (¬ x4 = 0 → Sat true (d + 1) 41 σ.1 Q 15 [some (vr 5 0), some (vi ((nI i) + nI 1))] [] s3))))))))
    exact br_le (by omega) (by omega) (fun h => ⟨Or.inr rfl, hq, rfl⟩) (fun h => by omega)
  | succ k ih =>
    intro i a hi ha hq
    refine wp_ok (cut := [15]) ma_41 rfl 15 _ _ _ _ ?_
    show (((nI 8) ≤ (nI i) → (((nI 1) = 0 ∨ (nI 1) = 1) ∧ (Q (some (vi (nI 1))) (rh σ n a) ∧ (rh σ n a).1 = σ.1))) ∧ (¬ (nI 8) ≤ (nI i) → CalI true d 34 [vr 5 0, vi (nI 97), vi (nI 122)] (rh σ n a) σ.1 (fun x2 s1 => ((¬ x2 = 0 → Sat true (d + 1) 41 σ.1 Q 15 [some (vr 5 0), some (vi ((nI i) + nI 1))] [] s1) ∧ (x2 = 0 → CalI true d 34 [vr 5 0, vi (nI 48), vi (nI 57)] s1 σ.1 (fun x4 s3 => ((x4 = 0 → (((nI 1) = 0 ∨ (nI 1) = 1) ∧ (Q (some (vi (nI 1))) s3 ∧ s3.1 = σ.1))) ∧ (¬ x4 = 0 → Sat true (d + 1) 41 σ.1 Q 15 [some (vr 5 0), some (vi ((nI i) + nI 1))] [] s3))))))))
    refine br_le (by omega) (by omega) (fun h => by omega) (fun h => ?_)
    refine cal_i (e_takeBetween d hp (by omega) (by omega) ha) rfl ?_
    unfold pNl at hq
    cases h1 : (pTB t n 97 122 a).1 with
    | true =>
      rw [h1, if_pos rfl] at hq
      refine b_t' ?_
      rw [addN]
      exact ih (i + 1) _ (by omega) (pTB_le ha) hq
    | false =>
      rw [h1, if_neg (by decide)] at hq
      refine b_f' ?_
      rw [pTB_f h1]
      refine cal_i (e_takeBetween d hp (by omega) (by omega) ha) rfl ?_
      cases h2 : (pTB t n 48 57 a).1 with
      | true =>
        rw [h2, if_pos rfl] at hq
        refine b_t ?_
        rw [addN]
        exact ih (i + 1) _ (by omega) (pTB_le ha) hq
      | false =>
        rw [h2, if_neg (by decide)] at hq
        refine b_f ?_
        rw [pTB_f h2]
        exact ⟨Or.inr rfl, hq, rfl⟩
theorem e_takeName (d : Nat) (hp : PadC σ n t) {a : Nat} (ha : a ≤ n) : EI (d + 1) 41 [vr 5 0] (rh σ n a) (bI (pName t n a).1) (rh σ n (pName t n a).2) := by
  refine EI_of mt_41 (Nat.le_of_ble_eq_true rfl) fun Q hq => ?_
  refine wp_ok (cut := [15]) ma_41 rfl 7 _ _ _ _ ?_
  show CalI true d 34 [vr 5 0, vi (nI 97), vi (nI 122)] (rh σ n a) ((rh σ n a).1) (fun x2 s1 => ((¬ x2 = 0 → Sat true (d + 1) 41 ((rh σ n a).1) Q 15 [some (vr 5 0), some (vi (nI 1))] [] s1) ∧ (x2 = 0 → (((nI 0) = 0 ∨ (nI 0) = 1) ∧ (Q (some (vi (nI 0))) s1 ∧ s1.1 = (rh σ n a).1)))))
  refine cal_i (e_takeBetween d hp (by omega) (by omega) ha) rfl ?_
  unfold pName at hq
  cases h1 : (pTB t n 97 122 a).1 with
  | true =>
    rw [h1, if_pos rfl] at hq
    exact b_t' (s_nameLoop d hp Q 7 1 _ (by omega) (pTB_le ha) hq)
  | false =>
    rw [h1, if_neg (by decide)] at hq
    refine b_f' ?_
    rw [pTB_f h1]
    exact ⟨Or.inl rfl, hq, rfl⟩
def pAnchor (t : Nat → Nat) (n a : Nat) : Bool × Nat :=
  match pT t n 35 a with
  | (false, a1) => (false, a1)
  | (true, a1) => match pName t n a1 with
    | (false, a2) => (false, a2)
    | (true, a2) => match pT t n 45 a2 with
      | (false, a3) => (true, a3)
      | (true, a3) => match pTB t n 49 57 a3 with
        | (false, a4) => (false, a4)
        | (true, a4) => (true, (pTB t n 48 57 a4).2)
theorem e_takeAnchor (d : Nat) (hp : PadC σ n t) {a : Nat} (ha : a ≤ n) : EI (d + 2) 40 [vr 5 0] (rh σ n a) (bI (pAnchor t n a).1) (rh σ n (pAnchor t n a).2) := by
  refine EI_of mt_40 (Nat.le_of_ble_eq_true rfl) fun Q hq => ?_
  refine wp_ok (cut := []) ma_40 rfl 23 _ _ _ _ ?_
  show CalI true (d + 1) 33 [vr 5 0, vi (nI 35)] (rh σ n a) ((rh σ n a).1) (fun x2 s1 => ((x2 = 0 → (((nI 0) = 0 ∨ (nI 0) = 1) ∧ (Q (some (vi (nI 0))) s1 ∧ s1.1 = (rh σ n a).1))) ∧ (¬ x2 = 0 → CalI true (d + 1) 41 [vr 5 0] s1 ((rh σ n a).1) (fun x4 s3 => ((¬ x4 = 0 → CalI true (d + 1) 33 [vr 5 0, vi (nI 45)] s3 ((rh σ n a).1) (fun x6 s5 => ((¬ x6 = 0 → CalI true (d + 1) 34 [vr 5 0, vi (nI 49), vi (nI 57)] s5 ((rh σ n a).1) (fun x8 s7 => ((¬ x8 = 0 → CalI true (d + 1) 34 [vr 5 0, vi (nI 48), vi (nI 57)] s7 ((rh σ n a).1) (fun x10 s9 => (((nI 1) = 0 ∨ (nI 1) = 1) ∧ (Q (some (vi (nI 1))) s9 ∧ s9.1 = (rh σ n a).1)))) ∧ (x8 = 0 → (((nI 0) = 0 ∨ (nI 0) = 1) ∧ (Q (some (vi (nI 0))) s7 ∧ s7.1 = (rh σ n a).1)))))) ∧ (x6 = 0 → (((nI 1) = 0 ∨ (nI 1) = 1) ∧ (Q (some (vi (nI 1))) s5 ∧ s5.1 = (rh σ n a).1)))))) ∧ (x4 = 0 → (((nI 0) = 0 ∨ (nI 0) = 1) ∧ (Q (some (vi (nI 0))) s3 ∧ s3.1 = (rh σ n a).1))))))))
  unfold pAnchor at hq
  refine cal_i (e_take d hp (by omega) ha) rfl ?_
  have l1 := pT_le (t := t) (x := 35) ha
  rcases h1 : pT t n 35 a with ⟨b, a1⟩
  rw [h1] at hq l1
  cases b with
  | false => exact b_f ⟨Or.inl rfl, hq, rfl⟩
  | true =>
    refine b_t (cal_i (e_takeName d hp l1) rfl ?_)
    have l2 := pName_le (t := t) l1
    rcases h2 : pName t n a1 with ⟨b, a2⟩
    simp only [h2] at hq l2
    cases b with
    | false => exact b_f' ⟨Or.inl rfl, hq, rfl⟩
    | true =>
      refine b_t' (cal_i (e_take d hp (by omega) l2) rfl ?_)
      have l3 := pT_le (t := t) (x := 45) l2
      rcases h3 : pT t n 45 a2 with ⟨b, a3⟩
      simp only [h3] at hq l3
      cases b with
      | false => exact b_f' ⟨Or.inr rfl, hq, rfl⟩
      | true =>
        refine b_t' (cal_i (e_takeBetween (d + 1) hp (by omega) (by omega) l3) rfl ?_)
        have l4 := pTB_le (t := t) (x := 49) (y := 57) l3
        rcases h4 : pTB t n 49 57 a3 with ⟨b, a4⟩
        simp only [h4] at hq l4
        cases b with
        | false => exact b_f' ⟨Or.inl rfl, hq, rfl⟩
        | true => exact b_t' (cal_i (e_takeBetween (d + 1) hp (by omega) (by omega) l4) rfl ⟨Or.inr rfl, hq, rfl⟩)
end
end
section
/-! the class's Reader: lines, pages, redirects -/
def pPlace (t : Nat → Nat) (n a : Nat) : Bool × Nat :=
  match pTB t n 65 76 a with
  | (false, a1) => (false, a1)
  | (true, a1) => if isN t n 35 a1 then pAnchor t n a1 else (true, a1)
def pEq (t : Nat → Nat) (n : Nat) : Nat → Nat → Nat
  | 0, a => a
  | k + 1, a => pEq t n k (pT t n 61 a).2
def pHead (t : Nat → Nat) (n a : Nat) : Bool × Nat := pName t n (pEq t n 3 a)
def pIncl (t : Nat → Nat) (n a : Nat) : Bool × Nat :=
  match pT t n 123 a with
  | (false, a1) => (false, a1)
  | (true, a1) => match pTB t n 65 76 a1 with
    | (false, a2) => (false, a2)
    | (true, a2) => match pT t n 43 a2 with
      | (false, a3) => pT t n 125 a3
      | (true, a3) => match pTB t n 48 50 a3 with
        | (false, a4) => (false, a4)
        | (true, a4) => pT t n 125 a4
def pElem (t : Nat → Nat) (n a : Nat) : Bool × Nat :=
  match pT t n 91 a with
  | (false, a1) => pName t n a1
  | (true, a1) => match pTB t n 65 76 a1 with
    | (b, a2) => if isN t n 35 a2 then (match pAnchor t n a2 with
      | (false, a3) => (false, a3)
      | (true, a3) => pT t n 93 a3) else if b then pT t n 93 a2 else (false, a2)
def pEls (t : Nat → Nat) (n : Nat) : Nat → Nat → Bool × Nat
  | 0, a => (false, a)
  | k + 1, a => match pElem t n a with
    | (false, a1) => (false, a1)
    | (true, a1) => match pT t n 44 a1 with
      | (false, a2) => (true, a2)
      | (true, a2) => pEls t n k a2
def pLine (t : Nat → Nat) (n a : Nat) : Bool × Nat := if isN t n 61 a then pHead t n a else if isN t n 123 a then pIncl t n a else pEls t n (n + 1) a
/-- the fault; none: there is none -/
def pPg (t : Nat → Nat) (n : Nat) : Nat → Nat → Option Nat
  | 0, a => some a
  | k + 1, a => match pLine t n a with
    | (false, a1) => some a1
    | (true, a1) => match pT t n 59 a1 with
      | (false, a2) => if a2 = n then none else some a2
      | (true, a2) => pPg t n k a2
def pageF (t : Nat → Nat) (n : Nat) : Option Nat := pPg t n (n + 1) 0
def redF (t : Nat → Nat) (n : Nat) : Option Nat :=
  match pPlace t n 0 with
  | (false, a1) => some a1
  | (true, a1) => match pT t n 62 a1 with
    | (false, a2) => some a2
    | (true, a2) => match pPlace t n a2 with
      | (false, a3) => some a3
      | (true, a3) => if a3 = n then none else some a3
def fI (o : Option Nat) : Int32 := match o with
  | none => -6
  | some a => nI a
section
variable {σ : Hp} {n : Nat} {t : Nat → Nat}
theorem pAnchor_le {a : Nat} (ha : a ≤ n) : (pAnchor t n a).2 ≤ n := by
  unfold pAnchor
  have l1 := pT_le (t := t) (x := 35) ha
  split
  · rename_i a1 h1; rw [h1] at l1; exact l1
  · rename_i a1 h1
    rw [h1] at l1
    have l2 := pName_le (t := t) l1
    split
    · rename_i a2 h2; rw [h2] at l2; exact l2
    · rename_i a2 h2
      rw [h2] at l2
      have l3 := pT_le (t := t) (x := 45) l2
      split
      · rename_i a3 h3; rw [h3] at l3; exact l3
      · rename_i a3 h3
        rw [h3] at l3
        have l4 := pTB_le (t := t) (x := 49) (y := 57) l3
        split
        · rename_i a4 h4; rw [h4] at l4; exact l4
        · rename_i a4 h4; rw [h4] at l4; exact pTB_le l4
theorem pPlace_le {a : Nat} (ha : a ≤ n) : (pPlace t n a).2 ≤ n := by
  unfold pPlace
  have l1 := pTB_le (t := t) (x := 65) (y := 76) ha
  split
  · rename_i a1 h1; rw [h1] at l1; exact l1
  · rename_i a1 h1
    rw [h1] at l1
    split
    · exact pAnchor_le l1
    · exact l1
theorem pEq_le : ∀ (k a : Nat), a ≤ n → pEq t n k a ≤ n := by
  intro k
  induction k with
  | zero => intro a h; exact h
  | succ k ih => intro a h; exact ih _ (pT_le h)
theorem pHead_le {a : Nat} (ha : a ≤ n) : (pHead t n a).2 ≤ n := pName_le (pEq_le 3 a ha)
theorem pIncl_le {a : Nat} (ha : a ≤ n) : (pIncl t n a).2 ≤ n := by
  unfold pIncl
  have l1 := pT_le (t := t) (x := 123) ha
  split
  · rename_i a1 h1; rw [h1] at l1; exact l1
  · rename_i a1 h1
    rw [h1] at l1
    have l2 := pTB_le (t := t) (x := 65) (y := 76) l1
    split
    · rename_i a2 h2; rw [h2] at l2; exact l2
    · rename_i a2 h2
      rw [h2] at l2
      have l3 := pT_le (t := t) (x := 43) l2
      split
      · rename_i a3 h3; rw [h3] at l3; exact pT_le l3
      · rename_i a3 h3
        rw [h3] at l3
        have l4 := pTB_le (t := t) (x := 48) (y := 50) l3
        split
        · rename_i a4 h4; rw [h4] at l4; exact l4
        · rename_i a4 h4; rw [h4] at l4; exact pT_le l4
theorem pElem_le {a : Nat} (ha : a ≤ n) : (pElem t n a).2 ≤ n := by
  unfold pElem
  have l1 := pT_le (t := t) (x := 91) ha
  split
  · rename_i a1 h1; rw [h1] at l1; exact pName_le l1
  · rename_i a1 h1
    rw [h1] at l1
    have l2 := pTB_le (t := t) (x := 65) (y := 76) l1
    split
    rename_i b a2 h2
    rw [h2] at l2
    split
    · have l3 := pAnchor_le (t := t) l2
      split
      · rename_i a3 h3; rw [h3] at l3; exact l3
      · rename_i a3 h3; rw [h3] at l3; exact pT_le l3
    · split
      · exact pT_le l2
      · exact l2
theorem pEls_le : ∀ (k a : Nat), a ≤ n → (pEls t n k a).2 ≤ n := by
  intro k
  induction k with
  | zero => intro a h; exact h
  | succ k ih =>
    intro a h
    unfold pEls
    have l1 := pElem_le (t := t) h
    split
    · rename_i a1 h1; rw [h1] at l1; exact l1
    · rename_i a1 h1
      rw [h1] at l1
      have l2 := pT_le (t := t) (x := 44) l1
      split
      · rename_i a2 h2; rw [h2] at l2; exact l2
      · rename_i a2 h2; rw [h2] at l2; exact ih _ l2
theorem pLine_le {a : Nat} (ha : a ≤ n) : (pLine t n a).2 ≤ n := by
  unfold pLine
  split
  · exact pHead_le ha
  · split
    · exact pIncl_le ha
    · exact pEls_le _ _ ha
theorem e_takePlace (d : Nat) (hp : PadC σ n t) {a : Nat} (ha : a ≤ n) : EI (d + 3) 39 [vr 5 0] (rh σ n a) (bI (pPlace t n a).1) (rh σ n (pPlace t n a).2) := by
  refine EI_of mt_39 (Nat.le_of_ble_eq_true rfl) fun Q hq => ?_
  refine wp_ok (cut := []) ma_39 rfl 15 _ _ _ _ ?_
  show CalI true (d + 2) 34 [vr 5 0, vi (nI 65), vi (nI 76)] (rh σ n a) ((rh σ n a).1) (fun x2 s1 => ((x2 = 0 → (((nI 0) = 0 ∨ (nI 0) = 1) ∧ (Q (some (vi (nI 0))) s1 ∧ s1.1 = (rh σ n a).1))) ∧ (¬ x2 = 0 → CalI true (d + 2) 32 [vr 5 0, vi (nI 35)] s1 ((rh σ n a).1) (fun x4 s3 => ((x4 = 0 → (((nI 1) = 0 ∨ (nI 1) = 1) ∧ (Q (some (vi (nI 1))) s3 ∧ s3.1 = (rh σ n a).1))) ∧ (¬ x4 = 0 → CalI true (d + 2) 40 [vr 5 0] s3 ((rh σ n a).1) (fun x6 s5 => ((x6 = 0 → (((nI 0) = 0 ∨ (nI 0) = 1) ∧ (Q (some (vi (nI 0))) s5 ∧ s5.1 = (rh σ n a).1))) ∧ (¬ x6 = 0 → (((nI 1) = 0 ∨ (nI 1) = 1) ∧ (Q (some (vi (nI 1))) s5 ∧ s5.1 = (rh σ n a).1)))))))))))
  unfold pPlace at hq
  refine cal_i (e_takeBetween (d + 2) hp (by omega) (by omega) ha) rfl ?_
  have l1 := pTB_le (t := t) (x := 65) (y := 76) ha
  rcases h1 : pTB t n 65 76 a with ⟨b, a1⟩
  rw [h1] at hq l1
  cases b with
  | false => exact b_f ⟨Or.inl rfl, hq, rfl⟩
  | true =>
    refine b_t (cal_i (e_isNext (d + 2) hp (by omega) l1) rfl ?_)
    dsimp only at hq
    cases h2 : isN t n 35 a1 with
    | false =>
      rw [h2, if_neg (by decide)] at hq
      exact b_f ⟨Or.inr rfl, hq, rfl⟩
    | true =>
      rw [h2, if_pos rfl] at hq
      refine b_t (cal_i (e_takeAnchor d hp l1) rfl ?_)
      rcases h3 : pAnchor t n a1 with ⟨b, a2⟩
      rw [h3] at hq
      cases b with
      | false => exact b_f ⟨Or.inl rfl, hq, rfl⟩
      | true => exact b_t ⟨Or.inr rfl, hq, rfl⟩
theorem s_headLoop (d : Nat) (hp : PadC σ n t) (Q : Option AV → Hp → Prop) : ∀ (k i a : Nat), i + k = 3 → a ≤ n → Q (some (vi (bI (pName t n (pEq t n k a)).1))) (rh σ n (pName t n (pEq t n k a)).2) → Sat true (d + 2) 36 σ.1 Q 2 [some (vr 5 0), some (vi (nI i))] [] (rh σ n a) := by
  intro k
  induction k with
  | zero =>
    intro i a hi ha hq
    refine wp_ok (cut := [2]) ma_36 rfl 9 _ _ _ _ ?_
    show (((nI 3) ≤ (nI i) → CalI true (d + 1) 41 [vr 5 0] (rh σ n a) σ.1 (fun x2 s1 => ((x2 = 0 ∨ x2 = 1) ∧ (Q (some (vi x2)) s1 ∧ s1.1 = σ.1)))) ∧ (¬ (nI 3) ≤ (nI i) → CalI true (d + 1) 33 [vr 5 0, vi (nI 61)] (rh σ n a) σ.1 (fun x4 s3 => Sat true (d + 2) 36 σ.1 Q 2 [some (vr 5 0), some (vi ((nI i) + nI 1))] [] s3)))
    exact br_le (by omega) (by omega) (fun h => cal_i (e_takeName d hp ha) rfl ⟨bI_01 _, hq, rfl⟩) (fun h => by omega)
  | succ k ih =>
    intro i a hi ha hq
    refine wp_ok (cut := [2]) ma_36 rfl 9 _ _ _ _ ?_
    show (((nI 3) ≤ (nI i) → CalI true (d + 1) 41 [vr 5 0] (rh σ n a) σ.1 (fun x2 s1 => ((x2 = 0 ∨ x2 = 1) ∧ (Q (some (vi x2)) s1 ∧ s1.1 = σ.1)))) ∧ (¬ (nI 3) ≤ (nI i) → CalI true (d + 1) 33 [vr 5 0, vi (nI 61)] (rh σ n a) σ.1 (fun x4 s3 => Sat true (d + 2) 36 σ.1 Q 2 [some (vr 5 0), some (vi ((nI i) + nI 1))] [] s3)))
    refine br_le (by omega) (by omega) (fun h => by omega) (fun h => ?_)
    refine cal_i (e_take d hp (by omega) ha) rfl ?_
    rw [addN]
    exact ih (i + 1) _ (by omega) (pT_le ha) hq
theorem e_takeHeading (d : Nat) (hp : PadC σ n t) {a : Nat} (ha : a ≤ n) : EI (d + 2) 36 [vr 5 0] (rh σ n a) (bI (pHead t n a).1) (rh σ n (pHead t n a).2) := by
  refine EI_of mt_36 (Nat.le_of_ble_eq_true rfl) fun Q hq => ?_
  refine wp_ok (cut := [2]) ma_36 rfl 2 _ _ _ _ ?_
  show Sat true (d + 2) 36 ((rh σ n a).1) Q 2 [some (vr 5 0), some (vi (nI 0))] [] (rh σ n a)
  exact s_headLoop d hp Q 3 0 a (by omega) ha hq
theorem e_takeInclude (d : Nat) (hp : PadC σ n t) {a : Nat} (ha : a ≤ n) : EI (d + 2) 37 [vr 5 0] (rh σ n a) (bI (pIncl t n a).1) (rh σ n (pIncl t n a).2) := by
  refine EI_of mt_37 (Nat.le_of_ble_eq_true rfl) fun Q hq => ?_
  refine wp_ok (cut := []) ma_37 rfl 22 _ _ _ _ ?_
  show CalI true (d + 1) 33 [vr 5 0, vi (nI 123)] (rh σ n a) ((rh σ n a).1) (fun x2 s1 => ((x2 = 0 → (((nI 0) = 0 ∨ (nI 0) = 1) ∧ (Q (some (vi (nI 0))) s1 ∧ s1.1 = (rh σ n a).1))) ∧ (¬ x2 = 0 → CalI true (d + 1) 34 [vr 5 0, vi (nI 65), vi (nI 76)] s1 ((rh σ n a).1) (fun x4 s3 => ((¬ x4 = 0 → CalI true (d + 1) 33 [vr 5 0, vi (nI 43)] s3 ((rh σ n a).1) (fun x6 s5 => ((x6 = 0 → CalI true (d + 1) 33 [vr 5 0, vi (nI 125)] s5 ((rh σ n a).1) (fun x8 s7 => ((x8 = 0 ∨ x8 = 1) ∧ (Q (some (vi x8)) s7 ∧ s7.1 = (rh σ n a).1)))) ∧ (¬ x6 = 0 → CalI true (d + 1) 34 [vr 5 0, vi (nI 48), vi (nI 50)] s5 ((rh σ n a).1) (fun x10 s9 => ((¬ x10 = 0 → CalI true (d + 1) 33 [vr 5 0, vi (nI 125)] s9 ((rh σ n a).1) (fun x12 s11 => ((x12 = 0 ∨ x12 = 1) ∧ (Q (some (vi x12)) s11 ∧ s11.1 = (rh σ n a).1)))) ∧ (x10 = 0 → (((nI 0) = 0 ∨ (nI 0) = 1) ∧ (Q (some (vi (nI 0))) s9 ∧ s9.1 = (rh σ n a).1))))))))) ∧ (x4 = 0 → (((nI 0) = 0 ∨ (nI 0) = 1) ∧ (Q (some (vi (nI 0))) s3 ∧ s3.1 = (rh σ n a).1))))))))
  unfold pIncl at hq
  refine cal_i (e_take d hp (by omega) ha) rfl ?_
  have l1 := pT_le (t := t) (x := 123) ha
  rcases h1 : pT t n 123 a with ⟨b, a1⟩
  rw [h1] at hq l1
  cases b with
  | false => exact b_f ⟨Or.inl rfl, hq, rfl⟩
  | true =>
    refine b_t (cal_i (e_takeBetween (d + 1) hp (by omega) (by omega) l1) rfl ?_)
    have l2 := pTB_le (t := t) (x := 65) (y := 76) l1
    rcases h2 : pTB t n 65 76 a1 with ⟨b, a2⟩
    simp only [h2] at hq l2
    cases b with
    | false => exact b_f' ⟨Or.inl rfl, hq, rfl⟩
    | true =>
      refine b_t' (cal_i (e_take d hp (by omega) l2) rfl ?_)
      have l3 := pT_le (t := t) (x := 43) l2
      rcases h3 : pT t n 43 a2 with ⟨b, a3⟩
      simp only [h3] at hq l3
      cases b with
      | false => exact b_f (cal_i (e_take d hp (by omega) l3) rfl ⟨bI_01 _, hq, rfl⟩)
      | true =>
        refine b_t (cal_i (e_takeBetween (d + 1) hp (by omega) (by omega) l3) rfl ?_)
        have l4 := pTB_le (t := t) (x := 48) (y := 50) l3
        rcases h4 : pTB t n 48 50 a3 with ⟨b, a4⟩
        simp only [h4] at hq l4
        cases b with
        | false => exact b_f' ⟨Or.inl rfl, hq, rfl⟩
        | true => exact b_t' (cal_i (e_take d hp (by omega) l4) rfl ⟨bI_01 _, hq, rfl⟩)
theorem e_takeElement (d : Nat) (hp : PadC σ n t) {a : Nat} (ha : a ≤ n) : EI (d + 3) 38 [vr 5 0] (rh σ n a) (bI (pElem t n a).1) (rh σ n (pElem t n a).2) := by
  refine EI_of mt_38 (Nat.le_of_ble_eq_true rfl) fun Q hq => ?_
  refine wp_ok (cut := []) ma_38 rfl 23 _ _ _ _ ?_
  show CalI true (d + 2) 33 [vr 5 0, vi (nI 91)] (rh σ n a) ((rh σ n a).1) (fun x2 s1 => ((¬ x2 = 0 → CalI true (d + 2) 34 [vr 5 0, vi (nI 65), vi (nI 76)] s1 ((rh σ n a).1) (fun x4 s3 => CalI true (d + 2) 32 [vr 5 0, vi (nI 35)] s3 ((rh σ n a).1) (fun x6 s5 => ((x6 = 0 → ((x4 = 0 → (((nI 0) = 0 ∨ (nI 0) = 1) ∧ (Q (some (vi (nI 0))) s5 ∧ s5.1 = (rh σ n a).1))) ∧ (¬ x4 = 0 → CalI true (d + 2) 33 [vr 5 0, vi (nI 93)] s5 ((rh σ n a).1) (fun x8 s7 => ((x8 = 0 → (((nI 0) = 0 ∨ (nI 0) = 1) ∧ (Q (some (vi (nI 0))) s7 ∧ s7.1 = (rh σ n a).1))) ∧ (¬ x8 = 0 → (((nI 1) = 0 ∨ (nI 1) = 1) ∧ (Q (some (vi (nI 1))) s7 ∧ s7.1 = (rh σ n a).1)))))))) ∧ (¬ x6 = 0 → CalI true (d + 2) 40 [vr 5 0] s5 ((rh σ n a).1) (fun x10 s9 => ((x10 = 0 → (((nI 0) = 0 ∨ (nI 0) = 1) ∧ (Q (some (vi (nI 0))) s9 ∧ s9.1 = (rh σ n a).1))) ∧ (¬ x10 = 0 → CalI true (d + 2) 33 [vr 5 0, vi (nI 93)] s9 ((rh σ n a).1) (fun x12 s11 => ((x12 = 0 → (((nI 0) = 0 ∨ (nI 0) = 1) ∧ (Q (some (vi (nI 0))) s11 ∧ s11.1 = (rh σ n a).1))) ∧ (¬ x12 = 0 → (((nI 1) = 0 ∨ (nI 1) = 1) ∧ (Q (some (vi (nI 1))) s11 ∧ s11.1 = (rh σ n a).1))))))))))))) ∧ (x2 = 0 → CalI true (d + 2) 41 [vr 5 0] s1 ((rh σ n a).1) (fun x14 s13 => ((x14 = 0 ∨ x14 = 1) ∧ (Q (some (vi x14)) s13 ∧ s13.1 = (rh σ n a).1))))))
  unfold pElem at hq
  refine cal_i (e_take (d + 1) hp (by omega) ha) rfl ?_
  have l1 := pT_le (t := t) (x := 91) ha
  rcases h1 : pT t n 91 a with ⟨b, a1⟩
  rw [h1] at hq l1
  cases b with
  | false => exact b_f' (cal_i (e_takeName (d + 1) hp l1) rfl ⟨bI_01 _, hq, rfl⟩)
  | true =>
    refine b_t' (cal_i (e_takeBetween (d + 2) hp (by omega) (by omega) l1) rfl ?_)
    have l2 := pTB_le (t := t) (x := 65) (y := 76) l1
    rcases h2 : pTB t n 65 76 a1 with ⟨b, a2⟩
    simp only [h2] at hq l2
    refine cal_i (e_isNext (d + 2) hp (by omega) l2) rfl ?_
    cases h3 : isN t n 35 a2 with
    | true =>
      rw [h3, if_pos rfl] at hq
      refine b_t (cal_i (e_takeAnchor d hp l2) rfl ?_)
      have l4 := pAnchor_le (t := t) l2
      rcases h4 : pAnchor t n a2 with ⟨b4, a3⟩
      simp only [h4] at hq l4
      cases b4 with
      | false => exact b_f ⟨Or.inl rfl, hq, rfl⟩
      | true =>
        refine b_t (cal_i (e_take (d + 1) hp (by omega) l4) rfl ?_)
        rcases h5 : pT t n 93 a3 with ⟨b5, a4⟩
        simp only [h5] at hq
        cases b5 with
        | false => exact b_f ⟨Or.inl rfl, hq, rfl⟩
        | true => exact b_t ⟨Or.inr rfl, hq, rfl⟩
    | false =>
      rw [h3, if_neg (by decide)] at hq
      refine b_f ?_
      cases b with
      | false =>
        rw [if_neg (by decide)] at hq
        exact b_f ⟨Or.inl rfl, hq, rfl⟩
      | true =>
        rw [if_pos rfl] at hq
        refine b_t (cal_i (e_take (d + 1) hp (by omega) l2) rfl ?_)
        rcases h5 : pT t n 93 a2 with ⟨b5, a4⟩
        simp only [h5] at hq
        cases b5 with
        | false => exact b_f ⟨Or.inl rfl, hq, rfl⟩
        | true => exact b_t ⟨Or.inr rfl, hq, rfl⟩
theorem s_elsLoop (d : Nat) (hp : PadC σ n t) (Q : Option AV → Hp → Prop) : ∀ (k i a : Nat), i + k = n + 1 → a ≤ n → Q (some (vi (bI (pEls t n k a).1))) (rh σ n (pEls t n k a).2) → Sat true (d + 4) 35 σ.1 Q 30 [some (vr 5 0), some (vi (nI i))] [] (rh σ n a) := by
  have hn := hp.1
  intro k
  induction k with
  | zero =>
    intro i a hi ha hq
    refine wp_ok (cut := [30]) ma_35 rfl 13 _ _ _ _ ?_
    show (((nI n) < (nI i) → (((nI 0) = 0 ∨ (nI 0) = 1) ∧ (Q (some (vi (nI 0))) (rh σ n a) ∧ (rh σ n a).1 = σ.1))) ∧ (¬ (nI n) < (nI i) → CalI true (d + 3) 38 [vr 5 0] (rh σ n a) σ.1 (fun x2 s1 => ((¬ x2 = 0 → CalI true (d + 3) 33 [vr 5 0, vi (nI 44)] s1 σ.1 (fun x4 s3 => ((¬ x4 = 0 → Sat true (d + 4) 35 σ.1 Q 30 [some (vr 5 0), some (vi ((nI i) + nI 1))] [] s3) ∧ (x4 = 0 → (((nI 1) = 0 ∨ (nI 1) = 1) ∧ (Q (some (vi (nI 1))) s3 ∧ s3.1 = σ.1)))))) ∧ (x2 = 0 → (((nI 0) = 0 ∨ (nI 0) = 1) ∧ (Q (some (vi (nI 0))) s1 ∧ s1.1 = σ.1)))))))
    exact br_lt (by omega) (by omega) (fun h => ⟨Or.inl rfl, hq, rfl⟩) (fun h => by omega)
  | succ k ih =>
    intro i a hi ha hq
    refine wp_ok (cut := [30]) ma_35 rfl 13 _ _ _ _ ?_
    show (((nI n) < (nI i) → (((nI 0) = 0 ∨ (nI 0) = 1) ∧ (Q (some (vi (nI 0))) (rh σ n a) ∧ (rh σ n a).1 = σ.1))) ∧ (¬ (nI n) < (nI i) → CalI true (d + 3) 38 [vr 5 0] (rh σ n a) σ.1 (fun x2 s1 => ((¬ x2 = 0 → CalI true (d + 3) 33 [vr 5 0, vi (nI 44)] s1 σ.1 (fun x4 s3 => ((¬ x4 = 0 → Sat true (d + 4) 35 σ.1 Q 30 [some (vr 5 0), some (vi ((nI i) + nI 1))] [] s3) ∧ (x4 = 0 → (((nI 1) = 0 ∨ (nI 1) = 1) ∧ (Q (some (vi (nI 1))) s3 ∧ s3.1 = σ.1)))))) ∧ (x2 = 0 → (((nI 0) = 0 ∨ (nI 0) = 1) ∧ (Q (some (vi (nI 0))) s1 ∧ s1.1 = σ.1)))))))
    refine br_lt (by omega) (by omega) (fun h => by omega) (fun h => ?_)
    refine cal_i (e_takeElement d hp ha) rfl ?_
    unfold pEls at hq
    have l1 := pElem_le (t := t) ha
    rcases h1 : pElem t n a with ⟨b, a1⟩
    rw [h1] at hq l1
    cases b with
    | false => exact b_f' ⟨Or.inl rfl, hq, rfl⟩
    | true =>
      refine b_t' (cal_i (e_take (d + 2) hp (by omega) l1) rfl ?_)
      have l2 := pT_le (t := t) (x := 44) l1
      rcases h2 : pT t n 44 a1 with ⟨b, a2⟩
      simp only [h2] at hq l2
      cases b with
      | false => exact b_f' ⟨Or.inr rfl, hq, rfl⟩
      | true =>
        refine b_t' ?_
        rw [addN]
        exact ih (i + 1) a2 (by omega) l2 hq
theorem e_takeLine (d : Nat) (hp : PadC σ n t) {a : Nat} (ha : a ≤ n) : EI (d + 4) 35 [vr 5 0] (rh σ n a) (bI (pLine t n a).1) (rh σ n (pLine t n a).2) := by
  refine EI_of mt_35 (Nat.le_of_ble_eq_true rfl) fun Q hq => ?_
  refine wp_ok (cut := [30]) ma_35 rfl 11 _ _ _ _ ?_
  show CalI true (d + 3) 32 [vr 5 0, vi (nI 61)] (rh σ n a) ((rh σ n a).1) (fun x2 s1 => ((x2 = 0 → CalI true (d + 3) 32 [vr 5 0, vi (nI 123)] s1 ((rh σ n a).1) (fun x4 s3 => ((x4 = 0 → Sat true (d + 4) 35 ((rh σ n a).1) Q 30 [some (vr 5 0), some (vi (nI 0))] [] s3) ∧ (¬ x4 = 0 → CalI true (d + 3) 37 [vr 5 0] s3 ((rh σ n a).1) (fun x6 s5 => ((x6 = 0 ∨ x6 = 1) ∧ (Q (some (vi x6)) s5 ∧ s5.1 = (rh σ n a).1))))))) ∧ (¬ x2 = 0 → CalI true (d + 3) 36 [vr 5 0] s1 ((rh σ n a).1) (fun x8 s7 => ((x8 = 0 ∨ x8 = 1) ∧ (Q (some (vi x8)) s7 ∧ s7.1 = (rh σ n a).1))))))
  unfold pLine at hq
  refine cal_i (e_isNext (d + 3) hp (by omega) ha) rfl ?_
  cases h1 : isN t n 61 a with
  | true =>
    rw [h1, if_pos rfl] at hq
    exact b_t (cal_i (e_takeHeading (d + 1) hp ha) rfl ⟨bI_01 _, hq, rfl⟩)
  | false =>
    rw [h1, if_neg (by decide)] at hq
    refine b_f (cal_i (e_isNext (d + 3) hp (by omega) ha) rfl ?_)
    cases h2 : isN t n 123 a with
    | true =>
      rw [h2, if_pos rfl] at hq
      exact b_t (cal_i (e_takeInclude (d + 1) hp ha) rfl ⟨bI_01 _, hq, rfl⟩)
    | false =>
      rw [h2, if_neg (by decide)] at hq
      exact b_f (s_elsLoop d hp Q (n + 1) 0 a (by omega) ha hq)
theorem e_begin (d : Nat) (len : Int32) (σ : Hp) : EV d 31 [vr 5 0, vr 2 0, vi len] σ (setI (setI (setR σ 5 0 0 (some (2, 0))) 5 0 1 len) 5 0 2 (nI 0)) := by
  refine EV_of mt_31 (Nat.le_of_ble_eq_true rfl) fun Q hq => ?_
  refine wp_ok (cut := []) ma_31 rfl 10 _ _ _ _ ?_
  show (Q none (setI (setI (setR σ 5 0 0 (some (2, 0))) 5 0 1 len) 5 0 2 (nI 0)) ∧ σ.1 = σ.1)
  exact ⟨hq, rfl⟩
theorem s_pageLoop (d : Nat) (hp : PadC σ n t) (Q : Option AV → Hp → Prop) : ∀ (k i a : Nat), i + k = n + 1 → a ≤ n → (∀ a', Q (some (vi (fI (pPg t n k a)))) (rh σ n a')) → Sat true (d + 5) 29 σ.1 Q 8 [some (vr 5 0), some (vr 2 0), some (vi (nI n)), some (vi (nI i))] [] (rh σ n a) := by
  have hn := hp.1
  intro k
  induction k with
  | zero =>
    intro i a hi ha hq
    refine wp_ok (cut := [8]) ma_29 rfl 19 _ _ _ _ ?_
    show (((nI n) < (nI i) → (Q (some (vi (nI a))) (rh σ n a) ∧ (rh σ n a).1 = σ.1)) ∧ (¬ (nI n) < (nI i) → CalI true (d + 4) 35 [vr 5 0] (rh σ n a) σ.1 (fun x2 s1 => ((¬ x2 = 0 → CalI true (d + 4) 33 [vr 5 0, vi (nI 59)] s1 σ.1 (fun x4 s3 => ((¬ x4 = 0 → Sat true (d + 5) 29 σ.1 Q 8 [some (vr 5 0), some (vr 2 0), some (vi (nI n)), some (vi ((nI i) + nI 1))] [] s3) ∧ (x4 = 0 → ((¬ (hI s3 5 0 2) = (hI s3 5 0 1) → (Q (some (vi (hI s3 5 0 2))) s3 ∧ s3.1 = σ.1)) ∧ ((hI s3 5 0 2) = (hI s3 5 0 1) → (Q (some (vi (-6))) s3 ∧ s3.1 = σ.1))))))) ∧ (x2 = 0 → (Q (some (vi (hI s1 5 0 2))) s1 ∧ s1.1 = σ.1))))))
    exact br_lt (by omega) (by omega) (fun h => ⟨hq a, rfl⟩) (fun h => by omega)
  | succ k ih =>
    intro i a hi ha hq
    refine wp_ok (cut := [8]) ma_29 rfl 19 _ _ _ _ ?_
    show (((nI n) < (nI i) → (Q (some (vi (nI a))) (rh σ n a) ∧ (rh σ n a).1 = σ.1)) ∧ (¬ (nI n) < (nI i) → CalI true (d + 4) 35 [vr 5 0] (rh σ n a) σ.1 (fun x2 s1 => ((¬ x2 = 0 → CalI true (d + 4) 33 [vr 5 0, vi (nI 59)] s1 σ.1 (fun x4 s3 => ((¬ x4 = 0 → Sat true (d + 5) 29 σ.1 Q 8 [some (vr 5 0), some (vr 2 0), some (vi (nI n)), some (vi ((nI i) + nI 1))] [] s3) ∧ (x4 = 0 → ((¬ (hI s3 5 0 2) = (hI s3 5 0 1) → (Q (some (vi (hI s3 5 0 2))) s3 ∧ s3.1 = σ.1)) ∧ ((hI s3 5 0 2) = (hI s3 5 0 1) → (Q (some (vi (-6))) s3 ∧ s3.1 = σ.1))))))) ∧ (x2 = 0 → (Q (some (vi (hI s1 5 0 2))) s1 ∧ s1.1 = σ.1))))))
    refine br_lt (by omega) (by omega) (fun h => by omega) (fun h => ?_)
    refine cal_i (e_takeLine d hp ha) rfl ?_
    unfold pPg at hq
    have l1 := pLine_le (t := t) ha
    rcases h1 : pLine t n a with ⟨b, a1⟩
    rw [h1] at hq l1
    cases b with
    | false => exact b_f' ⟨hq a1, rfl⟩
    | true =>
      refine b_t' (cal_i (e_take (d + 3) hp (by omega) l1) rfl ?_)
      have l2 := pT_le (t := t) (x := 59) l1
      rcases h2 : pT t n 59 a1 with ⟨b, a2⟩
      simp only [h2] at hq l2
      cases b with
      | false =>
        refine b_f' ?_
        show (¬ nI a2 = nI n → (Q (some (vi (nI a2))) (rh σ n a2) ∧ (rh σ n a2).1 = σ.1)) ∧ (nI a2 = nI n → (Q (some (vi (-6))) (rh σ n a2) ∧ (rh σ n a2).1 = σ.1))
        dsimp only at hq
        refine br_ne (by omega) (by omega) (fun g => ?_) (fun g => ?_)
        · rw [if_neg g] at hq
          exact ⟨hq a2, rfl⟩
        · rw [if_pos g] at hq
          exact ⟨hq a2, rfl⟩
      | true =>
        refine b_t' ?_
        rw [addN]
        exact ih (i + 1) a2 (by omega) l2 hq
/-- what a heap is behind a reading -/
def RdH (σ : Hp) (n : Nat) (h : Hp) : Prop := ∃ a, h = rh σ n a
theorem e_pageFault (d : Nat) (hp : PadC σ n t) : Ev true (d + 5) 29 [vr 5 0, vr 2 0, vi (nI n)] σ σ.1 (fun r h => r = some (vi (fI (pageF t n))) ∧ RdH σ n h) := by
  refine Ev_of mt_29 (Nat.le_of_ble_eq_true rfl) (Nat.le_refl _) (Nat.le_refl _) ?_
  generalize hQ : (fun (r : Option AV) (h : Hp) => r = some (vi (fI (pageF t n))) ∧ RdH σ n h) = Q
  refine wp_ok (cut := [8]) ma_29 rfl 6 _ _ _ _ ?_
  show CalV true (d + 4) 31 [vr 5 0, vr 2 0, vi (nI n)] σ σ.1 (fun s1 => Sat true (d + 5) 29 σ.1 Q 8 [some (vr 5 0), some (vr 2 0), some (vi (nI n)), some (vi (nI 0))] [] s1)
  refine cal_v (e_begin (d + 4) (nI n) σ) rfl ?_
  refine s_pageLoop d hp Q (n + 1) 0 0 (by omega) (by omega) (fun a' => ?_)
  rw [← hQ]
  exact ⟨rfl, a', rfl⟩
theorem e_redirectFault (d : Nat) (hp : PadC σ n t) : Ev true (d + 4) 30 [vr 5 0, vr 2 0, vi (nI n)] σ σ.1 (fun r h => r = some (vi (fI (redF t n))) ∧ RdH σ n h) := by
  refine Ev_of mt_30 (Nat.le_of_ble_eq_true rfl) (Nat.le_refl _) (Nat.le_refl _) ?_
  generalize hQ : (fun (r : Option AV) (h : Hp) => r = some (vi (fI (redF t n))) ∧ RdH σ n h) = Q
  have hq : ∀ a', Q (some (vi (fI (redF t n)))) (rh σ n a') := fun a' => by rw [← hQ]; exact ⟨rfl, a', rfl⟩
  have hn := hp.1
  refine wp_ok (cut := []) ma_30 rfl 22 _ _ _ _ ?_
  show CalV true (d + 3) 31 [vr 5 0, vr 2 0, vi (nI n)] σ σ.1 (fun s1 => CalI true (d + 3) 39 [vr 5 0] s1 σ.1 (fun x3 s2 => ((x3 = 0 → (Q (some (vi (hI s2 5 0 2))) s2 ∧ s2.1 = σ.1)) ∧ (¬ x3 = 0 → CalI true (d + 3) 33 [vr 5 0, vi (nI 62)] s2 σ.1 (fun x5 s4 => ((x5 = 0 → (Q (some (vi (hI s4 5 0 2))) s4 ∧ s4.1 = σ.1)) ∧ (¬ x5 = 0 → CalI true (d + 3) 39 [vr 5 0] s4 σ.1 (fun x7 s6 => ((x7 = 0 → (Q (some (vi (hI s6 5 0 2))) s6 ∧ s6.1 = σ.1)) ∧ (¬ x7 = 0 → ((¬ (hI s6 5 0 2) = (hI s6 5 0 1) → (Q (some (vi (hI s6 5 0 2))) s6 ∧ s6.1 = σ.1)) ∧ ((hI s6 5 0 2) = (hI s6 5 0 1) → (Q (some (vi (-6))) s6 ∧ s6.1 = σ.1)))))))))))))
  refine cal_v (e_begin (d + 3) (nI n) σ) rfl ?_
  unfold redF at hq
  refine cal_i (e_takePlace d hp (Nat.zero_le n)) rfl ?_
  have l1 := pPlace_le (t := t) (Nat.zero_le n)
  rcases h1 : pPlace t n 0 with ⟨b, a1⟩
  rw [h1] at hq l1
  cases b with
  | false => exact b_f ⟨hq a1, rfl⟩
  | true =>
    refine b_t (cal_i (e_take (d + 2) hp (by omega) l1) rfl ?_)
    have l2 := pT_le (t := t) (x := 62) l1
    rcases h2 : pT t n 62 a1 with ⟨b, a2⟩
    simp only [h2] at hq l2
    cases b with
    | false => exact b_f ⟨hq a2, rfl⟩
    | true =>
      refine b_t (cal_i (e_takePlace d hp l2) rfl ?_)
      have l3 := pPlace_le (t := t) l2
      rcases h3 : pPlace t n a2 with ⟨b, a3⟩
      simp only [h3] at hq l3
      cases b with
      | false => exact b_f ⟨hq a3, rfl⟩
      | true =>
        refine b_t ?_
        show (¬ nI a3 = nI n → (Q (some (vi (nI a3))) (rh σ n a3) ∧ (rh σ n a3).1 = σ.1)) ∧ (nI a3 = nI n → (Q (some (vi (-6))) (rh σ n a3) ∧ (rh σ n a3).1 = σ.1))
        dsimp only at hq
        refine br_ne (by omega) (by omega) (fun g => ?_) (fun g => ?_)
        · rw [if_neg g] at hq
          exact ⟨hq a3, rfl⟩
        · rw [if_pos g] at hq
          exact ⟨hq a3, rfl⟩
end
end
section
/-! the model's reader -/
/-- the model's heap in reading: at is a, the row 'read' is g -/
def mr (σ : Hp) (a : Nat) (g : Nat → Int32) : Hp := setI (arrI σ 237 0 g) 233 0 6 (nI a)
theorem mr_at (σ : Hp) (a b : Nat) (g : Nat → Int32) : setI (mr σ a g) 233 0 6 (nI b) = mr σ b g := setI_setI _ _ _ _ _ _
theorem mr_rd (σ : Hp) (a k : Nat) (g : Nat → Int32) (x : Int32) : setI (mr σ a g) 237 0 k x = mr σ a (upd g k x) := by
  unfold mr
  rw [setI_comm _ _ _ (Or.inl (by decide)), arrI_setI]
def PadM (σ : Hp) (n : Nat) (t : Nat → Nat) : Prop := n ≤ 160 ∧ hI σ 233 0 1 = nI n ∧ ∀ k, k < n → hI σ 234 0 k = nI (t k) ∧ 0 < t k ∧ t k < 128
/-- the row 'read' holds the signs w -/
def RdM (g : Nat → Int32) (w : List Nat) : Prop := g 0 = nI w.length ∧ ∀ k, k < w.length → g (k + 1) = nI (w.getD k 0)
def chr (t : Nat → Nat) (n a : Nat) : Nat := if a < n then t a else 0
def smal (t : Nat → Nat) (n a : Nat) : Bool := decide (a < n ∧ 97 ≤ t a ∧ t a ≤ 122)
def digt (t : Nat → Nat) (n a : Nat) : Bool := decide (a < n ∧ 48 ≤ t a ∧ t a ≤ 57)
section
variable {σ : Hp} {n : Nat} {t : Nat → Nat}
theorem not_ltI {x y : Int32} (h : ¬ x < y) : y ≤ x := Int32.not_lt.mp h
theorem m_inI (d : Nat) (σ : Hp) (v x y : Int32) : EI d 108 [vi v, vi x, vi y] σ (bI (decide (x ≤ v ∧ v ≤ y))) σ := by
  refine EI_of mt_108 (Nat.le_of_ble_eq_true rfl) fun Q hq => ?_
  refine wp_ok (cut := []) ma_108 rfl 9 _ _ _ _ ?_
  show ((v < x → (((nI 0) = 0 ∨ (nI 0) = 1) ∧ (Q (some (vi (nI 0))) σ ∧ σ.1 = σ.1))) ∧ (¬ v < x → ((y < v → (((nI 0) = 0 ∨ (nI 0) = 1) ∧ (Q (some (vi (nI 0))) σ ∧ σ.1 = σ.1))) ∧ (¬ y < v → (((nI 1) = 0 ∨ (nI 1) = 1) ∧ (Q (some (vi (nI 1))) σ ∧ σ.1 = σ.1))))))
  refine ⟨fun h => ?_, fun h => ⟨fun h2 => ?_, fun h2 => ?_⟩⟩
  · rw [decide_eq_false (fun q => Int32.not_lt.mpr q.1 h)] at hq
    exact ⟨Or.inl rfl, hq, rfl⟩
  · rw [decide_eq_false (fun q => Int32.not_lt.mpr q.2 h2)] at hq
    exact ⟨Or.inl rfl, hq, rfl⟩
  · rw [decide_eq_true ⟨not_ltI h, not_ltI h2⟩] at hq
    exact ⟨Or.inr rfl, hq, rfl⟩
theorem m_in (d : Nat) (σ : Hp) {v x y : Nat} (hv : v < 2147483648) (hx : x < 2147483648) (hy : y < 2147483648) : EI d 108 [vi (nI v), vi (nI x), vi (nI y)] σ (bI (decide (x ≤ v ∧ v ≤ y))) σ := by
  have h := m_inI d σ (nI v) (nI x) (nI y)
  rw [decide_eq_decide.mpr (show (nI x ≤ nI v ∧ nI v ≤ nI y) ↔ (x ≤ v ∧ v ≤ y) by rw [leN hx hv, leN hv hy])] at h
  exact h
theorem chr_lt (hp : PadM σ n t) (a : Nat) : chr t n a < 128 := by
  unfold chr
  split
  · rename_i h; exact (hp.2.2 a h).2.2
  · omega
theorem m_next (d : Nat) (hp : PadM σ n t) {a : Nat} (ha : a ≤ n) (g : Nat → Int32) : EI d 115 [vr 233 0] (mr σ a g) (nI (chr t n a)) (mr σ a g) := by
  refine EI_of mt_115 (Nat.le_of_ble_eq_true rfl) fun Q hq => ?_
  obtain ⟨hn, hm, hc⟩ := hp
  refine wp_ok (cut := []) ma_115 rfl 12 _ _ _ _ ?_
  show (((hI σ 233 0 1) ≤ (nI a) → (Q (some (vi (nI 0))) (mr σ a g) ∧ (mr σ a g).1 = (mr σ a g).1)) ∧ (¬ (hI σ 233 0 1) ≤ (nI a) → (vp_in (nI a) 160 ∧ (Q (some (vi (hI σ 234 0 ((nI a).toNatClampNeg)))) (mr σ a g) ∧ (mr σ a g).1 = (mr σ a g).1))))
  rw [hm]
  unfold chr at hq
  refine br_le (by omega) (by omega) (fun h => ?_) (fun h => ?_)
  · rw [if_neg (by omega)] at hq
    exact ⟨hq, rfl⟩
  · rw [if_pos h] at hq
    rw [ix (by omega), (hc a h).1]
    exact ⟨inb (by omega) (by omega), hq, rfl⟩
theorem chr_eq (hp : PadM σ n t) {a c : Nat} (hc : 0 < c) : chr t n a = c ↔ (pT t n c a).1 = true := by
  unfold chr pT pTB
  by_cases h : a < n
  · rw [if_pos h]
    by_cases g : t a = c
    · rw [if_pos ⟨h, by omega, by omega⟩]; exact ⟨fun _ => rfl, fun _ => g⟩
    · rw [if_neg (by omega)]; exact ⟨fun q => absurd q g, fun q => by cases q⟩
  · rw [if_neg h, if_neg (by omega)]; exact ⟨fun q => by omega, fun q => by cases q⟩
theorem chr_in (hp : PadM σ n t) {a x y : Nat} (hx : 0 < x) : decide (x ≤ chr t n a ∧ chr t n a ≤ y) = (pTB t n x y a).1 := by
  unfold chr pTB
  by_cases h : a < n
  · rw [if_pos h]
    by_cases g : x ≤ t a ∧ t a ≤ y
    · rw [if_pos ⟨h, g⟩, decide_eq_true g]
    · rw [if_neg (fun q => g q.2), decide_eq_false g]
  · rw [if_neg h, if_neg (fun q => h q.1), decide_eq_false (by omega)]
theorem pTB_t {x y a : Nat} (h : (pTB t n x y a).1 = true) : (pTB t n x y a).2 = a + 1 ∧ a < n := by
  unfold pTB at h ⊢
  split at h
  · rename_i q; rw [if_pos q]; exact ⟨rfl, q.1⟩
  · cases h
theorem m_isNext (d : Nat) (hp : PadM σ n t) {a c : Nat} (ha : a ≤ n) (hc : 0 < c) (hc2 : c < 128) (g : Nat → Int32) : EI (d + 1) 116 [vr 233 0, vi (nI c)] (mr σ a g) (bI (pT t n c a).1) (mr σ (pT t n c a).2 g) := by
  refine EI_of mt_116 (Nat.le_of_ble_eq_true rfl) fun Q hq => ?_
  refine wp_ok (cut := []) ma_116 rfl 12 _ _ _ _ ?_
  show CalI true d 115 [vr 233 0] (mr σ a g) ((mr σ a g).1) (fun x2 s1 => ((¬ x2 = (nI c) → (((nI 0) = 0 ∨ (nI 0) = 1) ∧ (Q (some (vi (nI 0))) s1 ∧ s1.1 = (mr σ a g).1))) ∧ (x2 = (nI c) → (((nI 1) = 0 ∨ (nI 1) = 1) ∧ (Q (some (vi (nI 1))) (setI s1 233 0 6 ((hI s1 233 0 6) + (nI 1))) ∧ s1.1 = (mr σ a g).1)))))
  have hl := chr_lt hp a
  refine cal_i (m_next d hp ha g) rfl ?_
  refine br_ne (by omega) (by omega) (fun h => ?_) (fun h => ?_)
  · have e : (pT t n c a).1 = false := Bool.eq_false_iff.mpr fun q => h ((chr_eq hp hc).mpr q)
    rw [e, show (pT t n c a).2 = a from pTB_f e] at hq
    exact ⟨Or.inl rfl, hq, rfl⟩
  · have e : (pT t n c a).1 = true := (chr_eq hp hc).mp h
    rw [e, show (pT t n c a).2 = a + 1 from (pTB_t e).1] at hq
    show ((nI 1 = 0 ∨ nI 1 = 1) ∧ (Q (some (vi (nI 1))) (setI (mr σ a g) 233 0 6 (nI a + nI 1)) ∧ _))
    rw [addN, mr_at]
    exact ⟨Or.inr rfl, hq, rfl⟩
theorem m_small (d : Nat) (hp : PadM σ n t) {a : Nat} (ha : a ≤ n) (g : Nat → Int32) : EI (d + 1) 117 [vr 233 0] (mr σ a g) (bI (pTB t n 97 122 a).1) (mr σ a g) := by
  refine EI_of mt_117 (Nat.le_of_ble_eq_true rfl) fun Q hq => ?_
  refine wp_ok (cut := []) ma_117 rfl 6 _ _ _ _ ?_
  show CalI true d 115 [vr 233 0] (mr σ a g) ((mr σ a g).1) (fun x2 s1 => CalI true d 108 [vi x2, vi (nI 97), vi (nI 122)] s1 ((mr σ a g).1) (fun x4 s3 => ((x4 = 0 ∨ x4 = 1) ∧ (Q (some (vi x4)) s3 ∧ s3.1 = (mr σ a g).1))))
  have hl := chr_lt hp a
  refine cal_i (m_next d hp ha g) rfl (cal_i (m_in d _ (by omega) (by omega) (by omega)) rfl ?_)
  rw [chr_in hp (by omega)]
  exact ⟨bI_01 _, hq, rfl⟩
theorem m_digit (d : Nat) (hp : PadM σ n t) {a : Nat} (ha : a ≤ n) (g : Nat → Int32) : EI (d + 1) 118 [vr 233 0] (mr σ a g) (bI (pTB t n 48 57 a).1) (mr σ a g) := by
  refine EI_of mt_118 (Nat.le_of_ble_eq_true rfl) fun Q hq => ?_
  refine wp_ok (cut := []) ma_118 rfl 6 _ _ _ _ ?_
  show CalI true d 115 [vr 233 0] (mr σ a g) ((mr σ a g).1) (fun x2 s1 => CalI true d 108 [vi x2, vi (nI 48), vi (nI 57)] s1 ((mr σ a g).1) (fun x4 s3 => ((x4 = 0 ∨ x4 = 1) ∧ (Q (some (vi x4)) s3 ∧ s3.1 = (mr σ a g).1))))
  have hl := chr_lt hp a
  refine cal_i (m_next d hp ha g) rfl (cal_i (m_in d _ (by omega) (by omega) (by omega)) rfl ?_)
  rw [chr_in hp (by omega)]
  exact ⟨bI_01 _, hq, rfl⟩
theorem m_letter (d : Nat) (hp : PadM σ n t) {a : Nat} (ha : a ≤ n) (g : Nat → Int32) : EI (d + 1) 122 [vr 233 0] (mr σ a g) (bI (pTB t n 65 76 a).1) (mr σ (pTB t n 65 76 a).2 g) := by
  refine EI_of mt_122 (Nat.le_of_ble_eq_true rfl) fun Q hq => ?_
  refine wp_ok (cut := []) ma_122 rfl 14 _ _ _ _ ?_
  show CalI true d 115 [vr 233 0] (mr σ a g) ((mr σ a g).1) (fun x2 s1 => CalI true d 108 [vi x2, vi (nI 65), vi (nI 76)] s1 ((mr σ a g).1) (fun x4 s3 => ((¬ x4 = 0 → (((nI 1) = 0 ∨ (nI 1) = 1) ∧ (Q (some (vi (nI 1))) (setI s3 233 0 6 ((hI s3 233 0 6) + (nI 1))) ∧ s3.1 = (mr σ a g).1))) ∧ (x4 = 0 → (((nI 0) = 0 ∨ (nI 0) = 1) ∧ (Q (some (vi (nI 0))) s3 ∧ s3.1 = (mr σ a g).1))))))
  have hl := chr_lt hp a
  refine cal_i (m_next d hp ha g) rfl (cal_i (m_in d _ (by omega) (by omega) (by omega)) rfl ?_)
  rw [chr_in hp (by omega)]
  cases e : (pTB t n 65 76 a).1 with
  | false =>
    rw [e, pTB_f e] at hq
    exact b_f' ⟨Or.inl rfl, hq, rfl⟩
  | true =>
    rw [e, (pTB_t e).1] at hq
    refine b_t' ?_
    show ((nI 1 = 0 ∨ nI 1 = 1) ∧ (Q (some (vi (nI 1))) (setI (mr σ a g) 233 0 6 (nI a + nI 1)) ∧ _))
    rw [addN, mr_at]
    exact ⟨Or.inr rfl, hq, rfl⟩
/-- keepSign: one sign more in the row -/
theorem RdM_app {g : Nat → Int32} {w : List Nat} (h : RdM g w) (c : Nat) : RdM (upd (upd g 0 (nI (w.length + 1))) (w.length + 1) (nI c)) (w ++ [c]) := by
  refine ⟨?_, fun k hk => ?_⟩
  · show (if 0 = w.length + 1 then _ else if 0 = 0 then nI (w.length + 1) else g 0) = _
    rw [if_neg (by omega), if_pos rfl, List.length_append]
    rfl
  · rw [List.length_append] at hk
    have hk : k < w.length + 1 := hk
    show (if k + 1 = w.length + 1 then nI c else if k + 1 = 0 then nI (w.length + 1) else g (k + 1)) = _
    by_cases e : k = w.length
    · subst e
      rw [if_pos rfl, List.getD_eq_getElem?_getD, List.getElem?_append_right (Nat.le_refl _)]
      simp
    · rw [if_neg (by omega), if_neg (by omega), h.2 k (by omega)]
      rw [List.getD_eq_getElem?_getD, List.getD_eq_getElem?_getD, List.getElem?_append_left (by omega)]
theorem m_keep (d : Nat) (hp : PadM σ n t) {a : Nat} (ha : a ≤ n) {g : Nat → Int32} {w : List Nat} (hg : RdM g w) (hw : w.length < 11) : ∃ g', RdM g' (w ++ [chr t n a]) ∧ EV (d + 1) 119 [vr 233 0] (mr σ a g) (mr σ (a + 1) g') := by
  refine ⟨_, RdM_app hg (chr t n a), EV_of mt_119 (Nat.le_of_ble_eq_true rfl) fun Q hq => ?_⟩
  refine wp_ok (cut := []) ma_119 rfl 24 _ _ _ _ ?_
  show (vp_in (nI 0) 12 ∧ (vp_in (nI 0) 12 ∧ (vp_in (nI 0) 12 ∧ CalI true d 115 [vr 233 0] (setI (mr σ a g) 237 0 0 ((g 0) + (nI 1))) ((mr σ a g).1) (fun x2 s1 => (vp_in ((g 0) + (nI 1)) 12 ∧ (Q none (setI (setI s1 237 0 (((g 0) + (nI 1)).toNatClampNeg) x2) 233 0 6 ((hI s1 233 0 6) + (nI 1))) ∧ s1.1 = (mr σ a g).1))))))
  rw [hg.1, addN, mr_rd]
  refine ⟨inb (by omega) (by omega), inb (by omega) (by omega), inb (by omega) (by omega), cal_i (m_next d hp ha _) rfl ⟨inb (by omega) (by omega), ?_, rfl⟩⟩
  rw [ix (by omega), mr_rd]
  show Q none (setI (mr σ a _) 233 0 6 (nI a + nI 1))
  rw [addN, mr_at]
  exact hq
def ldN (t : Nat → Nat) (n a : Nat) : Bool := (pTB t n 97 122 a).1 || (pTB t n 48 57 a).1
def mNl (t : Nat → Nat) (n : Nat) : Nat → Nat → Bool × Nat
  | 0, a => (! ldN t n a, a)
  | k + 1, a => if ldN t n a then mNl t n k (a + 1) else (true, a)
/-- the signs from a on -/
def sg (t : Nat → Nat) : Nat → Nat → List Nat
  | _, 0 => []
  | a, m + 1 => t a :: sg t (a + 1) m
theorem sg_len (t : Nat → Nat) : ∀ (m a : Nat), (sg t a m).length = m := by
  intro m
  induction m with
  | zero => intro a; rfl
  | succ m ih => intro a; show (sg t (a + 1) m).length + 1 = m + 1; rw [ih]
theorem ldN_lt {a : Nat} (h : ldN t n a = true) : a < n := by
  unfold ldN at h
  rw [Bool.or_eq_true] at h
  rcases h with h | h
  · exact (pTB_t h).2
  · exact (pTB_t h).2
theorem mNl_b : ∀ (k a : Nat), a ≤ n → a ≤ (mNl t n k a).2 ∧ (mNl t n k a).2 ≤ n ∧ (mNl t n k a).2 ≤ a + k := by
  intro k
  induction k with
  | zero => intro a h; exact ⟨Nat.le_refl _, h, Nat.le_refl _⟩
  | succ k ih =>
    intro a h
    unfold mNl
    cases e : ldN t n a with
    | true =>
      rw [if_pos rfl]
      have hl := ldN_lt e
      have := ih (a + 1) hl
      omega
    | false =>
      rw [if_neg (by decide)]
      exact ⟨Nat.le_refl _, h, by show a ≤ a + (k + 1); omega⟩
theorem sg_cons {a b : Nat} (h : a < b) : sg t a (b - a) = t a :: sg t (a + 1) (b - (a + 1)) := by
  obtain ⟨m, hm⟩ : ∃ m, b - a = m + 1 := ⟨b - a - 1, by omega⟩
  rw [hm, show b - (a + 1) = m by omega]
  rfl
theorem s_mname (d : Nat) (hp : PadM σ n t) : ∀ (k a : Nat) (g : Nat → Int32) (w : List Nat), w.length + k = 8 → a ≤ n → RdM g w → ∃ g', RdM g' (w ++ sg t a ((mNl t n k a).2 - a)) ∧ ∀ Q : Option AV → Hp → Prop, Q (some (vi (bI (mNl t n k a).1))) (mr σ (mNl t n k a).2 g') → Sat true (d + 2) 120 σ.1 Q 16 [some (vr 233 0)] [] (mr σ a g) := by
  intro k
  induction k with
  | zero =>
    intro a g w hw ha hg
    refine ⟨g, by show RdM g (w ++ sg t a (a - a)); rw [Nat.sub_self]; show RdM g (w ++ []); rw [List.append_nil]; exact hg, fun Q hq => ?_⟩
    refine wp_ok (cut := [16]) ma_120 rfl 15 _ _ _ _ ?_
    show CalI true (d + 1) 117 [vr 233 0] (mr σ a g) σ.1 (fun x2 s1 => ((¬ x2 = 0 → (vp_in (nI 0) 12 ∧ ((¬ (hI s1 237 0 0) = (nI 8) → CalV true (d + 1) 119 [vr 233 0] s1 σ.1 (fun s3 => Sat true (d + 2) 120 σ.1 Q 16 [some (vr 233 0)] [] s3)) ∧ ((hI s1 237 0 0) = (nI 8) → (((nI 0) = 0 ∨ (nI 0) = 1) ∧ (Q (some (vi (nI 0))) s1 ∧ s1.1 = σ.1)))))) ∧ (x2 = 0 → CalI true (d + 1) 118 [vr 233 0] s1 σ.1 (fun x5 s4 => ((x5 = 0 → (((nI 1) = 0 ∨ (nI 1) = 1) ∧ (Q (some (vi (nI 1))) s4 ∧ s4.1 = σ.1))) ∧ (¬ x5 = 0 → (vp_in (nI 0) 12 ∧ ((¬ (hI s4 237 0 0) = (nI 8) → CalV true (d + 1) 119 [vr 233 0] s4 σ.1 (fun s6 => Sat true (d + 2) 120 σ.1 Q 16 [some (vr 233 0)] [] s6)) ∧ ((hI s4 237 0 0) = (nI 8) → (((nI 0) = 0 ∨ (nI 0) = 1) ∧ (Q (some (vi (nI 0))) s4 ∧ s4.1 = σ.1)))))))))))
    refine cal_i (m_small d hp ha g) rfl ?_
    have hq : Q (some (vi (bI (! ldN t n a)))) (mr σ a g) := hq
    have h8 : w.length = 8 := by omega
    unfold ldN at hq
    cases e : (pTB t n 97 122 a).1 with
    | true =>
      rw [e] at hq
      refine b_t' ?_
      show (vp_in (nI 0) 12 ∧ ((¬ g 0 = nI 8 → _) ∧ (g 0 = nI 8 → _)))
      rw [hg.1, h8]
      exact ⟨inb (by omega) (by omega), fun h => absurd rfl h, fun _ => ⟨Or.inl rfl, hq, rfl⟩⟩
    | false =>
      refine b_f' (cal_i (m_digit d hp ha g) rfl ?_)
      cases e2 : (pTB t n 48 57 a).1 with
      | true =>
        rw [e, e2] at hq
        refine b_t ?_
        show (vp_in (nI 0) 12 ∧ ((¬ g 0 = nI 8 → _) ∧ (g 0 = nI 8 → _)))
        rw [hg.1, h8]
        exact ⟨inb (by omega) (by omega), fun h => absurd rfl h, fun _ => ⟨Or.inl rfl, hq, rfl⟩⟩
      | false =>
        rw [e, e2] at hq
        exact b_f ⟨Or.inr rfl, hq, rfl⟩
  | succ k ih =>
    intro a g w hw ha hg
    cases e : ldN t n a with
    | false =>
      have em : mNl t n (k + 1) a = (true, a) := by unfold mNl; rw [e, if_neg (by decide)]
      rw [em]
      refine ⟨g, by show RdM g (w ++ sg t a (a - a)); rw [Nat.sub_self]; show RdM g (w ++ []); rw [List.append_nil]; exact hg, fun Q hq => ?_⟩
      unfold ldN at e
      rw [Bool.or_eq_false_iff] at e
      refine wp_ok (cut := [16]) ma_120 rfl 15 _ _ _ _ ?_
      show CalI true (d + 1) 117 [vr 233 0] (mr σ a g) σ.1 (fun x2 s1 => ((¬ x2 = 0 → (vp_in (nI 0) 12 ∧ ((¬ (hI s1 237 0 0) = (nI 8) → CalV true (d + 1) 119 [vr 233 0] s1 σ.1 (fun s3 => Sat true (d + 2) 120 σ.1 Q 16 [some (vr 233 0)] [] s3)) ∧ ((hI s1 237 0 0) = (nI 8) → (((nI 0) = 0 ∨ (nI 0) = 1) ∧ (Q (some (vi (nI 0))) s1 ∧ s1.1 = σ.1)))))) ∧ (x2 = 0 → CalI true (d + 1) 118 [vr 233 0] s1 σ.1 (fun x5 s4 => ((x5 = 0 → (((nI 1) = 0 ∨ (nI 1) = 1) ∧ (Q (some (vi (nI 1))) s4 ∧ s4.1 = σ.1))) ∧ (¬ x5 = 0 → (vp_in (nI 0) 12 ∧ ((¬ (hI s4 237 0 0) = (nI 8) → CalV true (d + 1) 119 [vr 233 0] s4 σ.1 (fun s6 => Sat true (d + 2) 120 σ.1 Q 16 [some (vr 233 0)] [] s6)) ∧ ((hI s4 237 0 0) = (nI 8) → (((nI 0) = 0 ∨ (nI 0) = 1) ∧ (Q (some (vi (nI 0))) s4 ∧ s4.1 = σ.1)))))))))))
      refine cal_i (m_small d hp ha g) rfl ?_
      rw [e.1]
      refine b_f' (cal_i (m_digit d hp ha g) rfl ?_)
      rw [e.2]
      exact b_f ⟨Or.inr rfl, hq, rfl⟩
    | true =>
      have hl := ldN_lt e
      have em : mNl t n (k + 1) a = mNl t n k (a + 1) := by conv => lhs; unfold mNl; rw [e, if_pos rfl]
      obtain ⟨g1, hg1, hkeep⟩ := m_keep d hp ha hg (by omega)
      obtain ⟨g2, hg2, hrest⟩ := ih (a + 1) g1 (w ++ [chr t n a]) (by rw [List.length_append]; show w.length + 1 + k = 8; omega) hl hg1
      rw [em]
      have hb := (mNl_b (t := t) (n := n) k (a + 1) hl).1
      refine ⟨g2, ?_, fun Q hq => ?_⟩
      · rw [sg_cons (by omega)]
        rw [List.append_assoc, show chr t n a = t a from if_pos hl] at hg2
        exact hg2
      · refine wp_ok (cut := [16]) ma_120 rfl 15 _ _ _ _ ?_
        show CalI true (d + 1) 117 [vr 233 0] (mr σ a g) σ.1 (fun x2 s1 => ((¬ x2 = 0 → (vp_in (nI 0) 12 ∧ ((¬ (hI s1 237 0 0) = (nI 8) → CalV true (d + 1) 119 [vr 233 0] s1 σ.1 (fun s3 => Sat true (d + 2) 120 σ.1 Q 16 [some (vr 233 0)] [] s3)) ∧ ((hI s1 237 0 0) = (nI 8) → (((nI 0) = 0 ∨ (nI 0) = 1) ∧ (Q (some (vi (nI 0))) s1 ∧ s1.1 = σ.1)))))) ∧ (x2 = 0 → CalI true (d + 1) 118 [vr 233 0] s1 σ.1 (fun x5 s4 => ((x5 = 0 → (((nI 1) = 0 ∨ (nI 1) = 1) ∧ (Q (some (vi (nI 1))) s4 ∧ s4.1 = σ.1))) ∧ (¬ x5 = 0 → (vp_in (nI 0) 12 ∧ ((¬ (hI s4 237 0 0) = (nI 8) → CalV true (d + 1) 119 [vr 233 0] s4 σ.1 (fun s6 => Sat true (d + 2) 120 σ.1 Q 16 [some (vr 233 0)] [] s6)) ∧ ((hI s4 237 0 0) = (nI 8) → (((nI 0) = 0 ∨ (nI 0) = 1) ∧ (Q (some (vi (nI 0))) s4 ∧ s4.1 = σ.1)))))))))))
        have fin : (vp_in (nI 0) 12 ∧ ((¬ g 0 = nI 8 → CalV true (d + 1) 119 [vr 233 0] (mr σ a g) σ.1 (fun s => Sat true (d + 2) 120 σ.1 Q 16 [some (vr 233 0)] [] s)) ∧ (g 0 = nI 8 → (((nI 0) = 0 ∨ (nI 0) = 1) ∧ (Q (some (vi (nI 0))) (mr σ a g) ∧ (mr σ a g).1 = σ.1))))) := by
          rw [hg.1]
          refine ⟨inb (by omega) (by omega), br_ne (by omega) (by omega) (fun _ => ?_) (fun h => by omega)⟩
          exact cal_v hkeep rfl (hrest Q hq)
        refine cal_i (m_small d hp ha g) rfl ?_
        unfold ldN at e
        cases e1 : (pTB t n 97 122 a).1 with
        | true => exact b_t' fin
        | false =>
          refine b_f' (cal_i (m_digit d hp ha g) rfl ?_)
          rw [e1, Bool.false_or] at e
          rw [e]
          exact b_t fin
def mName (t : Nat → Nat) (n a : Nat) : Bool × Nat := if (pTB t n 97 122 a).1 then mNl t n 8 a else (false, a)
theorem RdM_0 (g : Nat → Int32) : RdM (upd g 0 (nI 0)) [] := ⟨by show (if 0 = 0 then nI 0 else g 0) = nI 0; rw [if_pos rfl], fun k hk => by cases hk⟩
theorem mName_b {a : Nat} (ha : a ≤ n) : a ≤ (mName t n a).2 ∧ (mName t n a).2 ≤ n ∧ (mName t n a).2 ≤ a + 8 := by
  unfold mName
  split
  · exact mNl_b 8 a ha
  · exact ⟨Nat.le_refl _, ha, Nat.le_add_right _ _⟩
theorem m_readName (d : Nat) (hp : PadM σ n t) {a : Nat} (ha : a ≤ n) (g : Nat → Int32) : ∃ g', RdM g' (sg t a ((mName t n a).2 - a)) ∧ EI (d + 2) 120 [vr 233 0] (mr σ a g) (bI (mName t n a).1) (mr σ (mName t n a).2 g') := by
  unfold mName
  obtain ⟨g', hg', hk⟩ := s_mname d hp 8 a (upd g 0 (nI 0)) [] rfl ha (RdM_0 g)
  cases e : (pTB t n 97 122 a).1 with
  | true =>
    refine ⟨g', hg', EI_of mt_120 (Nat.le_of_ble_eq_true rfl) fun Q hq => ?_⟩
    refine wp_ok (cut := [16]) ma_120 rfl 10 _ _ _ _ ?_
    show (vp_in (nI 0) 12 ∧ CalI true (d + 1) 117 [vr 233 0] (setI (mr σ a g) 237 0 0 (nI 0)) ((mr σ a g).1) (fun x2 s1 => ((¬ x2 = 0 → Sat true (d + 2) 120 ((mr σ a g).1) Q 16 [some (vr 233 0)] [] s1) ∧ (x2 = 0 → (((nI 0) = 0 ∨ (nI 0) = 1) ∧ (Q (some (vi (nI 0))) s1 ∧ s1.1 = (mr σ a g).1))))))
    rw [mr_rd]
    refine ⟨inb (by omega) (by omega), cal_i (m_small d hp ha _) rfl ?_⟩
    rw [e]
    exact b_t' (hk Q hq)
  | false =>
    refine ⟨upd g 0 (nI 0), by show RdM _ (sg t a (a - a)); rw [Nat.sub_self]; exact RdM_0 g, EI_of mt_120 (Nat.le_of_ble_eq_true rfl) fun Q hq => ?_⟩
    refine wp_ok (cut := [16]) ma_120 rfl 10 _ _ _ _ ?_
    show (vp_in (nI 0) 12 ∧ CalI true (d + 1) 117 [vr 233 0] (setI (mr σ a g) 237 0 0 (nI 0)) ((mr σ a g).1) (fun x2 s1 => ((¬ x2 = 0 → Sat true (d + 2) 120 ((mr σ a g).1) Q 16 [some (vr 233 0)] [] s1) ∧ (x2 = 0 → (((nI 0) = 0 ∨ (nI 0) = 1) ∧ (Q (some (vi (nI 0))) s1 ∧ s1.1 = (mr σ a g).1))))))
    rw [mr_rd]
    refine ⟨inb (by omega) (by omega), cal_i (m_small d hp ha _) rfl ?_⟩
    rw [e]
    exact b_f' ⟨Or.inl rfl, hq, rfl⟩
end
end
section
/-! the model's reader: anchors, lines, pages, redirects -/
def mAnchor (t : Nat → Nat) (n a : Nat) : Bool × Nat :=
  match mName t n a with
  | (false, a1) => (false, a1)
  | (true, a1) => match pT t n 45 a1 with
    | (false, a2) => (true, a2)
    | (true, a2) => match pTB t n 49 57 a2 with
      | (false, a3) => (false, a3)
      | (true, a3) => (true, (pTB t n 48 57 a3).2)
def mPlace (t : Nat → Nat) (n a : Nat) : Bool × Nat :=
  match pTB t n 65 76 a with
  | (false, a1) => (false, a1)
  | (true, a1) => match pT t n 35 a1 with
    | (false, a2) => (true, a2)
    | (true, a2) => mAnchor t n a2
/-- the anchor's signs in a place that begins at a -/
def plTx (t : Nat → Nat) (n a : Nat) : List Nat := if (pTB t n 65 76 a).1 && (pT t n 35 (a + 1)).1 then sg t (a + 2) ((mPlace t n a).2 - (a + 2)) else []
def mEq (t : Nat → Nat) (n : Nat) : Nat → Nat → Nat
  | 0, a => a
  | k + 1, a => if (pT t n 61 a).1 then mEq t n k (a + 1) else a
def mHead (t : Nat → Nat) (n a : Nat) : Bool × Nat := mName t n (mEq t n 3 a)
def mTgt (t : Nat → Nat) (n a : Nat) : Bool × Nat :=
  match pT t n 35 a with
  | (true, a2) => mAnchor t n a2
  | (false, a2) => mPlace t n a2
def mElem (t : Nat → Nat) (n a : Nat) : Bool × Nat :=
  match pT t n 91 a with
  | (false, a1) => mName t n a1
  | (true, a1) => match mTgt t n a1 with
    | (false, a3) => (false, a3)
    | (true, a3) => pT t n 93 a3
section
variable {σ : Hp} {n : Nat} {t : Nat → Nat}
theorem chr_big (hp : PadM σ n t) (a : Nat) : chr t n a < 2147483648 := Nat.lt_trans (chr_lt hp a) (by omega)
theorem sg_snoc {a b : Nat} (h : a ≤ b) : sg t a (b - a) ++ [t b] = sg t a (b + 1 - a) := by
  have key : ∀ (m a : Nat), sg t a m ++ [t (a + m)] = sg t a (m + 1) := by
    intro m
    induction m with
    | zero => intro a; rfl
    | succ m ih =>
      intro a
      show t a :: (sg t (a + 1) m ++ [t (a + (m + 1))]) = t a :: sg t (a + 1) (m + 1)
      rw [show a + (m + 1) = a + 1 + m by omega, ih]
  have := key (b - a) a
  rw [show a + (b - a) = b by omega] at this
  rw [this, show b - a + 1 = b + 1 - a by omega]
theorem pT_t {x a : Nat} (h : (pT t n x a).1 = true) : (pT t n x a).2 = a + 1 ∧ a < n := pTB_t h
theorem pT_f {x a : Nat} (h : (pT t n x a).1 = false) : (pT t n x a).2 = a := pTB_f h
theorem pTB_tt {x y a a1 : Nat} (h : pTB t n x y a = (true, a1)) : a1 = a + 1 ∧ a < n := by
  have := pTB_t (t := t) (n := n) (x := x) (y := y) (a := a) (by rw [h])
  rw [h] at this
  exact this
theorem pTB_ff {x y a a1 : Nat} (h : pTB t n x y a = (false, a1)) : a1 = a := by
  have := pTB_f (t := t) (n := n) (x := x) (y := y) (a := a) (by rw [h])
  rw [h] at this
  exact this
theorem mAnchor_b {a : Nat} (ha : a ≤ n) : a ≤ (mAnchor t n a).2 ∧ (mAnchor t n a).2 ≤ n ∧ (mAnchor t n a).2 ≤ a + 11 := by
  unfold mAnchor
  have l1 := mName_b (t := t) ha
  split
  · rename_i a1 h1; rw [h1] at l1; have l1 : a ≤ a1 ∧ a1 ≤ n ∧ a1 ≤ a + 8 := l1; show a ≤ a1 ∧ a1 ≤ n ∧ a1 ≤ a + 11; omega
  · rename_i a1 h1
    rw [h1] at l1
    have l1 : a ≤ a1 ∧ a1 ≤ n ∧ a1 ≤ a + 8 := l1
    split
    · rename_i a2 h2
      have := pTB_ff h2
      show a ≤ a2 ∧ a2 ≤ n ∧ a2 ≤ a + 11
      omega
    · rename_i a2 h2
      have := pTB_tt h2
      split
      · rename_i a3 h3
        have := pTB_ff h3
        show a ≤ a3 ∧ a3 ≤ n ∧ a3 ≤ a + 11
        omega
      · rename_i a3 h3
        have := pTB_tt h3
        show a ≤ (pTB t n 48 57 a3).2 ∧ (pTB t n 48 57 a3).2 ≤ n ∧ (pTB t n 48 57 a3).2 ≤ a + 11
        cases h4 : (pTB t n 48 57 a3).1 with
        | true => have := pTB_t h4; omega
        | false => rw [pTB_f h4]; omega
theorem m_readAnchor (d : Nat) (hp : PadM σ n t) {a : Nat} (ha : a ≤ n) (g : Nat → Int32) : ∃ g', RdM g' (sg t a ((mAnchor t n a).2 - a)) ∧ EI (d + 3) 121 [vr 233 0] (mr σ a g) (bI (mAnchor t n a).1) (mr σ (mAnchor t n a).2 g') := by
  obtain ⟨g1, hg1, e1⟩ := m_readName d hp ha g
  have l1 := mName_b (t := t) ha
  rcases h1 : mName t n a with ⟨b, a1⟩
  rw [h1] at hg1 e1 l1
  have l1 : a ≤ a1 ∧ a1 ≤ n ∧ a1 ≤ a + 8 := l1
  have hc1 := chr_lt hp a1
  cases b with
  | false =>
    have em : mAnchor t n a = (false, a1) := by unfold mAnchor; rw [h1]
    rw [em]
    refine ⟨g1, hg1, EI_of mt_121 (Nat.le_of_ble_eq_true rfl) fun Q hq => ?_⟩
    refine wp_ok (cut := []) ma_121 rfl 24 _ _ _ _ ?_
    show CalI true (d + 2) 120 [vr 233 0] (mr σ a g) ((mr σ a g).1) (fun x2 s1 => ((¬ x2 = 0 → CalI true (d + 2) 115 [vr 233 0] s1 ((mr σ a g).1) (fun x4 s3 => ((x4 = (nI 45) → CalV true (d + 2) 119 [vr 233 0] s3 ((mr σ a g).1) (fun s5 => CalI true (d + 2) 115 [vr 233 0] s5 ((mr σ a g).1) (fun x7 s6 => CalI true (d + 2) 108 [vi x7, vi (nI 49), vi (nI 57)] s6 ((mr σ a g).1) (fun x9 s8 => ((¬ x9 = 0 → CalV true (d + 2) 119 [vr 233 0] s8 ((mr σ a g).1) (fun s10 => CalI true (d + 2) 118 [vr 233 0] s10 ((mr σ a g).1) (fun x12 s11 => ((x12 = 0 → (((nI 1) = 0 ∨ (nI 1) = 1) ∧ (Q (some (vi (nI 1))) s11 ∧ s11.1 = (mr σ a g).1))) ∧ (¬ x12 = 0 → CalV true (d + 2) 119 [vr 233 0] s11 ((mr σ a g).1) (fun s13 => (((nI 1) = 0 ∨ (nI 1) = 1) ∧ (Q (some (vi (nI 1))) s13 ∧ s13.1 = (mr σ a g).1)))))))) ∧ (x9 = 0 → (((nI 0) = 0 ∨ (nI 0) = 1) ∧ (Q (some (vi (nI 0))) s8 ∧ s8.1 = (mr σ a g).1)))))))) ∧ (¬ x4 = (nI 45) → (((nI 1) = 0 ∨ (nI 1) = 1) ∧ (Q (some (vi (nI 1))) s3 ∧ s3.1 = (mr σ a g).1)))))) ∧ (x2 = 0 → (((nI 0) = 0 ∨ (nI 0) = 1) ∧ (Q (some (vi (nI 0))) s1 ∧ s1.1 = (mr σ a g).1)))))
    exact cal_i e1 rfl (b_f' ⟨Or.inl rfl, hq, rfl⟩)
  | true =>
    rcases h2 : pT t n 45 a1 with ⟨b, a2⟩
    cases b with
    | false =>
      have e2 := pTB_ff h2
      subst e2
      have em : mAnchor t n a = (true, a2) := by unfold mAnchor; rw [h1]; dsimp only; rw [h2]
      rw [em]
      refine ⟨g1, hg1, EI_of mt_121 (Nat.le_of_ble_eq_true rfl) fun Q hq => ?_⟩
      refine wp_ok (cut := []) ma_121 rfl 24 _ _ _ _ ?_
      show CalI true (d + 2) 120 [vr 233 0] (mr σ a g) ((mr σ a g).1) (fun x2 s1 => ((¬ x2 = 0 → CalI true (d + 2) 115 [vr 233 0] s1 ((mr σ a g).1) (fun x4 s3 => ((x4 = (nI 45) → CalV true (d + 2) 119 [vr 233 0] s3 ((mr σ a g).1) (fun s5 => CalI true (d + 2) 115 [vr 233 0] s5 ((mr σ a g).1) (fun x7 s6 => CalI true (d + 2) 108 [vi x7, vi (nI 49), vi (nI 57)] s6 ((mr σ a g).1) (fun x9 s8 => ((¬ x9 = 0 → CalV true (d + 2) 119 [vr 233 0] s8 ((mr σ a g).1) (fun s10 => CalI true (d + 2) 118 [vr 233 0] s10 ((mr σ a g).1) (fun x12 s11 => ((x12 = 0 → (((nI 1) = 0 ∨ (nI 1) = 1) ∧ (Q (some (vi (nI 1))) s11 ∧ s11.1 = (mr σ a g).1))) ∧ (¬ x12 = 0 → CalV true (d + 2) 119 [vr 233 0] s11 ((mr σ a g).1) (fun s13 => (((nI 1) = 0 ∨ (nI 1) = 1) ∧ (Q (some (vi (nI 1))) s13 ∧ s13.1 = (mr σ a g).1)))))))) ∧ (x9 = 0 → (((nI 0) = 0 ∨ (nI 0) = 1) ∧ (Q (some (vi (nI 0))) s8 ∧ s8.1 = (mr σ a g).1)))))))) ∧ (¬ x4 = (nI 45) → (((nI 1) = 0 ∨ (nI 1) = 1) ∧ (Q (some (vi (nI 1))) s3 ∧ s3.1 = (mr σ a g).1)))))) ∧ (x2 = 0 → (((nI 0) = 0 ∨ (nI 0) = 1) ∧ (Q (some (vi (nI 0))) s1 ∧ s1.1 = (mr σ a g).1)))))
      refine cal_i e1 rfl (b_t' (cal_i (m_next (d + 2) hp l1.2.1 g1) rfl ?_))
      refine br_eq (chr_big hp _) (by omega) (fun h => ?_) (fun h => ⟨Or.inr rfl, hq, rfl⟩)
      have := (chr_eq hp (by omega)).mp h
      rw [h2] at this
      cases this
    | true =>
      obtain ⟨e2, hlt⟩ := pTB_tt h2
      subst e2
      have hch : chr t n a1 = 45 := (chr_eq hp (by omega)).mpr (by rw [h2])
      obtain ⟨g2, hg2, k2⟩ := m_keep (d + 1) hp l1.2.1 hg1 (by rw [sg_len]; show a1 - a < 11; omega)
      rw [show chr t n a1 = t a1 from if_pos hlt, sg_snoc l1.1] at hg2
      have hc2 := chr_lt hp (a1 + 1)
      rcases h3 : pTB t n 49 57 (a1 + 1) with ⟨b, a3⟩
      cases b with
      | false =>
        have e3 := pTB_ff h3
        subst e3
        have em : mAnchor t n a = (false, a1 + 1) := by unfold mAnchor; rw [h1]; dsimp only; rw [h2]; dsimp only; rw [h3]
        rw [em]
        refine ⟨g2, hg2, EI_of mt_121 (Nat.le_of_ble_eq_true rfl) fun Q hq => ?_⟩
        refine wp_ok (cut := []) ma_121 rfl 24 _ _ _ _ ?_
        show CalI true (d + 2) 120 [vr 233 0] (mr σ a g) ((mr σ a g).1) (fun x2 s1 => ((¬ x2 = 0 → CalI true (d + 2) 115 [vr 233 0] s1 ((mr σ a g).1) (fun x4 s3 => ((x4 = (nI 45) → CalV true (d + 2) 119 [vr 233 0] s3 ((mr σ a g).1) (fun s5 => CalI true (d + 2) 115 [vr 233 0] s5 ((mr σ a g).1) (fun x7 s6 => CalI true (d + 2) 108 [vi x7, vi (nI 49), vi (nI 57)] s6 ((mr σ a g).1) (fun x9 s8 => ((¬ x9 = 0 → CalV true (d + 2) 119 [vr 233 0] s8 ((mr σ a g).1) (fun s10 => CalI true (d + 2) 118 [vr 233 0] s10 ((mr σ a g).1) (fun x12 s11 => ((x12 = 0 → (((nI 1) = 0 ∨ (nI 1) = 1) ∧ (Q (some (vi (nI 1))) s11 ∧ s11.1 = (mr σ a g).1))) ∧ (¬ x12 = 0 → CalV true (d + 2) 119 [vr 233 0] s11 ((mr σ a g).1) (fun s13 => (((nI 1) = 0 ∨ (nI 1) = 1) ∧ (Q (some (vi (nI 1))) s13 ∧ s13.1 = (mr σ a g).1)))))))) ∧ (x9 = 0 → (((nI 0) = 0 ∨ (nI 0) = 1) ∧ (Q (some (vi (nI 0))) s8 ∧ s8.1 = (mr σ a g).1)))))))) ∧ (¬ x4 = (nI 45) → (((nI 1) = 0 ∨ (nI 1) = 1) ∧ (Q (some (vi (nI 1))) s3 ∧ s3.1 = (mr σ a g).1)))))) ∧ (x2 = 0 → (((nI 0) = 0 ∨ (nI 0) = 1) ∧ (Q (some (vi (nI 0))) s1 ∧ s1.1 = (mr σ a g).1)))))
        refine cal_i e1 rfl (b_t' (cal_i (m_next (d + 2) hp l1.2.1 g1) rfl ?_))
        refine br_eq (chr_big hp _) (by omega) (fun _ => ?_) (fun h => absurd hch h)
        refine cal_v k2 rfl (cal_i (m_next (d + 2) hp hlt g2) rfl (cal_i (m_in (d + 2) _ (chr_big hp _) (by omega) (by omega)) rfl ?_))
        rw [chr_in hp (by omega), h3]
        exact b_f' ⟨Or.inl rfl, hq, rfl⟩
      | true =>
        obtain ⟨e3, hlt2⟩ := pTB_tt h3
        subst e3
        obtain ⟨g3, hg3, k3⟩ := m_keep (d + 1) hp (show a1 + 1 ≤ n by omega) hg2 (by rw [sg_len]; omega)
        rw [show chr t n (a1 + 1) = t (a1 + 1) from if_pos hlt2, sg_snoc (by omega)] at hg3
        cases h4 : (pTB t n 48 57 (a1 + 1 + 1)).1 with
        | false =>
          have em : mAnchor t n a = (true, a1 + 1 + 1) := by unfold mAnchor; rw [h1]; dsimp only; rw [h2]; dsimp only; rw [h3]; dsimp only; rw [pTB_f h4]
          rw [em]
          refine ⟨g3, hg3, EI_of mt_121 (Nat.le_of_ble_eq_true rfl) fun Q hq => ?_⟩
          refine wp_ok (cut := []) ma_121 rfl 24 _ _ _ _ ?_
          show CalI true (d + 2) 120 [vr 233 0] (mr σ a g) ((mr σ a g).1) (fun x2 s1 => ((¬ x2 = 0 → CalI true (d + 2) 115 [vr 233 0] s1 ((mr σ a g).1) (fun x4 s3 => ((x4 = (nI 45) → CalV true (d + 2) 119 [vr 233 0] s3 ((mr σ a g).1) (fun s5 => CalI true (d + 2) 115 [vr 233 0] s5 ((mr σ a g).1) (fun x7 s6 => CalI true (d + 2) 108 [vi x7, vi (nI 49), vi (nI 57)] s6 ((mr σ a g).1) (fun x9 s8 => ((¬ x9 = 0 → CalV true (d + 2) 119 [vr 233 0] s8 ((mr σ a g).1) (fun s10 => CalI true (d + 2) 118 [vr 233 0] s10 ((mr σ a g).1) (fun x12 s11 => ((x12 = 0 → (((nI 1) = 0 ∨ (nI 1) = 1) ∧ (Q (some (vi (nI 1))) s11 ∧ s11.1 = (mr σ a g).1))) ∧ (¬ x12 = 0 → CalV true (d + 2) 119 [vr 233 0] s11 ((mr σ a g).1) (fun s13 => (((nI 1) = 0 ∨ (nI 1) = 1) ∧ (Q (some (vi (nI 1))) s13 ∧ s13.1 = (mr σ a g).1)))))))) ∧ (x9 = 0 → (((nI 0) = 0 ∨ (nI 0) = 1) ∧ (Q (some (vi (nI 0))) s8 ∧ s8.1 = (mr σ a g).1)))))))) ∧ (¬ x4 = (nI 45) → (((nI 1) = 0 ∨ (nI 1) = 1) ∧ (Q (some (vi (nI 1))) s3 ∧ s3.1 = (mr σ a g).1)))))) ∧ (x2 = 0 → (((nI 0) = 0 ∨ (nI 0) = 1) ∧ (Q (some (vi (nI 0))) s1 ∧ s1.1 = (mr σ a g).1)))))
          refine cal_i e1 rfl (b_t' (cal_i (m_next (d + 2) hp l1.2.1 g1) rfl ?_))
          refine br_eq (chr_big hp _) (by omega) (fun _ => ?_) (fun h => absurd hch h)
          refine cal_v k2 rfl (cal_i (m_next (d + 2) hp hlt g2) rfl (cal_i (m_in (d + 2) _ (chr_big hp _) (by omega) (by omega)) rfl ?_))
          rw [chr_in hp (by omega), h3]
          refine b_t' (cal_v k3 rfl (cal_i (m_digit (d + 1) hp (by omega) g3) rfl ?_))
          rw [h4]
          exact b_f ⟨Or.inr rfl, hq, rfl⟩
        | true =>
          obtain ⟨e5, hlt3⟩ := pTB_t h4
          obtain ⟨g4, hg4, k4⟩ := m_keep (d + 1) hp (show a1 + 1 + 1 ≤ n by omega) hg3 (by rw [sg_len]; omega)
          rw [show chr t n (a1 + 1 + 1) = t (a1 + 1 + 1) from if_pos hlt3, sg_snoc (by omega)] at hg4
          have em : mAnchor t n a = (true, a1 + 1 + 1 + 1) := by unfold mAnchor; rw [h1]; dsimp only; rw [h2]; dsimp only; rw [h3]; dsimp only; rw [e5]
          rw [em]
          refine ⟨g4, hg4, EI_of mt_121 (Nat.le_of_ble_eq_true rfl) fun Q hq => ?_⟩
          refine wp_ok (cut := []) ma_121 rfl 24 _ _ _ _ ?_
          show CalI true (d + 2) 120 [vr 233 0] (mr σ a g) ((mr σ a g).1) (fun x2 s1 => ((¬ x2 = 0 → CalI true (d + 2) 115 [vr 233 0] s1 ((mr σ a g).1) (fun x4 s3 => ((x4 = (nI 45) → CalV true (d + 2) 119 [vr 233 0] s3 ((mr σ a g).1) (fun s5 => CalI true (d + 2) 115 [vr 233 0] s5 ((mr σ a g).1) (fun x7 s6 => CalI true (d + 2) 108 [vi x7, vi (nI 49), vi (nI 57)] s6 ((mr σ a g).1) (fun x9 s8 => ((¬ x9 = 0 → CalV true (d + 2) 119 [vr 233 0] s8 ((mr σ a g).1) (fun s10 => CalI true (d + 2) 118 [vr 233 0] s10 ((mr σ a g).1) (fun x12 s11 => ((x12 = 0 → (((nI 1) = 0 ∨ (nI 1) = 1) ∧ (Q (some (vi (nI 1))) s11 ∧ s11.1 = (mr σ a g).1))) ∧ (¬ x12 = 0 → CalV true (d + 2) 119 [vr 233 0] s11 ((mr σ a g).1) (fun s13 => (((nI 1) = 0 ∨ (nI 1) = 1) ∧ (Q (some (vi (nI 1))) s13 ∧ s13.1 = (mr σ a g).1)))))))) ∧ (x9 = 0 → (((nI 0) = 0 ∨ (nI 0) = 1) ∧ (Q (some (vi (nI 0))) s8 ∧ s8.1 = (mr σ a g).1)))))))) ∧ (¬ x4 = (nI 45) → (((nI 1) = 0 ∨ (nI 1) = 1) ∧ (Q (some (vi (nI 1))) s3 ∧ s3.1 = (mr σ a g).1)))))) ∧ (x2 = 0 → (((nI 0) = 0 ∨ (nI 0) = 1) ∧ (Q (some (vi (nI 0))) s1 ∧ s1.1 = (mr σ a g).1)))))
          refine cal_i e1 rfl (b_t' (cal_i (m_next (d + 2) hp l1.2.1 g1) rfl ?_))
          refine br_eq (chr_big hp _) (by omega) (fun _ => ?_) (fun h => absurd hch h)
          refine cal_v k2 rfl (cal_i (m_next (d + 2) hp hlt g2) rfl (cal_i (m_in (d + 2) _ (chr_big hp _) (by omega) (by omega)) rfl ?_))
          rw [chr_in hp (by omega), h3]
          refine b_t' (cal_v k3 rfl (cal_i (m_digit (d + 1) hp (by omega) g3) rfl ?_))
          rw [h4]
          exact b_t (cal_v k4 rfl ⟨Or.inr rfl, hq, rfl⟩)
theorem mPlace_b {a : Nat} (ha : a ≤ n) : a ≤ (mPlace t n a).2 ∧ (mPlace t n a).2 ≤ n := by
  unfold mPlace
  split
  · rename_i a1 h1; have := pTB_ff h1; show a ≤ a1 ∧ a1 ≤ n; omega
  · rename_i a1 h1
    have := pTB_tt h1
    split
    · rename_i a2 h2; have := pTB_ff h2; show a ≤ a2 ∧ a2 ≤ n; omega
    · rename_i a2 h2
      have := pTB_tt h2
      have := mAnchor_b (t := t) (show a2 ≤ n by omega)
      omega
theorem m_readPlace (d : Nat) (hp : PadM σ n t) {a : Nat} (ha : a ≤ n) (g : Nat → Int32) : ∃ g', RdM g' (plTx t n a) ∧ EI (d + 4) 123 [vr 233 0] (mr σ a g) (bI (mPlace t n a).1) (mr σ (mPlace t n a).2 g') := by
  rcases h1 : pTB t n 65 76 a with ⟨b, a1⟩
  cases b with
  | false =>
    have em : mPlace t n a = (false, a1) := by unfold mPlace; rw [h1]
    have ex : plTx t n a = [] := by unfold plTx; rw [h1]; rfl
    rw [em, ex]
    refine ⟨_, RdM_0 g, EI_of mt_123 (Nat.le_of_ble_eq_true rfl) fun Q hq => ?_⟩
    refine wp_ok (cut := []) ma_123 rfl 18 _ _ _ _ ?_
    show (vp_in (nI 0) 12 ∧ CalI true (d + 3) 122 [vr 233 0] (setI (mr σ a g) 237 0 0 (nI 0)) ((mr σ a g).1) (fun x2 s1 => ((¬ x2 = 0 → CalI true (d + 3) 116 [vr 233 0, vi (nI 35)] s1 ((mr σ a g).1) (fun x4 s3 => ((x4 = 0 → (((nI 1) = 0 ∨ (nI 1) = 1) ∧ (Q (some (vi (nI 1))) s3 ∧ s3.1 = (mr σ a g).1))) ∧ (¬ x4 = 0 → CalI true (d + 3) 121 [vr 233 0] s3 ((mr σ a g).1) (fun x6 s5 => ((x6 = 0 → (((nI 0) = 0 ∨ (nI 0) = 1) ∧ (Q (some (vi (nI 0))) s5 ∧ s5.1 = (mr σ a g).1))) ∧ (¬ x6 = 0 → (((nI 1) = 0 ∨ (nI 1) = 1) ∧ (Q (some (vi (nI 1))) s5 ∧ s5.1 = (mr σ a g).1))))))))) ∧ (x2 = 0 → (((nI 0) = 0 ∨ (nI 0) = 1) ∧ (Q (some (vi (nI 0))) s1 ∧ s1.1 = (mr σ a g).1))))))
    rw [mr_rd]
    refine ⟨inb (by omega) (by omega), cal_i (m_letter (d + 2) hp ha _) rfl ?_⟩
    rw [h1]
    exact b_f' ⟨Or.inl rfl, hq, rfl⟩
  | true =>
    obtain ⟨e1, hlt⟩ := pTB_tt h1
    subst e1
    rcases h2 : pT t n 35 (a + 1) with ⟨b, a2⟩
    cases b with
    | false =>
      have em : mPlace t n a = (true, a2) := by unfold mPlace; rw [h1]; dsimp only; rw [h2]
      have ex : plTx t n a = [] := by unfold plTx; rw [h1, h2]; rfl
      rw [em, ex]
      refine ⟨_, RdM_0 g, EI_of mt_123 (Nat.le_of_ble_eq_true rfl) fun Q hq => ?_⟩
      refine wp_ok (cut := []) ma_123 rfl 18 _ _ _ _ ?_
      show (vp_in (nI 0) 12 ∧ CalI true (d + 3) 122 [vr 233 0] (setI (mr σ a g) 237 0 0 (nI 0)) ((mr σ a g).1) (fun x2 s1 => ((¬ x2 = 0 → CalI true (d + 3) 116 [vr 233 0, vi (nI 35)] s1 ((mr σ a g).1) (fun x4 s3 => ((x4 = 0 → (((nI 1) = 0 ∨ (nI 1) = 1) ∧ (Q (some (vi (nI 1))) s3 ∧ s3.1 = (mr σ a g).1))) ∧ (¬ x4 = 0 → CalI true (d + 3) 121 [vr 233 0] s3 ((mr σ a g).1) (fun x6 s5 => ((x6 = 0 → (((nI 0) = 0 ∨ (nI 0) = 1) ∧ (Q (some (vi (nI 0))) s5 ∧ s5.1 = (mr σ a g).1))) ∧ (¬ x6 = 0 → (((nI 1) = 0 ∨ (nI 1) = 1) ∧ (Q (some (vi (nI 1))) s5 ∧ s5.1 = (mr σ a g).1))))))))) ∧ (x2 = 0 → (((nI 0) = 0 ∨ (nI 0) = 1) ∧ (Q (some (vi (nI 0))) s1 ∧ s1.1 = (mr σ a g).1))))))
      rw [mr_rd]
      refine ⟨inb (by omega) (by omega), cal_i (m_letter (d + 2) hp ha _) rfl ?_⟩
      rw [h1]
      refine b_t' (cal_i (m_isNext (d + 2) hp hlt (by omega) (by omega) _) rfl ?_)
      rw [h2]
      exact b_f ⟨Or.inr rfl, hq, rfl⟩
    | true =>
      obtain ⟨e2, hlt2⟩ := pTB_tt h2
      subst e2
      obtain ⟨g', hg', k⟩ := m_readAnchor d hp (show a + 1 + 1 ≤ n by omega) (upd g 0 (nI 0))
      have em : mPlace t n a = mAnchor t n (a + 1 + 1) := by unfold mPlace; rw [h1]; dsimp only; rw [h2]
      have ex : plTx t n a = sg t (a + 1 + 1) ((mAnchor t n (a + 1 + 1)).2 - (a + 1 + 1)) := by unfold plTx; rw [h1, h2, em]; rfl
      rw [em, ex]
      refine ⟨g', hg', EI_of mt_123 (Nat.le_of_ble_eq_true rfl) fun Q hq => ?_⟩
      refine wp_ok (cut := []) ma_123 rfl 18 _ _ _ _ ?_
      show (vp_in (nI 0) 12 ∧ CalI true (d + 3) 122 [vr 233 0] (setI (mr σ a g) 237 0 0 (nI 0)) ((mr σ a g).1) (fun x2 s1 => ((¬ x2 = 0 → CalI true (d + 3) 116 [vr 233 0, vi (nI 35)] s1 ((mr σ a g).1) (fun x4 s3 => ((x4 = 0 → (((nI 1) = 0 ∨ (nI 1) = 1) ∧ (Q (some (vi (nI 1))) s3 ∧ s3.1 = (mr σ a g).1))) ∧ (¬ x4 = 0 → CalI true (d + 3) 121 [vr 233 0] s3 ((mr σ a g).1) (fun x6 s5 => ((x6 = 0 → (((nI 0) = 0 ∨ (nI 0) = 1) ∧ (Q (some (vi (nI 0))) s5 ∧ s5.1 = (mr σ a g).1))) ∧ (¬ x6 = 0 → (((nI 1) = 0 ∨ (nI 1) = 1) ∧ (Q (some (vi (nI 1))) s5 ∧ s5.1 = (mr σ a g).1))))))))) ∧ (x2 = 0 → (((nI 0) = 0 ∨ (nI 0) = 1) ∧ (Q (some (vi (nI 0))) s1 ∧ s1.1 = (mr σ a g).1))))))
      rw [mr_rd]
      refine ⟨inb (by omega) (by omega), cal_i (m_letter (d + 2) hp ha _) rfl ?_⟩
      rw [h1]
      refine b_t' (cal_i (m_isNext (d + 2) hp hlt (by omega) (by omega) _) rfl ?_)
      rw [h2]
      refine b_t (cal_i k rfl ?_)
      rcases h3 : mAnchor t n (a + 1 + 1) with ⟨b, a3⟩
      rw [h3] at hq
      cases b with
      | false => exact b_f ⟨Or.inl rfl, hq, rfl⟩
      | true => exact b_t ⟨Or.inr rfl, hq, rfl⟩
theorem mEq_b : ∀ (k a : Nat), a ≤ n → a ≤ mEq t n k a ∧ mEq t n k a ≤ n := by
  intro k
  induction k with
  | zero => intro a h; exact ⟨Nat.le_refl _, h⟩
  | succ k ih =>
    intro a h
    unfold mEq
    split
    · rename_i q
      have := pT_t q
      have := ih (a + 1) (by omega)
      omega
    · exact ⟨Nat.le_refl _, h⟩
theorem s_mhead (d : Nat) (hp : PadM σ n t) (g : Nat → Int32) : ∀ (k i a : Nat), i + k = 3 → a ≤ n → ∃ g', ∀ Q : Option AV → Hp → Prop, Q (some (vi (bI (mName t n (mEq t n k a)).1))) (mr σ (mName t n (mEq t n k a)).2 g') → Sat true (d + 3) 124 σ.1 Q 2 [some (vr 233 0), some (vi (nI i))] [] (mr σ a g) := by
  intro k
  induction k with
  | zero =>
    intro i a hi ha
    obtain ⟨g', -, e⟩ := m_readName d hp ha g
    refine ⟨g', fun Q hq => ?_⟩
    refine wp_ok (cut := [2]) ma_124 rfl 10 _ _ _ _ ?_
    show (((nI 3) ≤ (nI i) → CalI true (d + 2) 120 [vr 233 0] (mr σ a g) σ.1 (fun x2 s1 => ((x2 = 0 ∨ x2 = 1) ∧ (Q (some (vi x2)) s1 ∧ s1.1 = σ.1)))) ∧ (¬ (nI 3) ≤ (nI i) → CalI true (d + 2) 116 [vr 233 0, vi (nI 61)] (mr σ a g) σ.1 (fun x4 s3 => ((x4 = 0 → CalI true (d + 2) 120 [vr 233 0] s3 σ.1 (fun x6 s5 => ((x6 = 0 ∨ x6 = 1) ∧ (Q (some (vi x6)) s5 ∧ s5.1 = σ.1)))) ∧ (¬ x4 = 0 → Sat true (d + 3) 124 σ.1 Q 2 [some (vr 233 0), some (vi ((nI i) + nI 1))] [] s3)))))
    exact br_le (by omega) (by omega) (fun _ => cal_i e rfl ⟨bI_01 _, hq, rfl⟩) (fun h => by omega)
  | succ k ih =>
    intro i a hi ha
    cases e : (pT t n 61 a).1 with
    | true =>
      obtain ⟨e1, hlt⟩ := pT_t e
      obtain ⟨g', hk⟩ := ih (i + 1) (a + 1) (by omega) hlt
      have em : mEq t n (k + 1) a = mEq t n k (a + 1) := by conv => lhs; unfold mEq; rw [e, if_pos rfl]
      rw [em]
      refine ⟨g', fun Q hq => ?_⟩
      refine wp_ok (cut := [2]) ma_124 rfl 10 _ _ _ _ ?_
      show (((nI 3) ≤ (nI i) → CalI true (d + 2) 120 [vr 233 0] (mr σ a g) σ.1 (fun x2 s1 => ((x2 = 0 ∨ x2 = 1) ∧ (Q (some (vi x2)) s1 ∧ s1.1 = σ.1)))) ∧ (¬ (nI 3) ≤ (nI i) → CalI true (d + 2) 116 [vr 233 0, vi (nI 61)] (mr σ a g) σ.1 (fun x4 s3 => ((x4 = 0 → CalI true (d + 2) 120 [vr 233 0] s3 σ.1 (fun x6 s5 => ((x6 = 0 ∨ x6 = 1) ∧ (Q (some (vi x6)) s5 ∧ s5.1 = σ.1)))) ∧ (¬ x4 = 0 → Sat true (d + 3) 124 σ.1 Q 2 [some (vr 233 0), some (vi ((nI i) + nI 1))] [] s3)))))
      refine br_le (by omega) (by omega) (fun h => by omega) (fun _ => cal_i (m_isNext (d + 1) hp ha (by omega) (by omega) g) rfl ?_)
      rw [e, e1, addN]
      exact b_t (hk Q hq)
    | false =>
      obtain ⟨g', -, e2⟩ := m_readName d hp ha g
      have em : mEq t n (k + 1) a = a := by unfold mEq; rw [e, if_neg (by decide)]
      rw [em]
      refine ⟨g', fun Q hq => ?_⟩
      refine wp_ok (cut := [2]) ma_124 rfl 10 _ _ _ _ ?_
      show (((nI 3) ≤ (nI i) → CalI true (d + 2) 120 [vr 233 0] (mr σ a g) σ.1 (fun x2 s1 => ((x2 = 0 ∨ x2 = 1) ∧ (Q (some (vi x2)) s1 ∧ s1.1 = σ.1)))) ∧ (¬ (nI 3) ≤ (nI i) → CalI true (d + 2) 116 [vr 233 0, vi (nI 61)] (mr σ a g) σ.1 (fun x4 s3 => ((x4 = 0 → CalI true (d + 2) 120 [vr 233 0] s3 σ.1 (fun x6 s5 => ((x6 = 0 ∨ x6 = 1) ∧ (Q (some (vi x6)) s5 ∧ s5.1 = σ.1)))) ∧ (¬ x4 = 0 → Sat true (d + 3) 124 σ.1 Q 2 [some (vr 233 0), some (vi ((nI i) + nI 1))] [] s3)))))
      refine br_le (by omega) (by omega) (fun h => by omega) (fun _ => cal_i (m_isNext (d + 1) hp ha (by omega) (by omega) g) rfl ?_)
      rw [e, pT_f e]
      exact b_f (cal_i e2 rfl ⟨bI_01 _, hq, rfl⟩)
theorem m_readHeading (d : Nat) (hp : PadM σ n t) {a : Nat} (ha : a ≤ n) (g : Nat → Int32) : ∃ g', EI (d + 3) 124 [vr 233 0] (mr σ a g) (bI (mHead t n a).1) (mr σ (mHead t n a).2 g') := by
  obtain ⟨g', hk⟩ := s_mhead d hp g 3 0 a (by omega) ha
  refine ⟨g', EI_of mt_124 (Nat.le_of_ble_eq_true rfl) fun Q hq => ?_⟩
  refine wp_ok (cut := [2]) ma_124 rfl 2 _ _ _ _ ?_
  show Sat true (d + 3) 124 ((mr σ a g).1) Q 2 [some (vr 233 0), some (vi (nI 0))] [] (mr σ a g)
  exact hk Q hq
theorem m_readInclude (d : Nat) (hp : PadM σ n t) {a : Nat} (ha : a ≤ n) (g : Nat → Int32) : EI (d + 2) 125 [vr 233 0] (mr σ a g) (bI (pIncl t n a).1) (mr σ (pIncl t n a).2 g) := by
  refine EI_of mt_125 (Nat.le_of_ble_eq_true rfl) fun Q hq => ?_
  refine wp_ok (cut := []) ma_125 rfl 27 _ _ _ _ ?_
  show CalI true (d + 1) 116 [vr 233 0, vi (nI 123)] (mr σ a g) ((mr σ a g).1) (fun x2 s1 => ((x2 = 0 → (((nI 0) = 0 ∨ (nI 0) = 1) ∧ (Q (some (vi (nI 0))) s1 ∧ s1.1 = (mr σ a g).1))) ∧ (¬ x2 = 0 → CalI true (d + 1) 122 [vr 233 0] s1 ((mr σ a g).1) (fun x4 s3 => ((¬ x4 = 0 → CalI true (d + 1) 116 [vr 233 0, vi (nI 43)] s3 ((mr σ a g).1) (fun x6 s5 => ((x6 = 0 → CalI true (d + 1) 116 [vr 233 0, vi (nI 125)] s5 ((mr σ a g).1) (fun x8 s7 => ((x8 = 0 ∨ x8 = 1) ∧ (Q (some (vi x8)) s7 ∧ s7.1 = (mr σ a g).1)))) ∧ (¬ x6 = 0 → CalI true (d + 1) 115 [vr 233 0] s5 ((mr σ a g).1) (fun x10 s9 => CalI true (d + 1) 108 [vi x10, vi (nI 48), vi (nI 50)] s9 ((mr σ a g).1) (fun x12 s11 => ((¬ x12 = 0 → CalI true (d + 1) 116 [vr 233 0, vi (nI 125)] (setI s11 233 0 6 ((hI s11 233 0 6) + (nI 1))) ((mr σ a g).1) (fun x14 s13 => ((x14 = 0 ∨ x14 = 1) ∧ (Q (some (vi x14)) s13 ∧ s13.1 = (mr σ a g).1)))) ∧ (x12 = 0 → (((nI 0) = 0 ∨ (nI 0) = 1) ∧ (Q (some (vi (nI 0))) s11 ∧ s11.1 = (mr σ a g).1)))))))))) ∧ (x4 = 0 → (((nI 0) = 0 ∨ (nI 0) = 1) ∧ (Q (some (vi (nI 0))) s3 ∧ s3.1 = (mr σ a g).1))))))))
  unfold pIncl at hq
  refine cal_i (m_isNext d hp ha (by omega) (by omega) g) rfl ?_
  have l1 := pT_le (t := t) (x := 123) ha
  rcases h1 : pT t n 123 a with ⟨b, a1⟩
  rw [h1] at hq l1
  cases b with
  | false => exact b_f ⟨Or.inl rfl, hq, rfl⟩
  | true =>
    refine b_t (cal_i (m_letter d hp l1 g) rfl ?_)
    have l2 := pTB_le (t := t) (x := 65) (y := 76) l1
    rcases h2 : pTB t n 65 76 a1 with ⟨b, a2⟩
    simp only [h2] at hq l2
    cases b with
    | false => exact b_f' ⟨Or.inl rfl, hq, rfl⟩
    | true =>
      refine b_t' (cal_i (m_isNext d hp l2 (by omega) (by omega) g) rfl ?_)
      have l3 := pT_le (t := t) (x := 43) l2
      rcases h3 : pT t n 43 a2 with ⟨b, a3⟩
      simp only [h3] at hq l3
      cases b with
      | false => exact b_f (cal_i (m_isNext d hp l3 (by omega) (by omega) g) rfl ⟨bI_01 _, hq, rfl⟩)
      | true =>
        have hc3 := chr_lt hp a3
        refine b_t (cal_i (m_next (d + 1) hp l3 g) rfl (cal_i (m_in (d + 1) _ (chr_big hp _) (by omega) (by omega)) rfl ?_))
        rw [chr_in hp (by omega)]
        rcases h4 : pTB t n 48 50 a3 with ⟨b, a4⟩
        simp only [h4] at hq
        cases b with
        | false =>
          have := pTB_ff h4
          subst this
          exact b_f' ⟨Or.inl rfl, hq, rfl⟩
        | true =>
          obtain ⟨e4, hlt⟩ := pTB_tt h4
          subst e4
          refine b_t' ?_
          show CalI true (d + 1) 116 [vr 233 0, vi (nI 125)] (setI (mr σ a3 g) 233 0 6 (nI a3 + nI 1)) _ _
          rw [addN, mr_at]
          exact cal_i (m_isNext d hp hlt (by omega) (by omega) g) rfl ⟨bI_01 _, hq, rfl⟩
end
end
section
/-! the model's reader: elements, lines, pages, redirects -/
/-- while good and ',' or ';': k is only a bound -/
def mEls (t : Nat → Nat) (n : Nat) : Nat → Nat → Bool × Nat
  | 0, a => mElem t n a
  | k + 1, a => match mElem t n a with
    | (false, a1) => (false, a1)
    | (true, a1) => match pT t n 44 a1 with
      | (false, a2) => (true, a2)
      | (true, a2) => mEls t n k a2
def mLine (t : Nat → Nat) (n a : Nat) : Bool × Nat := if isN t n 61 a then mHead t n a else if isN t n 123 a then pIncl t n a else mEls t n n a
def mPg (t : Nat → Nat) (n : Nat) : Nat → Nat → Bool × Nat
  | 0, a => mLine t n a
  | k + 1, a => match mLine t n a with
    | (false, a1) => (false, a1)
    | (true, a1) => match pT t n 59 a1 with
      | (false, a2) => (true, a2)
      | (true, a2) => mPg t n k a2
def mFin (n : Nat) (r : Bool × Nat) : Option Nat := if r.1 = true ∧ r.2 = n then none else some r.2
def mPageF (t : Nat → Nat) (n : Nat) : Option Nat := mFin n (mPg t n n 0)
section
variable {σ : Hp} {n : Nat} {t : Nat → Nat}
theorem mElem_b {a : Nat} (ha : a ≤ n) : a ≤ (mElem t n a).2 ∧ (mElem t n a).2 ≤ n := by
  unfold mElem
  split
  · rename_i a1 h1
    have := pTB_ff h1
    subst this
    have := mName_b (t := t) ha
    omega
  · rename_i a1 h1
    have e1 := pTB_tt h1
    have inner : a1 ≤ (mTgt t n a1).2 ∧ (mTgt t n a1).2 ≤ n := by
      unfold mTgt
      split
      · rename_i a2 h2
        have e2 := pTB_tt h2
        have := mAnchor_b (t := t) (show a2 ≤ n by omega)
        omega
      · rename_i a2 h2
        have e2 := pTB_ff h2
        have := mPlace_b (t := t) (show a2 ≤ n by omega)
        omega
    split
    · rename_i a3 h3; rw [h3] at inner; show a ≤ a3 ∧ a3 ≤ n; have inner : a1 ≤ a3 ∧ a3 ≤ n := inner; omega
    · rename_i a3 h3
      rw [h3] at inner
      have inner : a1 ≤ a3 ∧ a3 ≤ n := inner
      cases h4 : (pT t n 93 a3).1 with
      | true => have := pT_t h4; omega
      | false => rw [pT_f h4]; omega
theorem m_readElement (d : Nat) (hp : PadM σ n t) {a : Nat} (ha : a ≤ n) (g : Nat → Int32) : ∃ g', EI (d + 5) 126 [vr 233 0] (mr σ a g) (bI (mElem t n a).1) (mr σ (mElem t n a).2 g') := by
  rcases h1 : pT t n 91 a with ⟨b, a1⟩
  cases b with
  | false =>
    have e1 := pTB_ff h1
    subst e1
    obtain ⟨g', -, k⟩ := m_readName (d + 2) hp ha g
    have em : mElem t n a1 = mName t n a1 := by unfold mElem; rw [h1]
    rw [em]
    refine ⟨g', EI_of mt_126 (Nat.le_of_ble_eq_true rfl) fun Q hq => ?_⟩
    refine wp_ok (cut := []) ma_126 rfl 21 _ _ _ _ ?_
    show CalI true (d + 4) 116 [vr 233 0, vi (nI 91)] (mr σ a1 g) ((mr σ a1 g).1) (fun x2 s1 => ((¬ x2 = 0 → CalI true (d + 4) 116 [vr 233 0, vi (nI 35)] s1 ((mr σ a1 g).1) (fun x4 s3 => ((x4 = 0 → CalI true (d + 4) 123 [vr 233 0] s3 ((mr σ a1 g).1) (fun x6 s5 => ((x6 = 0 → (((nI 0) = 0 ∨ (nI 0) = 1) ∧ (Q (some (vi (nI 0))) s5 ∧ s5.1 = (mr σ a1 g).1))) ∧ (¬ x6 = 0 → CalI true (d + 4) 116 [vr 233 0, vi (nI 93)] s5 ((mr σ a1 g).1) (fun x8 s7 => ((x8 = 0 → (((nI 0) = 0 ∨ (nI 0) = 1) ∧ (Q (some (vi (nI 0))) s7 ∧ s7.1 = (mr σ a1 g).1))) ∧ (¬ x8 = 0 → (((nI 1) = 0 ∨ (nI 1) = 1) ∧ (Q (some (vi (nI 1))) s7 ∧ s7.1 = (mr σ a1 g).1))))))))) ∧ (¬ x4 = 0 → CalI true (d + 4) 121 [vr 233 0] s3 ((mr σ a1 g).1) (fun x10 s9 => ((x10 = 0 → (((nI 0) = 0 ∨ (nI 0) = 1) ∧ (Q (some (vi (nI 0))) s9 ∧ s9.1 = (mr σ a1 g).1))) ∧ (¬ x10 = 0 → CalI true (d + 4) 116 [vr 233 0, vi (nI 93)] s9 ((mr σ a1 g).1) (fun x12 s11 => ((x12 = 0 → (((nI 0) = 0 ∨ (nI 0) = 1) ∧ (Q (some (vi (nI 0))) s11 ∧ s11.1 = (mr σ a1 g).1))) ∧ (¬ x12 = 0 → (((nI 1) = 0 ∨ (nI 1) = 1) ∧ (Q (some (vi (nI 1))) s11 ∧ s11.1 = (mr σ a1 g).1)))))))))))) ∧ (x2 = 0 → CalI true (d + 4) 120 [vr 233 0] s1 ((mr σ a1 g).1) (fun x14 s13 => ((x14 = 0 ∨ x14 = 1) ∧ (Q (some (vi x14)) s13 ∧ s13.1 = (mr σ a1 g).1))))))
    refine cal_i (m_isNext (d + 3) hp ha (by omega) (by omega) g) rfl ?_
    rw [h1]
    exact b_f' (cal_i k rfl ⟨bI_01 _, hq, rfl⟩)
  | true =>
    obtain ⟨e1, hlt⟩ := pTB_tt h1
    subst e1
    rcases h2 : pT t n 35 (a + 1) with ⟨b, a2⟩
    cases b with
    | false =>
      have e2 := pTB_ff h2
      subst e2
      obtain ⟨g', -, k⟩ := m_readPlace d hp (show a + 1 ≤ n by omega) g
      have l3 := mPlace_b (t := t) (show a + 1 ≤ n by omega)
      rcases h3 : mPlace t n (a + 1) with ⟨b, a3⟩
      rw [h3] at k l3
      refine ⟨g', EI_of mt_126 (Nat.le_of_ble_eq_true rfl) fun Q hq => ?_⟩
      unfold mElem at hq
      simp only [mTgt, h1, h2, h3] at hq
      refine wp_ok (cut := []) ma_126 rfl 21 _ _ _ _ ?_
      show CalI true (d + 4) 116 [vr 233 0, vi (nI 91)] (mr σ a g) ((mr σ a g).1) (fun x2 s1 => ((¬ x2 = 0 → CalI true (d + 4) 116 [vr 233 0, vi (nI 35)] s1 ((mr σ a g).1) (fun x4 s3 => ((x4 = 0 → CalI true (d + 4) 123 [vr 233 0] s3 ((mr σ a g).1) (fun x6 s5 => ((x6 = 0 → (((nI 0) = 0 ∨ (nI 0) = 1) ∧ (Q (some (vi (nI 0))) s5 ∧ s5.1 = (mr σ a g).1))) ∧ (¬ x6 = 0 → CalI true (d + 4) 116 [vr 233 0, vi (nI 93)] s5 ((mr σ a g).1) (fun x8 s7 => ((x8 = 0 → (((nI 0) = 0 ∨ (nI 0) = 1) ∧ (Q (some (vi (nI 0))) s7 ∧ s7.1 = (mr σ a g).1))) ∧ (¬ x8 = 0 → (((nI 1) = 0 ∨ (nI 1) = 1) ∧ (Q (some (vi (nI 1))) s7 ∧ s7.1 = (mr σ a g).1))))))))) ∧ (¬ x4 = 0 → CalI true (d + 4) 121 [vr 233 0] s3 ((mr σ a g).1) (fun x10 s9 => ((x10 = 0 → (((nI 0) = 0 ∨ (nI 0) = 1) ∧ (Q (some (vi (nI 0))) s9 ∧ s9.1 = (mr σ a g).1))) ∧ (¬ x10 = 0 → CalI true (d + 4) 116 [vr 233 0, vi (nI 93)] s9 ((mr σ a g).1) (fun x12 s11 => ((x12 = 0 → (((nI 0) = 0 ∨ (nI 0) = 1) ∧ (Q (some (vi (nI 0))) s11 ∧ s11.1 = (mr σ a g).1))) ∧ (¬ x12 = 0 → (((nI 1) = 0 ∨ (nI 1) = 1) ∧ (Q (some (vi (nI 1))) s11 ∧ s11.1 = (mr σ a g).1)))))))))))) ∧ (x2 = 0 → CalI true (d + 4) 120 [vr 233 0] s1 ((mr σ a g).1) (fun x14 s13 => ((x14 = 0 ∨ x14 = 1) ∧ (Q (some (vi x14)) s13 ∧ s13.1 = (mr σ a g).1))))))
      refine cal_i (m_isNext (d + 3) hp ha (by omega) (by omega) g) rfl ?_
      rw [h1]
      refine b_t' (cal_i (m_isNext (d + 3) hp hlt (by omega) (by omega) g) rfl ?_)
      rw [h2]
      refine b_f (cal_i k rfl ?_)
      cases b with
      | false => exact b_f ⟨Or.inl rfl, hq, rfl⟩
      | true =>
        refine b_t (cal_i (m_isNext (d + 3) hp l3.2 (by omega) (by omega) g') rfl ?_)
        rcases h4 : pT t n 93 a3 with ⟨b, a4⟩
        simp only [h4] at hq
        cases b with
        | false => exact b_f ⟨Or.inl rfl, hq, rfl⟩
        | true => exact b_t ⟨Or.inr rfl, hq, rfl⟩
    | true =>
      obtain ⟨e2, hlt2⟩ := pTB_tt h2
      subst e2
      obtain ⟨g', -, k⟩ := m_readAnchor (d + 1) hp (show a + 1 + 1 ≤ n by omega) g
      have l3 := mAnchor_b (t := t) (show a + 1 + 1 ≤ n by omega)
      rcases h3 : mAnchor t n (a + 1 + 1) with ⟨b, a3⟩
      rw [h3] at k l3
      refine ⟨g', EI_of mt_126 (Nat.le_of_ble_eq_true rfl) fun Q hq => ?_⟩
      unfold mElem at hq
      simp only [mTgt, h1, h2, h3] at hq
      refine wp_ok (cut := []) ma_126 rfl 21 _ _ _ _ ?_
      show CalI true (d + 4) 116 [vr 233 0, vi (nI 91)] (mr σ a g) ((mr σ a g).1) (fun x2 s1 => ((¬ x2 = 0 → CalI true (d + 4) 116 [vr 233 0, vi (nI 35)] s1 ((mr σ a g).1) (fun x4 s3 => ((x4 = 0 → CalI true (d + 4) 123 [vr 233 0] s3 ((mr σ a g).1) (fun x6 s5 => ((x6 = 0 → (((nI 0) = 0 ∨ (nI 0) = 1) ∧ (Q (some (vi (nI 0))) s5 ∧ s5.1 = (mr σ a g).1))) ∧ (¬ x6 = 0 → CalI true (d + 4) 116 [vr 233 0, vi (nI 93)] s5 ((mr σ a g).1) (fun x8 s7 => ((x8 = 0 → (((nI 0) = 0 ∨ (nI 0) = 1) ∧ (Q (some (vi (nI 0))) s7 ∧ s7.1 = (mr σ a g).1))) ∧ (¬ x8 = 0 → (((nI 1) = 0 ∨ (nI 1) = 1) ∧ (Q (some (vi (nI 1))) s7 ∧ s7.1 = (mr σ a g).1))))))))) ∧ (¬ x4 = 0 → CalI true (d + 4) 121 [vr 233 0] s3 ((mr σ a g).1) (fun x10 s9 => ((x10 = 0 → (((nI 0) = 0 ∨ (nI 0) = 1) ∧ (Q (some (vi (nI 0))) s9 ∧ s9.1 = (mr σ a g).1))) ∧ (¬ x10 = 0 → CalI true (d + 4) 116 [vr 233 0, vi (nI 93)] s9 ((mr σ a g).1) (fun x12 s11 => ((x12 = 0 → (((nI 0) = 0 ∨ (nI 0) = 1) ∧ (Q (some (vi (nI 0))) s11 ∧ s11.1 = (mr σ a g).1))) ∧ (¬ x12 = 0 → (((nI 1) = 0 ∨ (nI 1) = 1) ∧ (Q (some (vi (nI 1))) s11 ∧ s11.1 = (mr σ a g).1)))))))))))) ∧ (x2 = 0 → CalI true (d + 4) 120 [vr 233 0] s1 ((mr σ a g).1) (fun x14 s13 => ((x14 = 0 ∨ x14 = 1) ∧ (Q (some (vi x14)) s13 ∧ s13.1 = (mr σ a g).1))))))
      refine cal_i (m_isNext (d + 3) hp ha (by omega) (by omega) g) rfl ?_
      rw [h1]
      refine b_t' (cal_i (m_isNext (d + 3) hp hlt (by omega) (by omega) g) rfl ?_)
      rw [h2]
      refine b_t (cal_i k rfl ?_)
      cases b with
      | false => exact b_f ⟨Or.inl rfl, hq, rfl⟩
      | true =>
        refine b_t (cal_i (m_isNext (d + 3) hp l3.2.1 (by omega) (by omega) g') rfl ?_)
        rcases h4 : pT t n 93 a3 with ⟨b, a4⟩
        simp only [h4] at hq
        cases b with
        | false => exact b_f ⟨Or.inl rfl, hq, rfl⟩
        | true => exact b_t ⟨Or.inr rfl, hq, rfl⟩
/-- the loop, behind a first element that ended at a with b; k bounds what is left -/
theorem s_mels (d : Nat) (hp : PadM σ n t) : ∀ (k a : Nat) (b : Bool) (g : Nat → Int32), a ≤ n → n ≤ a + k → ∃ g', ∀ Q : Option AV → Hp → Prop, (Q (some (vi (bI (match (b, a) with
      | (false, a1) => (false, a1)
      | (true, a1) => match pT t n 44 a1 with
        | (false, a2) => (true, a2)
        | (true, a2) => mEls t n (k - 1) a2).1))) (mr σ (match (b, a) with
      | (false, a1) => (false, a1)
      | (true, a1) => match pT t n 44 a1 with
        | (false, a2) => (true, a2)
        | (true, a2) => mEls t n (k - 1) a2).2 g')) → Sat true (d + 6) 127 σ.1 Q 5 [some (vr 233 0), some (vi (bI b))] [] (mr σ a g) := by
  intro k
  induction k with
  | zero =>
    intro a b g ha hk
    refine ⟨g, fun Q hq => ?_⟩
    refine wp_ok (cut := [5]) ma_127 rfl 10 _ _ _ _ ?_
    show (((bI b) = 0 → (((bI b) = 0 ∨ (bI b) = 1) ∧ (Q (some (vi (bI b))) (mr σ a g) ∧ (mr σ a g).1 = σ.1))) ∧ (¬ (bI b) = 0 → CalI true (d + 5) 116 [vr 233 0, vi (nI 44)] (mr σ a g) σ.1 (fun x2 s1 => ((x2 = 0 → (((bI b) = 0 ∨ (bI b) = 1) ∧ (Q (some (vi (bI b))) s1 ∧ s1.1 = σ.1))) ∧ (¬ x2 = 0 → CalI true (d + 5) 126 [vr 233 0] s1 σ.1 (fun x4 s3 => Sat true (d + 6) 127 σ.1 Q 5 [some (vr 233 0), some (vi x4)] [] s3))))))
    cases b with
    | false => exact b_f ⟨Or.inl rfl, hq, rfl⟩
    | true =>
      refine b_t (cal_i (m_isNext (d + 4) hp ha (by omega) (by omega) g) rfl ?_)
      rcases h1 : pT t n 44 a with ⟨b, a1⟩
      simp only [h1] at hq
      cases b with
      | false => exact b_f ⟨Or.inr rfl, hq, rfl⟩
      | true => have := pTB_tt h1; omega
  | succ k ih =>
    intro a b g ha hk
    cases b with
    | false =>
      refine ⟨g, fun Q hq => ?_⟩
      refine wp_ok (cut := [5]) ma_127 rfl 10 _ _ _ _ ?_
      show (((bI false) = 0 → (((bI false) = 0 ∨ (bI false) = 1) ∧ (Q (some (vi (bI false))) (mr σ a g) ∧ (mr σ a g).1 = σ.1))) ∧ (¬ (bI false) = 0 → CalI true (d + 5) 116 [vr 233 0, vi (nI 44)] (mr σ a g) σ.1 (fun x2 s1 => ((x2 = 0 → (((bI false) = 0 ∨ (bI false) = 1) ∧ (Q (some (vi (bI false))) s1 ∧ s1.1 = σ.1))) ∧ (¬ x2 = 0 → CalI true (d + 5) 126 [vr 233 0] s1 σ.1 (fun x4 s3 => Sat true (d + 6) 127 σ.1 Q 5 [some (vr 233 0), some (vi x4)] [] s3))))))
      exact b_f ⟨Or.inl rfl, hq, rfl⟩
    | true =>
      rcases h1 : pT t n 44 a with ⟨b, a1⟩
      cases b with
      | false =>
        refine ⟨g, fun Q hq => ?_⟩
        refine wp_ok (cut := [5]) ma_127 rfl 10 _ _ _ _ ?_
        show (((bI true) = 0 → (((bI true) = 0 ∨ (bI true) = 1) ∧ (Q (some (vi (bI true))) (mr σ a g) ∧ (mr σ a g).1 = σ.1))) ∧ (¬ (bI true) = 0 → CalI true (d + 5) 116 [vr 233 0, vi (nI 44)] (mr σ a g) σ.1 (fun x2 s1 => ((x2 = 0 → (((bI true) = 0 ∨ (bI true) = 1) ∧ (Q (some (vi (bI true))) s1 ∧ s1.1 = σ.1))) ∧ (¬ x2 = 0 → CalI true (d + 5) 126 [vr 233 0] s1 σ.1 (fun x4 s3 => Sat true (d + 6) 127 σ.1 Q 5 [some (vr 233 0), some (vi x4)] [] s3))))))
        simp only [h1] at hq
        refine b_t (cal_i (m_isNext (d + 4) hp ha (by omega) (by omega) g) rfl ?_)
        rw [h1]
        exact b_f ⟨Or.inr rfl, hq, rfl⟩
      | true =>
        obtain ⟨e1, hlt⟩ := pTB_tt h1
        subst e1
        obtain ⟨g1, k1⟩ := m_readElement d hp (show a + 1 ≤ n by omega) g
        have l1 := mElem_b (t := t) (show a + 1 ≤ n by omega)
        rcases h2 : mElem t n (a + 1) with ⟨b2, a2⟩
        rw [h2] at k1 l1
        have l1 : a + 1 ≤ a2 ∧ a2 ≤ n := l1
        obtain ⟨g2, hrest⟩ := ih a2 b2 g1 l1.2 (by omega)
        refine ⟨g2, fun Q hq => ?_⟩
        refine wp_ok (cut := [5]) ma_127 rfl 10 _ _ _ _ ?_
        show (((bI true) = 0 → (((bI true) = 0 ∨ (bI true) = 1) ∧ (Q (some (vi (bI true))) (mr σ a g) ∧ (mr σ a g).1 = σ.1))) ∧ (¬ (bI true) = 0 → CalI true (d + 5) 116 [vr 233 0, vi (nI 44)] (mr σ a g) σ.1 (fun x2 s1 => ((x2 = 0 → (((bI true) = 0 ∨ (bI true) = 1) ∧ (Q (some (vi (bI true))) s1 ∧ s1.1 = σ.1))) ∧ (¬ x2 = 0 → CalI true (d + 5) 126 [vr 233 0] s1 σ.1 (fun x4 s3 => Sat true (d + 6) 127 σ.1 Q 5 [some (vr 233 0), some (vi x4)] [] s3))))))
        simp only [Nat.add_sub_cancel] at hq
        refine b_t (cal_i (m_isNext (d + 4) hp ha (by omega) (by omega) g) rfl ?_)
        rw [h1]
        refine b_t (cal_i k1 rfl (hrest Q ?_))
        have em : mEls t n k (a + 1) = (match (b2, a2) with
          | (false, a1) => (false, a1)
          | (true, a1) => match pT t n 44 a1 with
            | (false, a2) => (true, a2)
            | (true, a2) => mEls t n (k - 1) a2) := by
          cases k with
          | zero =>
            show mElem t n (a + 1) = _
            rw [h2]
            cases b2 with
            | false => rfl
            | true =>
              dsimp only
              rcases h3 : pT t n 44 a2 with ⟨b3, a3⟩
              cases b3 with
              | false => have := pTB_ff h3; subst this; rfl
              | true => have := pTB_tt h3; omega
          | succ k =>
            conv => lhs; unfold mEls
            rw [h2]
            rfl
        rw [← em]
        simp only [h1] at hq
        exact hq
theorem m_readElements (d : Nat) (hp : PadM σ n t) {a : Nat} (ha : a ≤ n) (g : Nat → Int32) : ∃ g', EI (d + 6) 127 [vr 233 0] (mr σ a g) (bI (mEls t n n a).1) (mr σ (mEls t n n a).2 g') := by
  obtain ⟨g1, k1⟩ := m_readElement d hp ha g
  have l1 := mElem_b (t := t) ha
  rcases h2 : mElem t n a with ⟨b2, a2⟩
  rw [h2] at k1 l1
  have l1 : a ≤ a2 ∧ a2 ≤ n := l1
  obtain ⟨g2, hrest⟩ := s_mels d hp n a2 b2 g1 l1.2 (by omega)
  refine ⟨g2, EI_of mt_127 (Nat.le_of_ble_eq_true rfl) fun Q hq => ?_⟩
  refine wp_ok (cut := [5]) ma_127 rfl 3 _ _ _ _ ?_
  show CalI true (d + 5) 126 [vr 233 0] (mr σ a g) ((mr σ a g).1) (fun x2 s1 => Sat true (d + 6) 127 ((mr σ a g).1) Q 5 [some (vr 233 0), some (vi x2)] [] s1)
  refine cal_i k1 rfl (hrest Q ?_)
  have em : mEls t n n a = (match (b2, a2) with
    | (false, a1) => (false, a1)
    | (true, a1) => match pT t n 44 a1 with
      | (false, a2) => (true, a2)
      | (true, a2) => mEls t n (n - 1) a2) := by
    cases n with
    | zero =>
      show mElem t 0 a = _
      rw [h2]
      cases b2 with
      | false => rfl
      | true =>
        dsimp only
        rcases h3 : pT t 0 44 a2 with ⟨b3, a3⟩
        cases b3 with
        | false => have := pTB_ff h3; subst this; rfl
        | true => have := pTB_tt h3; omega
    | succ k =>
      conv => lhs; unfold mEls
      rw [h2]
      rfl
  rw [← em]
  exact hq
theorem mEls_b : ∀ (k a : Nat), a ≤ n → a ≤ (mEls t n k a).2 ∧ (mEls t n k a).2 ≤ n := by
  intro k
  induction k with
  | zero => intro a h; exact mElem_b h
  | succ k ih =>
    intro a h
    unfold mEls
    have l1 := mElem_b (t := t) h
    split
    · rename_i a1 h1; rw [h1] at l1; exact l1
    · rename_i a1 h1
      rw [h1] at l1
      have l1 : a ≤ a1 ∧ a1 ≤ n := l1
      split
      · rename_i a2 h2; have := pTB_ff h2; show a ≤ a2 ∧ a2 ≤ n; omega
      · rename_i a2 h2
        have := pTB_tt h2
        have := ih a2 (by omega)
        omega
theorem pIncl_ge {a : Nat} : a ≤ (pIncl t n a).2 := by
  have q : ∀ x y a, a ≤ (pTB t n x y a).2 := fun x y a => by
    unfold pTB
    split
    · exact Nat.le_succ a
    · exact Nat.le_refl a
  unfold pIncl
  have l1 := q 123 123 a
  split
  · rename_i a1 h1; unfold pT at h1; rw [h1] at l1; exact l1
  · rename_i a1 h1
    unfold pT at h1
    rw [h1] at l1
    have l1 : a ≤ a1 := l1
    have l2 := q 65 76 a1
    split
    · rename_i a2 h2; rw [h2] at l2; exact Nat.le_trans l1 l2
    · rename_i a2 h2
      rw [h2] at l2
      have l2 : a1 ≤ a2 := l2
      have l3 := q 43 43 a2
      split
      · rename_i a3 h3; unfold pT at h3; rw [h3] at l3; have l3 : a2 ≤ a3 := l3; have := q 125 125 a3; unfold pT; omega
      · rename_i a3 h3
        unfold pT at h3
        rw [h3] at l3
        have l3 : a2 ≤ a3 := l3
        have l4 := q 48 50 a3
        split
        · rename_i a4 h4; rw [h4] at l4; have l4 : a3 ≤ a4 := l4; show a ≤ a4; omega
        · rename_i a4 h4; rw [h4] at l4; have l4 : a3 ≤ a4 := l4; have := q 125 125 a4; unfold pT; omega
theorem mLine_b {a : Nat} (ha : a ≤ n) : a ≤ (mLine t n a).2 ∧ (mLine t n a).2 ≤ n := by
  unfold mLine
  split
  · unfold mHead
    have h1 := mEq_b (t := t) 3 a ha
    have h2 := mName_b (t := t) h1.2
    omega
  · split
    · exact ⟨pIncl_ge, pIncl_le ha⟩
    · exact mEls_b n a ha
theorem chr_isN (hp : PadM σ n t) {a c : Nat} (hc : 0 < c) : (chr t n a = c) ↔ isN t n c a = true := by
  unfold chr isN
  rw [decide_eq_true_iff]
  by_cases h : a < n
  · rw [if_pos h]; exact ⟨fun q => ⟨h, q⟩, fun q => q.2⟩
  · rw [if_neg h]; exact ⟨fun q => by omega, fun q => absurd q.1 h⟩
theorem m_readLine (d : Nat) (hp : PadM σ n t) {a : Nat} (ha : a ≤ n) (g : Nat → Int32) : ∃ g', EI (d + 7) 128 [vr 233 0] (mr σ a g) (bI (mLine t n a).1) (mr σ (mLine t n a).2 g') := by
  unfold mLine
  cases h1 : isN t n 61 a with
  | true =>
    obtain ⟨g', k⟩ := m_readHeading (d + 3) hp ha g
    refine ⟨g', EI_of mt_128 (Nat.le_of_ble_eq_true rfl) fun Q hq => ?_⟩
    rw [if_pos rfl] at hq
    refine wp_ok (cut := []) ma_128 rfl 12 _ _ _ _ ?_
    show CalI true (d + 6) 115 [vr 233 0] (mr σ a g) ((mr σ a g).1) (fun x2 s1 => ((¬ x2 = (nI 61) → CalI true (d + 6) 115 [vr 233 0] s1 ((mr σ a g).1) (fun x4 s3 => ((¬ x4 = (nI 123) → CalI true (d + 6) 127 [vr 233 0] s3 ((mr σ a g).1) (fun x6 s5 => ((x6 = 0 ∨ x6 = 1) ∧ (Q (some (vi x6)) s5 ∧ s5.1 = (mr σ a g).1)))) ∧ (x4 = (nI 123) → CalI true (d + 6) 125 [vr 233 0] s3 ((mr σ a g).1) (fun x8 s7 => ((x8 = 0 ∨ x8 = 1) ∧ (Q (some (vi x8)) s7 ∧ s7.1 = (mr σ a g).1))))))) ∧ (x2 = (nI 61) → CalI true (d + 6) 124 [vr 233 0] s1 ((mr σ a g).1) (fun x10 s9 => ((x10 = 0 ∨ x10 = 1) ∧ (Q (some (vi x10)) s9 ∧ s9.1 = (mr σ a g).1))))))
    refine cal_i (m_next (d + 6) hp ha g) rfl (br_ne (chr_big hp _) (by omega) (fun h => absurd ((chr_isN hp (by omega)).mpr h1) h) (fun _ => ?_))
    exact cal_i k rfl ⟨bI_01 _, hq, rfl⟩
  | false =>
    have n1 : chr t n a ≠ 61 := fun q => by rw [(chr_isN hp (by omega)).mp q] at h1; cases h1
    cases h2 : isN t n 123 a with
    | true =>
      refine ⟨g, EI_of mt_128 (Nat.le_of_ble_eq_true rfl) fun Q hq => ?_⟩
      rw [if_neg (by decide), if_pos rfl] at hq
      refine wp_ok (cut := []) ma_128 rfl 12 _ _ _ _ ?_
      show CalI true (d + 6) 115 [vr 233 0] (mr σ a g) ((mr σ a g).1) (fun x2 s1 => ((¬ x2 = (nI 61) → CalI true (d + 6) 115 [vr 233 0] s1 ((mr σ a g).1) (fun x4 s3 => ((¬ x4 = (nI 123) → CalI true (d + 6) 127 [vr 233 0] s3 ((mr σ a g).1) (fun x6 s5 => ((x6 = 0 ∨ x6 = 1) ∧ (Q (some (vi x6)) s5 ∧ s5.1 = (mr σ a g).1)))) ∧ (x4 = (nI 123) → CalI true (d + 6) 125 [vr 233 0] s3 ((mr σ a g).1) (fun x8 s7 => ((x8 = 0 ∨ x8 = 1) ∧ (Q (some (vi x8)) s7 ∧ s7.1 = (mr σ a g).1))))))) ∧ (x2 = (nI 61) → CalI true (d + 6) 124 [vr 233 0] s1 ((mr σ a g).1) (fun x10 s9 => ((x10 = 0 ∨ x10 = 1) ∧ (Q (some (vi x10)) s9 ∧ s9.1 = (mr σ a g).1))))))
      refine cal_i (m_next (d + 6) hp ha g) rfl (br_ne (chr_big hp _) (by omega) (fun _ => ?_) (fun h => absurd h n1))
      refine cal_i (m_next (d + 6) hp ha g) rfl (br_ne (chr_big hp _) (by omega) (fun h => absurd ((chr_isN hp (by omega)).mpr h2) h) (fun _ => ?_))
      exact cal_i (m_readInclude (d + 4) hp ha g) rfl ⟨bI_01 _, hq, rfl⟩
    | false =>
      have n2 : chr t n a ≠ 123 := fun q => by rw [(chr_isN hp (by omega)).mp q] at h2; cases h2
      obtain ⟨g', k⟩ := m_readElements d hp ha g
      refine ⟨g', EI_of mt_128 (Nat.le_of_ble_eq_true rfl) fun Q hq => ?_⟩
      rw [if_neg (by decide), if_neg (by decide)] at hq
      refine wp_ok (cut := []) ma_128 rfl 12 _ _ _ _ ?_
      show CalI true (d + 6) 115 [vr 233 0] (mr σ a g) ((mr σ a g).1) (fun x2 s1 => ((¬ x2 = (nI 61) → CalI true (d + 6) 115 [vr 233 0] s1 ((mr σ a g).1) (fun x4 s3 => ((¬ x4 = (nI 123) → CalI true (d + 6) 127 [vr 233 0] s3 ((mr σ a g).1) (fun x6 s5 => ((x6 = 0 ∨ x6 = 1) ∧ (Q (some (vi x6)) s5 ∧ s5.1 = (mr σ a g).1)))) ∧ (x4 = (nI 123) → CalI true (d + 6) 125 [vr 233 0] s3 ((mr σ a g).1) (fun x8 s7 => ((x8 = 0 ∨ x8 = 1) ∧ (Q (some (vi x8)) s7 ∧ s7.1 = (mr σ a g).1))))))) ∧ (x2 = (nI 61) → CalI true (d + 6) 124 [vr 233 0] s1 ((mr σ a g).1) (fun x10 s9 => ((x10 = 0 ∨ x10 = 1) ∧ (Q (some (vi x10)) s9 ∧ s9.1 = (mr σ a g).1))))))
      refine cal_i (m_next (d + 6) hp ha g) rfl (br_ne (chr_big hp _) (by omega) (fun _ => ?_) (fun h => absurd h n1))
      refine cal_i (m_next (d + 6) hp ha g) rfl (br_ne (chr_big hp _) (by omega) (fun _ => ?_) (fun h => absurd h n2))
      exact cal_i k rfl ⟨bI_01 _, hq, rfl⟩
/-- how a page's reading goes on behind a line that ended at a with b -/
def mPgN (t : Nat → Nat) (n k : Nat) (r : Bool × Nat) : Bool × Nat :=
  match r with
  | (false, a1) => (false, a1)
  | (true, a1) => match pT t n 59 a1 with
    | (false, a2) => (true, a2)
    | (true, a2) => mPg t n (k - 1) a2
theorem mPg_eq (k a : Nat) (ha : a ≤ n) (hk : n ≤ a + k) : mPg t n k a = mPgN t n k (mLine t n a) := by
  cases k with
  | zero =>
    show mLine t n a = _
    have l := mLine_b (t := t) ha
    unfold mPgN
    rcases h2 : mLine t n a with ⟨b2, a2⟩
    rw [h2] at l
    have l : a ≤ a2 ∧ a2 ≤ n := l
    cases b2 with
    | false => rfl
    | true =>
      dsimp only
      rcases h3 : pT t n 59 a2 with ⟨b3, a3⟩
      cases b3 with
      | false => have := pTB_ff h3; subst this; rfl
      | true => have := pTB_tt h3; omega
  | succ k =>
    conv => lhs; unfold mPg
    unfold mPgN
    rfl
theorem s_mpg (d : Nat) (hp : PadM σ n t) : ∀ (k a : Nat) (b : Bool) (g : Nat → Int32), a ≤ n → n ≤ a + k → ∃ g', ∀ Q : Option AV → Hp → Prop, Q (some (vi (fI (mFin n (mPgN t n k (b, a)))))) (mr σ (mPgN t n k (b, a)).2 g') → Sat true (d + 8) 129 σ.1 Q 10 [some (vr 233 0), some (vi (bI b))] [] (mr σ a g) := by
  have hn := hp.1
  have fin : ∀ (b : Bool) (a : Nat) (g : Nat → Int32) (Q : Option AV → Hp → Prop), a ≤ n → Q (some (vi (fI (mFin n (b, a))))) (mr σ a g) → ((bI b = 0 → (Q (some (vi (nI a))) (mr σ a g) ∧ (mr σ a g).1 = σ.1)) ∧ (¬ bI b = 0 → ((¬ nI a = hI σ 233 0 1 → (Q (some (vi (nI a))) (mr σ a g) ∧ (mr σ a g).1 = σ.1)) ∧ (nI a = hI σ 233 0 1 → (Q (some (vi (-6))) (mr σ a g) ∧ (mr σ a g).1 = σ.1))))) := by
    intro b a g Q ha hq
    rw [hp.2.1]
    unfold mFin at hq
    cases b with
    | false =>
      rw [if_neg (fun q => by cases q.1)] at hq
      exact b_f ⟨hq, rfl⟩
    | true =>
      refine b_t (br_ne (by omega) (by omega) (fun h => ?_) (fun h => ?_))
      · rw [if_neg (fun q => h q.2)] at hq
        exact ⟨hq, rfl⟩
      · rw [if_pos ⟨rfl, h⟩] at hq
        exact ⟨hq, rfl⟩
  intro k
  induction k with
  | zero =>
    intro a b g ha hk
    refine ⟨g, fun Q hq => ?_⟩
    unfold mPgN at hq
    refine wp_ok (cut := [10]) ma_129 rfl 16 _ _ _ _ ?_
    show (((bI b) = 0 → (((bI b) = 0 → (Q (some (vi (nI a))) (mr σ a g) ∧ (mr σ a g).1 = σ.1)) ∧ (¬ (bI b) = 0 → ((¬ (nI a) = (hI σ 233 0 1) → (Q (some (vi (nI a))) (mr σ a g) ∧ (mr σ a g).1 = σ.1)) ∧ ((nI a) = (hI σ 233 0 1) → (Q (some (vi (-6))) (mr σ a g) ∧ (mr σ a g).1 = σ.1)))))) ∧ (¬ (bI b) = 0 → CalI true (d + 7) 116 [vr 233 0, vi (nI 59)] (mr σ a g) σ.1 (fun x2 s1 => ((x2 = 0 → (((bI b) = 0 → (Q (some (vi (hI s1 233 0 6))) s1 ∧ s1.1 = σ.1)) ∧ (¬ (bI b) = 0 → ((¬ (hI s1 233 0 6) = (hI s1 233 0 1) → (Q (some (vi (hI s1 233 0 6))) s1 ∧ s1.1 = σ.1)) ∧ ((hI s1 233 0 6) = (hI s1 233 0 1) → (Q (some (vi (-6))) s1 ∧ s1.1 = σ.1)))))) ∧ (¬ x2 = 0 → CalI true (d + 7) 128 [vr 233 0] s1 σ.1 (fun x4 s3 => Sat true (d + 8) 129 σ.1 Q 10 [some (vr 233 0), some (vi x4)] [] s3))))))
    cases b with
    | false => exact b_f (fin false a g Q ha hq)
    | true =>
      refine b_t (cal_i (m_isNext (d + 6) hp ha (by omega) (by omega) g) rfl ?_)
      rcases h1 : pT t n 59 a with ⟨b, a1⟩
      simp only [h1] at hq
      cases b with
      | false =>
        have := pTB_ff h1
        subst this
        exact b_f (fin true a1 g Q ha hq)
      | true => have := pTB_tt h1; omega
  | succ k ih =>
    intro a b g ha hk
    cases b with
    | false =>
      refine ⟨g, fun Q hq => ?_⟩
      refine wp_ok (cut := [10]) ma_129 rfl 16 _ _ _ _ ?_
      show (((bI false) = 0 → (((bI false) = 0 → (Q (some (vi (nI a))) (mr σ a g) ∧ (mr σ a g).1 = σ.1)) ∧ (¬ (bI false) = 0 → ((¬ (nI a) = (hI σ 233 0 1) → (Q (some (vi (nI a))) (mr σ a g) ∧ (mr σ a g).1 = σ.1)) ∧ ((nI a) = (hI σ 233 0 1) → (Q (some (vi (-6))) (mr σ a g) ∧ (mr σ a g).1 = σ.1)))))) ∧ (¬ (bI false) = 0 → CalI true (d + 7) 116 [vr 233 0, vi (nI 59)] (mr σ a g) σ.1 (fun x2 s1 => ((x2 = 0 → (((bI false) = 0 → (Q (some (vi (hI s1 233 0 6))) s1 ∧ s1.1 = σ.1)) ∧ (¬ (bI false) = 0 → ((¬ (hI s1 233 0 6) = (hI s1 233 0 1) → (Q (some (vi (hI s1 233 0 6))) s1 ∧ s1.1 = σ.1)) ∧ ((hI s1 233 0 6) = (hI s1 233 0 1) → (Q (some (vi (-6))) s1 ∧ s1.1 = σ.1)))))) ∧ (¬ x2 = 0 → CalI true (d + 7) 128 [vr 233 0] s1 σ.1 (fun x4 s3 => Sat true (d + 8) 129 σ.1 Q 10 [some (vr 233 0), some (vi x4)] [] s3))))))
      exact b_f (fin false a g Q ha hq)
    | true =>
      rcases h1 : pT t n 59 a with ⟨b, a1⟩
      cases b with
      | false =>
        have := pTB_ff h1
        subst this
        refine ⟨g, fun Q hq => ?_⟩
        unfold mPgN at hq
        simp only [h1] at hq
        refine wp_ok (cut := [10]) ma_129 rfl 16 _ _ _ _ ?_
        show (((bI true) = 0 → (((bI true) = 0 → (Q (some (vi (nI a1))) (mr σ a1 g) ∧ (mr σ a1 g).1 = σ.1)) ∧ (¬ (bI true) = 0 → ((¬ (nI a1) = (hI σ 233 0 1) → (Q (some (vi (nI a1))) (mr σ a1 g) ∧ (mr σ a1 g).1 = σ.1)) ∧ ((nI a1) = (hI σ 233 0 1) → (Q (some (vi (-6))) (mr σ a1 g) ∧ (mr σ a1 g).1 = σ.1)))))) ∧ (¬ (bI true) = 0 → CalI true (d + 7) 116 [vr 233 0, vi (nI 59)] (mr σ a1 g) σ.1 (fun x2 s1 => ((x2 = 0 → (((bI true) = 0 → (Q (some (vi (hI s1 233 0 6))) s1 ∧ s1.1 = σ.1)) ∧ (¬ (bI true) = 0 → ((¬ (hI s1 233 0 6) = (hI s1 233 0 1) → (Q (some (vi (hI s1 233 0 6))) s1 ∧ s1.1 = σ.1)) ∧ ((hI s1 233 0 6) = (hI s1 233 0 1) → (Q (some (vi (-6))) s1 ∧ s1.1 = σ.1)))))) ∧ (¬ x2 = 0 → CalI true (d + 7) 128 [vr 233 0] s1 σ.1 (fun x4 s3 => Sat true (d + 8) 129 σ.1 Q 10 [some (vr 233 0), some (vi x4)] [] s3))))))
        refine b_t (cal_i (m_isNext (d + 6) hp ha (by omega) (by omega) g) rfl ?_)
        rw [h1]
        exact b_f (fin true a1 g Q ha hq)
      | true =>
        obtain ⟨e1, hlt⟩ := pTB_tt h1
        subst e1
        obtain ⟨g1, k1⟩ := m_readLine d hp (show a + 1 ≤ n by omega) g
        have l1 := mLine_b (t := t) (show a + 1 ≤ n by omega)
        have em := mPg_eq (t := t) (n := n) k (a + 1) (by omega) (by omega)
        rcases h2 : mLine t n (a + 1) with ⟨b2, a2⟩
        rw [h2] at k1 l1 em
        have l1 : a + 1 ≤ a2 ∧ a2 ≤ n := l1
        obtain ⟨g2, hrest⟩ := ih a2 b2 g1 l1.2 (by omega)
        refine ⟨g2, fun Q hq => ?_⟩
        have e0 : mPgN t n (k + 1) (true, a) = mPg t n k (a + 1) := by
          unfold mPgN
          simp only [h1, Nat.add_sub_cancel]
        rw [e0, em] at hq
        refine wp_ok (cut := [10]) ma_129 rfl 16 _ _ _ _ ?_
        show (((bI true) = 0 → (((bI true) = 0 → (Q (some (vi (nI a))) (mr σ a g) ∧ (mr σ a g).1 = σ.1)) ∧ (¬ (bI true) = 0 → ((¬ (nI a) = (hI σ 233 0 1) → (Q (some (vi (nI a))) (mr σ a g) ∧ (mr σ a g).1 = σ.1)) ∧ ((nI a) = (hI σ 233 0 1) → (Q (some (vi (-6))) (mr σ a g) ∧ (mr σ a g).1 = σ.1)))))) ∧ (¬ (bI true) = 0 → CalI true (d + 7) 116 [vr 233 0, vi (nI 59)] (mr σ a g) σ.1 (fun x2 s1 => ((x2 = 0 → (((bI true) = 0 → (Q (some (vi (hI s1 233 0 6))) s1 ∧ s1.1 = σ.1)) ∧ (¬ (bI true) = 0 → ((¬ (hI s1 233 0 6) = (hI s1 233 0 1) → (Q (some (vi (hI s1 233 0 6))) s1 ∧ s1.1 = σ.1)) ∧ ((hI s1 233 0 6) = (hI s1 233 0 1) → (Q (some (vi (-6))) s1 ∧ s1.1 = σ.1)))))) ∧ (¬ x2 = 0 → CalI true (d + 7) 128 [vr 233 0] s1 σ.1 (fun x4 s3 => Sat true (d + 8) 129 σ.1 Q 10 [some (vr 233 0), some (vi x4)] [] s3))))))
        refine b_t (cal_i (m_isNext (d + 6) hp ha (by omega) (by omega) g) rfl ?_)
        rw [h1]
        exact b_t (cal_i k1 rfl (hrest Q hq))
theorem m_faultOfPage (d : Nat) (hp : PadM σ n t) (a0 : Nat) (g : Nat → Int32) : ∃ (a' : Nat) (g' : Nat → Int32), EI (d + 8) 129 [vr 233 0] (mr σ a0 g) (fI (mPageF t n)) (mr σ a' g') := by
  obtain ⟨g1, k1⟩ := m_readLine d hp (Nat.zero_le n) g
  have l1 := mLine_b (t := t) (Nat.zero_le n)
  have em := mPg_eq (t := t) (n := n) n 0 (Nat.zero_le n) (by omega)
  rcases h2 : mLine t n 0 with ⟨b2, a2⟩
  rw [h2] at k1 l1 em
  obtain ⟨g2, hrest⟩ := s_mpg d hp n a2 b2 g1 l1.2 (by omega)
  refine ⟨(mPgN t n n (b2, a2)).2, g2, EI_of mt_129 (Nat.le_of_ble_eq_true rfl) fun Q hq => ?_⟩
  refine wp_ok (cut := [10]) ma_129 rfl 6 _ _ _ _ ?_
  show CalI true (d + 7) 128 [vr 233 0] (setI (mr σ a0 g) 233 0 6 (nI 0)) ((mr σ a0 g).1) (fun x2 s1 => Sat true (d + 8) 129 ((mr σ a0 g).1) Q 10 [some (vr 233 0), some (vi x2)] [] s1)
  rw [mr_at]
  refine cal_i k1 rfl (hrest Q ?_)
  unfold mPageF at hq
  rw [em] at hq
  exact hq
end
end
section
/-! the model's reading of redirects -/
/-- a row of 12: the length of an anchor and its signs; a row of 14: page, whether there is an anchor, the anchor -/
def RowA (u : Nat → Int32) (o : Nat) (w : List Nat) : Prop := u o = nI w.length ∧ ∀ k, k < 11 → u (o + 1 + k) = nI (w.getD k 0)
def RowP (u : Nat → Int32) (o pg : Nat) (w : List Nat) : Prop := u o = nI pg ∧ u (o + 1) = bI (decide (w ≠ [])) ∧ RowA u (o + 2) w
theorem mr_tu (σ : Hp) (a k : Nat) (g u : Nat → Int32) (x : Int32) : setI (mr (arrI σ 238 0 u) a g) 238 0 k x = mr (arrI σ 238 0 (upd u k x)) a g := by
  unfold mr setI arrI
  refine Prod.ext rfl (Prod.ext ?_ rfl)
  funext f' p' k'
  show (if f' = 238 ∧ p' = 0 ∧ k' = k then x else if f' = 233 ∧ p' = 0 ∧ k' = 6 then nI a else if f' = 237 ∧ p' = 0 then g k' else if f' = 238 ∧ p' = 0 then u k' else σ.2.1 f' p' k') = if f' = 233 ∧ p' = 0 ∧ k' = 6 then nI a else if f' = 237 ∧ p' = 0 then g k' else if f' = 238 ∧ p' = 0 then (if k' = k then x else u k') else σ.2.1 f' p' k'
  by_cases h1 : f' = 238 ∧ p' = 0
  · obtain ⟨rfl, rfl⟩ := h1
    by_cases h2 : k' = k
    · rw [if_pos ⟨rfl, rfl, h2⟩, if_neg (by omega), if_neg (by omega), if_pos ⟨rfl, rfl⟩, if_pos h2]
    · rw [if_neg (fun q => h2 q.2.2), if_neg (by omega), if_neg (by omega), if_pos ⟨rfl, rfl⟩, if_neg (by omega), if_neg (by omega), if_pos ⟨rfl, rfl⟩, if_neg h2]
  · rw [if_neg (fun q => h1 ⟨q.1, q.2.1⟩), if_neg h1, if_neg h1]
section
variable {σ : Hp} {n : Nat} {t : Nat → Nat}
theorem PadM_tu (hp : PadM σ n t) (u : Nat → Int32) : PadM (arrI σ 238 0 u) n t := hp
theorem plTx_len {a : Nat} (ha : a ≤ n) : (plTx t n a).length ≤ 11 := by
  unfold plTx
  split
  · rename_i h
    rw [Bool.and_eq_true] at h
    obtain ⟨h1, h2⟩ := h
    have e1 := pTB_t h1
    have e2 := pT_t h2
    rw [sg_len]
    have em : mPlace t n a = mAnchor t n (a + 1 + 1) := by
      unfold mPlace
      rcases q1 : pTB t n 65 76 a with ⟨b, a1⟩
      rw [q1] at h1 e1
      have h1 : b = true := h1
      subst h1
      have e1 : a1 = a + 1 ∧ a < n := e1
      dsimp only
      rw [e1.1]
      rcases q2 : pT t n 35 (a + 1) with ⟨b, a2⟩
      rw [q2] at h2 e2
      have h2 : b = true := h2
      subst h2
      have e2 : a2 = a + 1 + 1 ∧ a + 1 < n := e2
      dsimp only
      rw [e2.1]
    rw [em]
    have := mAnchor_b (t := t) (show a + 1 + 1 ≤ n by omega)
    omega
  · exact Nat.zero_le _
theorem s_side (d o a : Nat) (g : Nat → Int32) (w : List Nat) (ho : o = 0 ∨ o = 14) (hg : RdM g w) (hw : w.length ≤ 11) : ∀ (m k : Nat) (u : Nat → Int32), k + m = 12 → (∀ j, j < k → u (o + 2 + j) = (if j ≤ w.length then g j else 0)) → ∃ u', (∀ j, j < 12 → u' (o + 2 + j) = (if j ≤ w.length then g j else 0)) ∧ (∀ j, (j < o + 2 ∨ o + 14 ≤ j) → u' j = u j) ∧ ∀ Q : Option AV → Hp → Prop, Q (some (vi (bI true))) (mr (arrI σ 238 0 u') a g) → Sat true d 130 σ.1 Q 46 [some (vr 233 0), some (vi (nI o)), some (vi (nI k))] [] (mr (arrI σ 238 0 u) a g) := by
  intro m
  induction m with
  | zero =>
    intro k u hk hu
    refine ⟨u, fun j hj => hu j (by omega), fun j _ => rfl, fun Q hq => ?_⟩
    refine wp_ok (cut := [46]) ma_130 rfl 24 _ _ _ _ ?_
    show (((nI 12) ≤ (nI k) → (((nI 1) = 0 ∨ (nI 1) = 1) ∧ (Q (some (vi (nI 1))) (mr (arrI σ 238 0 u) a g) ∧ (mr (arrI σ 238 0 u) a g).1 = σ.1))) ∧ (¬ (nI 12) ≤ (nI k) → (vp_in (nI 0) 12 ∧ (((hI (mr (arrI σ 238 0 u) a g) 237 0 0) < (nI k) → (vp_in (((nI o) + (nI 2)) + (nI k)) 28 ∧ Sat true d 130 σ.1 Q 46 [some (vr 233 0), some (vi (nI o)), some (vi ((nI k) + nI 1))] [] (setI (mr (arrI σ 238 0 u) a g) 238 0 ((((nI o) + (nI 2)) + (nI k)).toNatClampNeg) (nI 0)))) ∧ (¬ (hI (mr (arrI σ 238 0 u) a g) 237 0 0) < (nI k) → (vp_in (nI k) 12 ∧ (vp_in (((nI o) + (nI 2)) + (nI k)) 28 ∧ Sat true d 130 σ.1 Q 46 [some (vr 233 0), some (vi (nI o)), some (vi ((nI k) + nI 1))] [] (setI (mr (arrI σ 238 0 u) a g) 238 0 ((((nI o) + (nI 2)) + (nI k)).toNatClampNeg) (hI (mr (arrI σ 238 0 u) a g) 237 0 ((nI k).toNatClampNeg))))))))))
    exact br_le (by omega) (by omega) (fun _ => ⟨Or.inr rfl, hq, rfl⟩) (fun h => by omega)
  | succ m ih =>
    intro k u hk hu
    obtain ⟨u', h1, h2, h3⟩ := ih (k + 1) (upd u (o + 2 + k) (if k ≤ w.length then g k else 0)) (by omega) (fun j hj => by
      show (if o + 2 + j = o + 2 + k then _ else u (o + 2 + j)) = _
      by_cases e : j = k
      · subst e; rw [if_pos rfl]
      · rw [if_neg (by omega)]; exact hu j (by omega))
    refine ⟨u', h1, fun j hj => ?_, fun Q hq => ?_⟩
    · rw [h2 j hj]
      show (if j = o + 2 + k then _ else u j) = u j
      rw [if_neg (by omega)]
    · have h3 := h3 Q hq
      refine wp_ok (cut := [46]) ma_130 rfl 24 _ _ _ _ ?_
      show (((nI 12) ≤ (nI k) → (((nI 1) = 0 ∨ (nI 1) = 1) ∧ (Q (some (vi (nI 1))) (mr (arrI σ 238 0 u) a g) ∧ (mr (arrI σ 238 0 u) a g).1 = σ.1))) ∧ (¬ (nI 12) ≤ (nI k) → (vp_in (nI 0) 12 ∧ (((g 0) < (nI k) → (vp_in (((nI o) + (nI 2)) + (nI k)) 28 ∧ Sat true d 130 σ.1 Q 46 [some (vr 233 0), some (vi (nI o)), some (vi ((nI k) + nI 1))] [] (setI (mr (arrI σ 238 0 u) a g) 238 0 ((((nI o) + (nI 2)) + (nI k)).toNatClampNeg) (nI 0)))) ∧ (¬ (g 0) < (nI k) → (vp_in (nI k) 12 ∧ (vp_in (((nI o) + (nI 2)) + (nI k)) 28 ∧ Sat true d 130 σ.1 Q 46 [some (vr 233 0), some (vi (nI o)), some (vi ((nI k) + nI 1))] [] (setI (mr (arrI σ 238 0 u) a g) 238 0 ((((nI o) + (nI 2)) + (nI k)).toNatClampNeg) (hI (mr (arrI σ 238 0 u) a g) 237 0 ((nI k).toNatClampNeg))))))))))
      refine br_le (by omega) (by omega) (fun h => by omega) (fun _ => ⟨inb (by omega) (by omega), ?_⟩)
      have e1 : nI o + nI 2 + nI k = nI (o + 2 + k) := by rw [addN, addN]
      have e2 : nI k + nI 1 = nI (k + 1) := addN _ _
      have hin : vp_in (nI (o + 2 + k)) 28 := inb (by omega) (by omega)
      rw [hg.1, e1, e2, ix (by omega), mr_tu, mr_tu]
      refine br_lt (by omega) (by omega) (fun h => ⟨hin, ?_⟩) (fun h => ⟨inb (by omega) (by omega), hin, ?_⟩)
      · rw [if_neg (by omega)] at h3
        exact h3
      · rw [if_pos h] at h3
        rw [ix (by omega)]
        exact h3
theorem m_readSide (d : Nat) (hp : PadM σ n t) {a o : Nat} (ha : a ≤ n) (ho : o = 0 ∨ o = 14) (g u : Nat → Int32) : ∃ u' g', ((mPlace t n a).1 = true → RowP u' o (t a - 65) (plTx t n a)) ∧ (∀ j, (j < o ∨ o + 14 ≤ j) → u' j = u j) ∧ EI (d + 5) 130 [vr 233 0, vi (nI o)] (mr (arrI σ 238 0 u) a g) (bI (mPlace t n a).1) (mr (arrI σ 238 0 u') (mPlace t n a).2 g') := by
  obtain ⟨g1, hg1, k1⟩ := m_readPlace d (PadM_tu hp (upd u o (nI (chr t n a) - nI 65))) ha g
  have hl := plTx_len (t := t) ha
  rcases h1 : mPlace t n a with ⟨b, a1⟩
  rw [h1] at k1
  cases b with
  | false =>
    refine ⟨upd u o (nI (chr t n a) - nI 65), g1, fun q => (by cases q), fun j hj => ?_, EI_of mt_130 (Nat.le_of_ble_eq_true rfl) fun Q hq => ?_⟩
    · show (if j = o then _ else u j) = u j
      rw [if_neg (by omega)]
    · refine wp_ok (cut := [46]) ma_130 rfl 26 _ _ _ _ ?_
      show CalI true (d + 4) 115 [vr 233 0] (mr (arrI σ 238 0 u) a g) ((mr (arrI σ 238 0 u) a g).1) (fun x2 s1 => (vp_in (nI o) 28 ∧ CalI true (d + 4) 123 [vr 233 0] (setI s1 238 0 ((nI o).toNatClampNeg) (x2 - (nI 65))) ((mr (arrI σ 238 0 u) a g).1) (fun x4 s3 => ((¬ x4 = 0 → (vp_in (nI 0) 12 ∧ (((hI s3 237 0 0) ≤ 0 → (vp_in ((nI o) + (nI 1)) 28 ∧ Sat true (d + 5) 130 ((mr (arrI σ 238 0 u) a g).1) Q 46 [some (vr 233 0), some (vi (nI o)), some (vi (nI 0))] [] (setI s3 238 0 (((nI o) + (nI 1)).toNatClampNeg) (nI 0)))) ∧ (¬ (hI s3 237 0 0) ≤ 0 → (vp_in ((nI o) + (nI 1)) 28 ∧ Sat true (d + 5) 130 ((mr (arrI σ 238 0 u) a g).1) Q 46 [some (vr 233 0), some (vi (nI o)), some (vi (nI 0))] [] (setI s3 238 0 (((nI o) + (nI 1)).toNatClampNeg) (nI 1))))))) ∧ (x4 = 0 → (((nI 0) = 0 ∨ (nI 0) = 1) ∧ (Q (some (vi (nI 0))) s3 ∧ s3.1 = (mr (arrI σ 238 0 u) a g).1)))))))
      refine cal_i (m_next (d + 4) (PadM_tu hp u) ha g) rfl ⟨inb (by omega) (by omega), ?_⟩
      rw [ix (by omega), mr_tu]
      exact cal_i k1 rfl (b_f' ⟨Or.inl rfl, hq, rfl⟩)
  | true =>
    have hsm : a < n ∧ 65 ≤ t a ∧ t a ≤ 76 := by
      have : (pTB t n 65 76 a).1 = true := by
        cases e : (pTB t n 65 76 a).1 with
        | true => rfl
        | false =>
          unfold mPlace at h1
          rcases q1 : pTB t n 65 76 a with ⟨b, a2⟩
          rw [q1] at e h1
          have e : b = false := e
          subst e
          cases h1
      unfold pTB at this
      split at this
      · rename_i q; exact q
      · cases this
    obtain ⟨u1, w1, w2, w3⟩ := s_side (σ := σ) (d + 5) o a1 g1 (plTx t n a) ho hg1 hl 12 0 (upd (upd u o (nI (chr t n a) - nI 65)) (o + 1) (bI (decide (plTx t n a ≠ [])))) rfl (fun j hj => by cases hj)
    refine ⟨u1, g1, fun _ => ⟨?_, ?_, ?_, fun k hk => ?_⟩, fun j hj => ?_, EI_of mt_130 (Nat.le_of_ble_eq_true rfl) fun Q hq => ?_⟩
    · rw [w2 o (by omega)]
      show (if o = o + 1 then _ else if o = o then _ else u o) = _
      rw [if_neg (by omega), if_pos rfl, show chr t n a = t a from if_pos hsm.1, subN hsm.2.1]
    · rw [w2 (o + 1) (by omega)]
      show (if o + 1 = o + 1 then _ else _) = _
      rw [if_pos rfl]
    · rw [show o + 2 = o + 2 + 0 from rfl, w1 0 (by omega), if_pos (Nat.zero_le _)]
      exact hg1.1
    · rw [show o + 2 + 1 + k = o + 2 + (1 + k) by omega, w1 (1 + k) (by omega)]
      by_cases h : 1 + k ≤ (plTx t n a).length
      · rw [if_pos h, Nat.add_comm 1 k]
        exact hg1.2 k (by omega)
      · rw [if_neg h, List.getD_eq_getElem?_getD, List.getElem?_eq_none (by omega)]
        rfl
    · rw [w2 j (by omega)]
      show (if j = o + 1 then _ else if j = o then _ else u j) = u j
      rw [if_neg (by omega), if_neg (by omega)]
    · refine wp_ok (cut := [46]) ma_130 rfl 26 _ _ _ _ ?_
      show CalI true (d + 4) 115 [vr 233 0] (mr (arrI σ 238 0 u) a g) ((mr (arrI σ 238 0 u) a g).1) (fun x2 s1 => (vp_in (nI o) 28 ∧ CalI true (d + 4) 123 [vr 233 0] (setI s1 238 0 ((nI o).toNatClampNeg) (x2 - (nI 65))) ((mr (arrI σ 238 0 u) a g).1) (fun x4 s3 => ((¬ x4 = 0 → (vp_in (nI 0) 12 ∧ (((hI s3 237 0 0) ≤ 0 → (vp_in ((nI o) + (nI 1)) 28 ∧ Sat true (d + 5) 130 ((mr (arrI σ 238 0 u) a g).1) Q 46 [some (vr 233 0), some (vi (nI o)), some (vi (nI 0))] [] (setI s3 238 0 (((nI o) + (nI 1)).toNatClampNeg) (nI 0)))) ∧ (¬ (hI s3 237 0 0) ≤ 0 → (vp_in ((nI o) + (nI 1)) 28 ∧ Sat true (d + 5) 130 ((mr (arrI σ 238 0 u) a g).1) Q 46 [some (vr 233 0), some (vi (nI o)), some (vi (nI 0))] [] (setI s3 238 0 (((nI o) + (nI 1)).toNatClampNeg) (nI 1))))))) ∧ (x4 = 0 → (((nI 0) = 0 ∨ (nI 0) = 1) ∧ (Q (some (vi (nI 0))) s3 ∧ s3.1 = (mr (arrI σ 238 0 u) a g).1)))))))
      refine cal_i (m_next (d + 4) (PadM_tu hp u) ha g) rfl ⟨inb (by omega) (by omega), ?_⟩
      rw [ix (by omega), mr_tu]
      refine cal_i k1 rfl (b_t' ?_)
      have e1 : nI o + nI 1 = nI (o + 1) := addN _ _
      have hin : vp_in (nI (o + 1)) 28 := inb (by omega) (by omega)
      show (vp_in (nI 0) 12 ∧ ((g1 0 ≤ 0 → (vp_in (nI o + nI 1) 28 ∧ Sat true (d + 5) 130 σ.1 Q 46 _ [] (setI (mr (arrI σ 238 0 _) a1 g1) 238 0 (nI o + nI 1).toNatClampNeg (nI 0)))) ∧ (¬ g1 0 ≤ 0 → (vp_in (nI o + nI 1) 28 ∧ Sat true (d + 5) 130 σ.1 Q 46 _ [] (setI (mr (arrI σ 238 0 _) a1 g1) 238 0 (nI o + nI 1).toNatClampNeg (nI 1))))))
      rw [e1, ix (by omega), mr_tu, mr_tu, hg1.1]
      have h3 := w3 Q hq
      refine ⟨inb (by omega) (by omega), ?_⟩
      refine br_le (b := 0) (by omega) (by omega) (fun h => ⟨hin, ?_⟩) (fun h => ⟨hin, ?_⟩)
      · have e : plTx t n a = [] := List.eq_nil_of_length_eq_zero (by omega)
        rw [decide_eq_false (fun q => q e)] at h3
        exact h3
      · have e : plTx t n a ≠ [] := fun q => by rw [q] at h; cases h
        rw [decide_eq_true e] at h3
        exact h3
def mRed (t : Nat → Nat) (n : Nat) : Bool × Nat :=
  match mPlace t n 0 with
  | (false, a1) => (false, a1)
  | (true, a1) => match pT t n 62 a1 with
    | (false, a2) => (false, a2)
    | (true, a2) => mPlace t n a2
def mRedF (t : Nat → Nat) (n : Nat) : Option Nat := mFin n (mRed t n)
/-- where the second place of a redirect begins -/
def redB (t : Nat → Nat) (n : Nat) : Nat := (mPlace t n 0).2 + 1
theorem m_faultOfRedirect (d : Nat) (hp : PadM σ n t) (a0 : Nat) (g u : Nat → Int32) : ∃ (a' : Nat) (u' g' : Nat → Int32), (mRedF t n = none → RowP u' 0 (t 0 - 65) (plTx t n 0) ∧ RowP u' 14 (t (redB t n) - 65) (plTx t n (redB t n))) ∧ EI (d + 6) 131 [vr 233 0] (mr (arrI σ 238 0 u) a0 g) (fI (mRedF t n)) (mr (arrI σ 238 0 u') a' g') := by
  have hn := hp.1
  have fin : ∀ (b : Bool) (a : Nat) (u g : Nat → Int32) (Q : Option AV → Hp → Prop), a ≤ n → Q (some (vi (fI (mFin n (b, a))))) (mr (arrI σ 238 0 u) a g) → ((bI b = 0 → (Q (some (vi (nI a))) (mr (arrI σ 238 0 u) a g) ∧ (mr (arrI σ 238 0 u) a g).1 = σ.1)) ∧ (¬ bI b = 0 → ((¬ nI a = hI σ 233 0 1 → (Q (some (vi (nI a))) (mr (arrI σ 238 0 u) a g) ∧ (mr (arrI σ 238 0 u) a g).1 = σ.1)) ∧ (nI a = hI σ 233 0 1 → (Q (some (vi (-6))) (mr (arrI σ 238 0 u) a g) ∧ (mr (arrI σ 238 0 u) a g).1 = σ.1))))) := by
    intro b a u g Q ha hq
    rw [hp.2.1]
    unfold mFin at hq
    cases b with
    | false =>
      rw [if_neg (fun q => by cases q.1)] at hq
      exact b_f ⟨hq, rfl⟩
    | true =>
      refine b_t (br_ne (by omega) (by omega) (fun h => ?_) (fun h => ?_))
      · rw [if_neg (fun q => h q.2)] at hq
        exact ⟨hq, rfl⟩
      · rw [if_pos ⟨rfl, h⟩] at hq
        exact ⟨hq, rfl⟩
  obtain ⟨u1, g1, r1, o1, k1⟩ := m_readSide d hp (Nat.zero_le n) (Or.inl rfl) g u
  have l1 := mPlace_b (t := t) (Nat.zero_le n)
  unfold mRedF mRed redB
  rcases h1 : mPlace t n 0 with ⟨b, a1⟩
  rw [h1] at k1 l1 r1
  cases b with
  | false =>
    refine ⟨a1, u1, g1, fun q => ?_, EI_of mt_131 (Nat.le_of_ble_eq_true rfl) fun Q hq => ?_⟩
    · unfold mFin at q; rw [if_neg (fun w => by cases w.1)] at q; cases q
    · refine wp_ok (cut := []) ma_131 rfl 28 _ _ _ _ ?_
      show CalI true (d + 5) 130 [vr 233 0, vi (nI 0)] (setI (mr (arrI σ 238 0 u) a0 g) 233 0 6 (nI 0)) ((mr (arrI σ 238 0 u) a0 g).1) (fun x2 s1 => ((x2 = 0 → (((nI 0) = 0 → (Q (some (vi (hI s1 233 0 6))) s1 ∧ s1.1 = (mr (arrI σ 238 0 u) a0 g).1)) ∧ (¬ (nI 0) = 0 → ((¬ (hI s1 233 0 6) = (hI s1 233 0 1) → (Q (some (vi (hI s1 233 0 6))) s1 ∧ s1.1 = (mr (arrI σ 238 0 u) a0 g).1)) ∧ ((hI s1 233 0 6) = (hI s1 233 0 1) → (Q (some (vi (-6))) s1 ∧ s1.1 = (mr (arrI σ 238 0 u) a0 g).1)))))) ∧ (¬ x2 = 0 → CalI true (d + 5) 116 [vr 233 0, vi (nI 62)] s1 ((mr (arrI σ 238 0 u) a0 g).1) (fun x4 s3 => ((x4 = 0 → (((nI 0) = 0 → (Q (some (vi (hI s3 233 0 6))) s3 ∧ s3.1 = (mr (arrI σ 238 0 u) a0 g).1)) ∧ (¬ (nI 0) = 0 → ((¬ (hI s3 233 0 6) = (hI s3 233 0 1) → (Q (some (vi (hI s3 233 0 6))) s3 ∧ s3.1 = (mr (arrI σ 238 0 u) a0 g).1)) ∧ ((hI s3 233 0 6) = (hI s3 233 0 1) → (Q (some (vi (-6))) s3 ∧ s3.1 = (mr (arrI σ 238 0 u) a0 g).1)))))) ∧ (¬ x4 = 0 → CalI true (d + 5) 130 [vr 233 0, vi (nI 14)] s3 ((mr (arrI σ 238 0 u) a0 g).1) (fun x6 s5 => ((x6 = 0 → (((nI 0) = 0 → (Q (some (vi (hI s5 233 0 6))) s5 ∧ s5.1 = (mr (arrI σ 238 0 u) a0 g).1)) ∧ (¬ (nI 0) = 0 → ((¬ (hI s5 233 0 6) = (hI s5 233 0 1) → (Q (some (vi (hI s5 233 0 6))) s5 ∧ s5.1 = (mr (arrI σ 238 0 u) a0 g).1)) ∧ ((hI s5 233 0 6) = (hI s5 233 0 1) → (Q (some (vi (-6))) s5 ∧ s5.1 = (mr (arrI σ 238 0 u) a0 g).1)))))) ∧ (¬ x6 = 0 → (((nI 1) = 0 → (Q (some (vi (hI s5 233 0 6))) s5 ∧ s5.1 = (mr (arrI σ 238 0 u) a0 g).1)) ∧ (¬ (nI 1) = 0 → ((¬ (hI s5 233 0 6) = (hI s5 233 0 1) → (Q (some (vi (hI s5 233 0 6))) s5 ∧ s5.1 = (mr (arrI σ 238 0 u) a0 g).1)) ∧ ((hI s5 233 0 6) = (hI s5 233 0 1) → (Q (some (vi (-6))) s5 ∧ s5.1 = (mr (arrI σ 238 0 u) a0 g).1))))))))))))))
      rw [mr_at]
      exact cal_i k1 rfl (b_f ⟨fun _ => ⟨hq, rfl⟩, fun h => absurd rfl h⟩)
  | true =>
    rcases h2 : pT t n 62 a1 with ⟨b, a2⟩
    dsimp only
    rw [h2]
    cases b with
    | false =>
      have e2 := pTB_ff h2
      subst e2
      refine ⟨a2, u1, g1, fun q => ?_, EI_of mt_131 (Nat.le_of_ble_eq_true rfl) fun Q hq => ?_⟩
      · dsimp only at q; unfold mFin at q; rw [if_neg (fun w => by cases w.1)] at q; cases q
      · refine wp_ok (cut := []) ma_131 rfl 28 _ _ _ _ ?_
        show CalI true (d + 5) 130 [vr 233 0, vi (nI 0)] (setI (mr (arrI σ 238 0 u) a0 g) 233 0 6 (nI 0)) ((mr (arrI σ 238 0 u) a0 g).1) (fun x2 s1 => ((x2 = 0 → (((nI 0) = 0 → (Q (some (vi (hI s1 233 0 6))) s1 ∧ s1.1 = (mr (arrI σ 238 0 u) a0 g).1)) ∧ (¬ (nI 0) = 0 → ((¬ (hI s1 233 0 6) = (hI s1 233 0 1) → (Q (some (vi (hI s1 233 0 6))) s1 ∧ s1.1 = (mr (arrI σ 238 0 u) a0 g).1)) ∧ ((hI s1 233 0 6) = (hI s1 233 0 1) → (Q (some (vi (-6))) s1 ∧ s1.1 = (mr (arrI σ 238 0 u) a0 g).1)))))) ∧ (¬ x2 = 0 → CalI true (d + 5) 116 [vr 233 0, vi (nI 62)] s1 ((mr (arrI σ 238 0 u) a0 g).1) (fun x4 s3 => ((x4 = 0 → (((nI 0) = 0 → (Q (some (vi (hI s3 233 0 6))) s3 ∧ s3.1 = (mr (arrI σ 238 0 u) a0 g).1)) ∧ (¬ (nI 0) = 0 → ((¬ (hI s3 233 0 6) = (hI s3 233 0 1) → (Q (some (vi (hI s3 233 0 6))) s3 ∧ s3.1 = (mr (arrI σ 238 0 u) a0 g).1)) ∧ ((hI s3 233 0 6) = (hI s3 233 0 1) → (Q (some (vi (-6))) s3 ∧ s3.1 = (mr (arrI σ 238 0 u) a0 g).1)))))) ∧ (¬ x4 = 0 → CalI true (d + 5) 130 [vr 233 0, vi (nI 14)] s3 ((mr (arrI σ 238 0 u) a0 g).1) (fun x6 s5 => ((x6 = 0 → (((nI 0) = 0 → (Q (some (vi (hI s5 233 0 6))) s5 ∧ s5.1 = (mr (arrI σ 238 0 u) a0 g).1)) ∧ (¬ (nI 0) = 0 → ((¬ (hI s5 233 0 6) = (hI s5 233 0 1) → (Q (some (vi (hI s5 233 0 6))) s5 ∧ s5.1 = (mr (arrI σ 238 0 u) a0 g).1)) ∧ ((hI s5 233 0 6) = (hI s5 233 0 1) → (Q (some (vi (-6))) s5 ∧ s5.1 = (mr (arrI σ 238 0 u) a0 g).1)))))) ∧ (¬ x6 = 0 → (((nI 1) = 0 → (Q (some (vi (hI s5 233 0 6))) s5 ∧ s5.1 = (mr (arrI σ 238 0 u) a0 g).1)) ∧ (¬ (nI 1) = 0 → ((¬ (hI s5 233 0 6) = (hI s5 233 0 1) → (Q (some (vi (hI s5 233 0 6))) s5 ∧ s5.1 = (mr (arrI σ 238 0 u) a0 g).1)) ∧ ((hI s5 233 0 6) = (hI s5 233 0 1) → (Q (some (vi (-6))) s5 ∧ s5.1 = (mr (arrI σ 238 0 u) a0 g).1))))))))))))))
        rw [mr_at]
        refine cal_i k1 rfl (b_t (cal_i (m_isNext (d + 4) (PadM_tu hp u1) l1.2 (by omega) (by omega) g1) rfl ?_))
        rw [h2]
        exact b_f ⟨fun _ => ⟨hq, rfl⟩, fun h => absurd rfl h⟩
    | true =>
      obtain ⟨e2, hlt⟩ := pTB_tt h2
      subst e2
      obtain ⟨u2, g2, r2, o2, k2⟩ := m_readSide d hp (show a1 + 1 ≤ n by omega) (Or.inr rfl) g1 u1
      have l2 := mPlace_b (t := t) (show a1 + 1 ≤ n by omega)
      dsimp only
      rcases h3 : mPlace t n (a1 + 1) with ⟨b, a3⟩
      rw [h3] at k2 l2 r2
      refine ⟨a3, u2, g2, fun q => ?_, EI_of mt_131 (Nat.le_of_ble_eq_true rfl) fun Q hq => ?_⟩
      · have hb : b = true := by
          unfold mFin at q
          by_cases w : (b, a3).1 = true ∧ (b, a3).2 = n
          · exact w.1
          · rw [if_neg w] at q; cases q
        refine ⟨?_, r2 hb⟩
        obtain ⟨y1, y2, y3, y4⟩ := r1 rfl
        exact ⟨by rw [o2 0 (by omega)]; exact y1, by rw [o2 (0 + 1) (by omega)]; exact y2, by rw [o2 (0 + 2) (by omega)]; exact y3, fun k hk => by rw [o2 _ (by omega)]; exact y4 k hk⟩
      · refine wp_ok (cut := []) ma_131 rfl 28 _ _ _ _ ?_
        show CalI true (d + 5) 130 [vr 233 0, vi (nI 0)] (setI (mr (arrI σ 238 0 u) a0 g) 233 0 6 (nI 0)) ((mr (arrI σ 238 0 u) a0 g).1) (fun x2 s1 => ((x2 = 0 → (((nI 0) = 0 → (Q (some (vi (hI s1 233 0 6))) s1 ∧ s1.1 = (mr (arrI σ 238 0 u) a0 g).1)) ∧ (¬ (nI 0) = 0 → ((¬ (hI s1 233 0 6) = (hI s1 233 0 1) → (Q (some (vi (hI s1 233 0 6))) s1 ∧ s1.1 = (mr (arrI σ 238 0 u) a0 g).1)) ∧ ((hI s1 233 0 6) = (hI s1 233 0 1) → (Q (some (vi (-6))) s1 ∧ s1.1 = (mr (arrI σ 238 0 u) a0 g).1)))))) ∧ (¬ x2 = 0 → CalI true (d + 5) 116 [vr 233 0, vi (nI 62)] s1 ((mr (arrI σ 238 0 u) a0 g).1) (fun x4 s3 => ((x4 = 0 → (((nI 0) = 0 → (Q (some (vi (hI s3 233 0 6))) s3 ∧ s3.1 = (mr (arrI σ 238 0 u) a0 g).1)) ∧ (¬ (nI 0) = 0 → ((¬ (hI s3 233 0 6) = (hI s3 233 0 1) → (Q (some (vi (hI s3 233 0 6))) s3 ∧ s3.1 = (mr (arrI σ 238 0 u) a0 g).1)) ∧ ((hI s3 233 0 6) = (hI s3 233 0 1) → (Q (some (vi (-6))) s3 ∧ s3.1 = (mr (arrI σ 238 0 u) a0 g).1)))))) ∧ (¬ x4 = 0 → CalI true (d + 5) 130 [vr 233 0, vi (nI 14)] s3 ((mr (arrI σ 238 0 u) a0 g).1) (fun x6 s5 => ((x6 = 0 → (((nI 0) = 0 → (Q (some (vi (hI s5 233 0 6))) s5 ∧ s5.1 = (mr (arrI σ 238 0 u) a0 g).1)) ∧ (¬ (nI 0) = 0 → ((¬ (hI s5 233 0 6) = (hI s5 233 0 1) → (Q (some (vi (hI s5 233 0 6))) s5 ∧ s5.1 = (mr (arrI σ 238 0 u) a0 g).1)) ∧ ((hI s5 233 0 6) = (hI s5 233 0 1) → (Q (some (vi (-6))) s5 ∧ s5.1 = (mr (arrI σ 238 0 u) a0 g).1)))))) ∧ (¬ x6 = 0 → (((nI 1) = 0 → (Q (some (vi (hI s5 233 0 6))) s5 ∧ s5.1 = (mr (arrI σ 238 0 u) a0 g).1)) ∧ (¬ (nI 1) = 0 → ((¬ (hI s5 233 0 6) = (hI s5 233 0 1) → (Q (some (vi (hI s5 233 0 6))) s5 ∧ s5.1 = (mr (arrI σ 238 0 u) a0 g).1)) ∧ ((hI s5 233 0 6) = (hI s5 233 0 1) → (Q (some (vi (-6))) s5 ∧ s5.1 = (mr (arrI σ 238 0 u) a0 g).1))))))))))))))
        rw [mr_at]
        refine cal_i k1 rfl (b_t (cal_i (m_isNext (d + 4) (PadM_tu hp u1) l1.2 (by omega) (by omega) g1) rfl ?_))
        rw [h2]
        refine b_t (cal_i k2 rfl ?_)
        cases b with
        | false => exact b_f ⟨fun _ => ⟨hq, rfl⟩, fun h => absurd rfl h⟩
        | true => exact b_t ⟨fun h => absurd h (by decide), fun _ => (fin true a3 u2 g2 Q l2.2 hq).2 (by decide)⟩
end
end
section
/-! both readers find the same fault -/
section
variable {n : Nat} {t : Nat → Nat}
/-- the class has read a name of eight signs and stands before a ninth; the model has refused it there -/
def RelP (t : Nat → Nat) (n : Nat) (c m : Bool × Nat) : Prop := c.2 = m.2 ∧ (c.1 = m.1 ∨ (c.1 = true ∧ m.1 = false ∧ ldN t n c.2 = true))
theorem RelP.rfl' (c : Bool × Nat) : RelP t n c c := ⟨rfl, Or.inl rfl⟩
theorem RelP.cases' {c m : Bool × Nat} (h : RelP t n c m) : c = m ∨ ∃ a, c = (true, a) ∧ m = (false, a) ∧ ldN t n a = true := by
  obtain ⟨b, a⟩ := c
  obtain ⟨b', a'⟩ := m
  obtain ⟨h1, h2⟩ := h
  have h1 : a = a' := h1
  subst h1
  rcases h2 with h2 | ⟨h2, h3, h4⟩
  · have h2 : b = b' := h2
    subst h2
    exact Or.inl rfl
  · have h2 : b = true := h2
    have h3 : b' = false := h3
    subst h2
    subst h3
    exact Or.inr ⟨a, rfl, rfl, h4⟩
theorem ldN_ch {a : Nat} (h : ldN t n a = true) : a < n ∧ ((97 ≤ t a ∧ t a ≤ 122) ∨ (48 ≤ t a ∧ t a ≤ 57)) := by
  unfold ldN pTB at h
  rw [Bool.or_eq_true] at h
  rcases h with h | h
  · split at h
    · rename_i q; exact ⟨q.1, Or.inl q.2⟩
    · cases h
  · split at h
    · rename_i q; exact ⟨q.1, Or.inr q.2⟩
    · cases h
theorem pT_ld {a c : Nat} (h : ldN t n a = true) (hc : c < 48 ∨ (57 < c ∧ c < 97)) : pT t n c a = (false, a) := by
  have := ldN_ch h
  unfold pT pTB
  rw [if_neg (by omega)]
theorem mNl_p : ∀ (k a : Nat), mNl t n k a = (! ldN t n (pNl t n k a), pNl t n k a) := by
  intro k
  induction k with
  | zero => intro a; rfl
  | succ k ih =>
    intro a
    cases e1 : (pTB t n 97 122 a).1 with
    | true =>
      have l : ldN t n a = true := by unfold ldN; rw [e1]; rfl
      have e3 : mNl t n (k + 1) a = mNl t n k (a + 1) := by conv => lhs; unfold mNl; rw [l, if_pos rfl]
      have e4 : pNl t n (k + 1) a = pNl t n k (a + 1) := by conv => lhs; unfold pNl; rw [e1, if_pos rfl, (pTB_t e1).1]
      rw [e3, e4]
      exact ih (a + 1)
    | false =>
      cases e2 : (pTB t n 48 57 a).1 with
      | true =>
        have l : ldN t n a = true := by unfold ldN; rw [e1, e2]; rfl
        have e3 : mNl t n (k + 1) a = mNl t n k (a + 1) := by conv => lhs; unfold mNl; rw [l, if_pos rfl]
        have e4 : pNl t n (k + 1) a = pNl t n k (a + 1) := by conv => lhs; unfold pNl; rw [e1, if_neg (by decide), e2, if_pos rfl, (pTB_t e2).1]
        rw [e3, e4]
        exact ih (a + 1)
      | false =>
        have l : ldN t n a = false := by unfold ldN; rw [e1, e2]; rfl
        have e3 : mNl t n (k + 1) a = (true, a) := by unfold mNl; rw [l, if_neg (by decide)]
        have e4 : pNl t n (k + 1) a = a := by unfold pNl; rw [e1, if_neg (by decide), e2, if_neg (by decide)]
        rw [e3, e4, l]
        rfl
theorem rel_name (a : Nat) : RelP t n (pName t n a) (mName t n a) := by
  unfold pName mName
  cases e1 : (pTB t n 97 122 a).1 with
  | false => exact RelP.rfl' _
  | true =>
    rw [if_pos rfl, if_pos rfl, (pTB_t e1).1]
    have em : mNl t n 8 a = mNl t n 7 (a + 1) := by
      conv => lhs; unfold mNl
      rw [show ldN t n a = true by unfold ldN; rw [e1]; rfl, if_pos rfl]
    rw [em, mNl_p]
    refine ⟨rfl, ?_⟩
    cases e2 : ldN t n (pNl t n 7 (a + 1)) with
    | true => exact Or.inr ⟨rfl, rfl, rfl⟩
    | false => exact Or.inl rfl
theorem rel_anchor {a : Nat} (h : (pT t n 35 a).1 = true) : RelP t n (pAnchor t n a) (mAnchor t n (a + 1)) := by
  unfold pAnchor mAnchor
  rcases h1 : pT t n 35 a with ⟨b, a1⟩
  rw [h1] at h
  have h : b = true := h
  subst h
  obtain ⟨e1, -⟩ := pTB_tt h1
  subst e1
  dsimp only
  rcases (rel_name (t := t) (n := n) (a + 1)).cases' with e | ⟨x, e1, e2, e3⟩
  · rw [e]
    exact RelP.rfl' _
  · rw [e1, e2]
    dsimp only
    rw [pT_ld e3 (by omega)]
    exact ⟨rfl, Or.inr ⟨rfl, rfl, e3⟩⟩
theorem isN_T {a c : Nat} : isN t n c a = (pT t n c a).1 := by
  unfold isN pT pTB
  by_cases h : a < n ∧ t a = c
  · rw [decide_eq_true h, if_pos ⟨h.1, by omega, by omega⟩]
  · rw [decide_eq_false h, if_neg (by omega)]
theorem rel_place (a : Nat) : RelP t n (pPlace t n a) (mPlace t n a) := by
  unfold pPlace mPlace
  rcases h1 : pTB t n 65 76 a with ⟨b, a1⟩
  cases b with
  | false => exact RelP.rfl' _
  | true =>
    dsimp only
    rw [isN_T]
    rcases h2 : pT t n 35 a1 with ⟨b, a2⟩
    cases b with
    | false =>
      have := pTB_ff h2
      subst this
      rw [if_neg (fun q => by cases q)]
      exact RelP.rfl' _
    | true =>
      obtain ⟨e2, -⟩ := pTB_tt h2
      subst e2
      rw [if_pos rfl]
      exact rel_anchor (by rw [h2])
theorem pEq_no {a : Nat} (h : (pT t n 61 a).1 = false) : ∀ k, pEq t n k a = a := by
  intro k
  induction k with
  | zero => rfl
  | succ k ih => show pEq t n k (pT t n 61 a).2 = a; rw [pT_f h]; exact ih
theorem pEq_m : ∀ (k a : Nat), pEq t n k a = mEq t n k a := by
  intro k
  induction k with
  | zero => intro a; rfl
  | succ k ih =>
    intro a
    unfold mEq
    cases e : (pT t n 61 a).1 with
    | true =>
      rw [if_pos rfl]
      show pEq t n k (pT t n 61 a).2 = _
      rw [(pT_t e).1]
      exact ih (a + 1)
    | false =>
      rw [if_neg (by decide)]
      exact pEq_no e (k + 1)
theorem rel_head (a : Nat) : RelP t n (pHead t n a) (mHead t n a) := by
  unfold pHead mHead
  rw [pEq_m]
  exact rel_name _
theorem rel_elem (a : Nat) : RelP t n (pElem t n a) (mElem t n a) := by
  unfold pElem mElem
  rcases h1 : pT t n 91 a with ⟨b, a1⟩
  cases b with
  | false =>
    dsimp only
    exact rel_name _
  | true =>
    dsimp only
    rw [isN_T]
    unfold mTgt
    rcases h2 : pT t n 35 a1 with ⟨b2, a2⟩
    cases b2 with
    | true =>
      obtain ⟨e2, -⟩ := pTB_tt h2
      subst e2
      have hno : pTB t n 65 76 a1 = (false, a1) := by
        have : a1 < n ∧ t a1 = 35 := by
          unfold pT pTB at h2
          split at h2
          · rename_i q; omega
          · cases h2
        unfold pTB
        rw [if_neg (by omega)]
      rw [hno]
      dsimp only
      rw [h2]
      rw [if_pos rfl]
      rcases (rel_anchor (t := t) (n := n) (a := a1) (by rw [h2])).cases' with e | ⟨x, e1, e3, e4⟩
      · rw [e]
        exact RelP.rfl' _
      · rw [e1, e3]
        dsimp only
        rw [pT_ld e4 (by omega)]
        exact RelP.rfl' _
    | false =>
      have := pTB_ff h2
      subst this
      dsimp only
      unfold mPlace
      rcases h3 : pTB t n 65 76 a2 with ⟨b3, a3⟩
      cases b3 with
      | false =>
        have := pTB_ff h3
        subst this
        dsimp only
        rw [h2, if_neg (fun q => by cases q), if_neg (by decide)]
        exact RelP.rfl' _
      | true =>
        dsimp only
        rcases h4 : pT t n 35 a3 with ⟨b4, a4⟩
        cases b4 with
        | false =>
          have := pTB_ff h4
          subst this
          rw [if_neg (fun q => by cases q), if_pos rfl]
          exact RelP.rfl' _
        | true =>
          obtain ⟨e4, -⟩ := pTB_tt h4
          subst e4
          rw [if_pos rfl]
          dsimp only
          rcases (rel_anchor (t := t) (n := n) (a := a3) (by rw [h4])).cases' with e | ⟨x, e1, e3, e5⟩
          · rw [e]
            exact RelP.rfl' _
          · rw [e1, e3]
            dsimp only
            rw [pT_ld e5 (by omega)]
            exact RelP.rfl' _
theorem pElem_end : pElem t n n = (false, n) := by
  have h : ∀ x y, pTB t n x y n = (false, n) := fun x y => by unfold pTB; rw [if_neg (by omega)]
  unfold pElem pT
  rw [h]
  dsimp only
  unfold pName
  rw [h]
  rfl
theorem rel_els : ∀ (k a : Nat), a ≤ n → n ≤ a + k → RelP t n (pEls t n (k + 1) a) (mEls t n k a) := by
  intro k
  induction k with
  | zero =>
    intro a ha hk
    obtain rfl : a = n := by omega
    have hm : mElem t a a = (false, a) := by
      rcases (rel_elem (t := t) (n := a) a).cases' with e | ⟨x, e1, -, -⟩
      · rw [← e, pElem_end]
      · rw [pElem_end] at e1; cases e1
    show RelP t a (pEls t a 1 a) (mElem t a a)
    rw [hm]
    unfold pEls
    rw [pElem_end]
    exact RelP.rfl' _
  | succ k ih =>
    intro a ha hk
    have lm := mElem_b (t := t) ha
    unfold mEls
    conv => arg 3; unfold pEls
    rcases (rel_elem (t := t) (n := n) a).cases' with e | ⟨x, e1, e2, e3⟩
    · rw [e]
      rcases h1 : mElem t n a with ⟨b, a1⟩
      rw [h1] at lm
      have lm : a ≤ a1 ∧ a1 ≤ n := lm
      cases b with
      | false => exact RelP.rfl' _
      | true =>
        dsimp only
        rcases h2 : pT t n 44 a1 with ⟨b, a2⟩
        cases b with
        | false => exact RelP.rfl' _
        | true =>
          have := pTB_tt h2
          exact ih a2 (by omega) (by omega)
    · rw [e1, e2]
      dsimp only
      rw [pT_ld e3 (by omega)]
      exact ⟨rfl, Or.inr ⟨rfl, rfl, e3⟩⟩
theorem rel_line {a : Nat} (ha : a ≤ n) : RelP t n (pLine t n a) (mLine t n a) := by
  unfold pLine mLine
  split
  · exact rel_head a
  · split
    · exact RelP.rfl' _
    · exact rel_els n a ha (by omega)
theorem page_eq : ∀ (k a : Nat), a ≤ n → n ≤ a + k → pPg t n (k + 1) a = mFin n (mPg t n k a) := by
  intro k
  induction k with
  | zero =>
    intro a ha hk
    have lm := mLine_b (t := t) ha
    show pPg t n 1 a = mFin n (mLine t n a)
    unfold pPg
    rcases (rel_line (t := t) ha).cases' with e | ⟨x, e1, e2, e3⟩
    · rw [e]
      rcases h1 : mLine t n a with ⟨b, a1⟩
      rw [h1] at lm
      have lm : a ≤ a1 ∧ a1 ≤ n := lm
      unfold mFin
      cases b with
      | false => rw [if_neg (fun q => by cases q.1)]
      | true =>
        dsimp only
        have h2 : pT t n 59 a1 = (false, a1) := by unfold pT pTB; rw [if_neg (by omega)]
        rw [h2]
        simp
    · rw [e1, e2]
      dsimp only
      rw [pT_ld e3 (by omega)]
      have := (ldN_ch e3).1
      unfold mFin
      dsimp only
      rw [if_neg (by omega), if_neg (fun q => by cases q.1)]
  | succ k ih =>
    intro a ha hk
    have lm := mLine_b (t := t) ha
    conv => lhs; unfold pPg
    conv => rhs; unfold mPg
    rcases (rel_line (t := t) ha).cases' with e | ⟨x, e1, e2, e3⟩
    · rw [e]
      rcases h1 : mLine t n a with ⟨b, a1⟩
      rw [h1] at lm
      have lm : a ≤ a1 ∧ a1 ≤ n := lm
      cases b with
      | false => dsimp only; unfold mFin; rw [if_neg (fun q => by cases q.1)]
      | true =>
        dsimp only
        rcases h2 : pT t n 59 a1 with ⟨b, a2⟩
        cases b with
        | false =>
          dsimp only
          unfold mFin
          simp
        | true =>
          have := pTB_tt h2
          exact ih a2 (by omega) (by omega)
    · rw [e1, e2]
      dsimp only
      rw [pT_ld e3 (by omega)]
      have := (ldN_ch e3).1
      dsimp only
      unfold mFin
      rw [if_neg (by omega), if_neg (fun q => by cases q.1)]
theorem pageF_eq : pageF t n = mPageF t n := page_eq n 0 (Nat.zero_le n) (by omega)
theorem redF_eq : redF t n = mRedF t n := by
  unfold redF mRedF mRed
  rcases (rel_place (t := t) (n := n) 0).cases' with e | ⟨x, e1, e2, e3⟩
  · rw [e]
    rcases h1 : mPlace t n 0 with ⟨b, a1⟩
    cases b with
    | false => dsimp only; unfold mFin; rw [if_neg (fun q => by cases q.1)]
    | true =>
      dsimp only
      rcases h2 : pT t n 62 a1 with ⟨b, a2⟩
      cases b with
      | false => dsimp only; unfold mFin; rw [if_neg (fun q => by cases q.1)]
      | true =>
        dsimp only
        rcases (rel_place (t := t) (n := n) a2).cases' with e | ⟨x, e1, e2, e3⟩
        · rw [e]
          rcases h3 : mPlace t n a2 with ⟨b, a3⟩
          unfold mFin
          cases b with
          | false => rw [if_neg (fun q => by cases q.1)]
          | true => simp
        · rw [e1, e2]
          have := (ldN_ch e3).1
          unfold mFin
          dsimp only
          rw [if_neg (by omega), if_neg (fun q => by cases q.1)]
  · rw [e1, e2]
    dsimp only
    rw [pT_ld e3 (by omega)]
    unfold mFin
    rw [if_neg (fun q => by cases q.1)]
end
end
section
/-! pages as trees: name, anchor (name and number), element, line -/
abbrev Anc : Type := List Nat × Nat
abbrev Elem : Type := List Nat ⊕ (Option Nat × Option Anc)
abbrev Line : Type := (Nat × List Nat) ⊕ ((Nat × Option Nat) ⊕ List Elem)
def isLt (c : Nat) : Prop := 97 ≤ c ∧ c ≤ 122
def isDg (c : Nat) : Prop := 48 ≤ c ∧ c ≤ 57
def gRest (w : List Nat) : Prop := ∀ x ∈ w, isLt x ∨ isDg x
def gName (w : List Nat) : Prop := ∃ c r, w = c :: r ∧ isLt c ∧ gRest r ∧ r.length ≤ 7
def gAnc (a : Anc) : Prop := gName a.1 ∧ a.2 ≤ 99
def txNum (k : Nat) : List Nat := if k = 0 then [] else if k < 10 then [45, 48 + k] else [45, 48 + k / 10, 48 + k % 10]
def txAnc (a : Anc) : List Nat := a.1 ++ txNum a.2
def txLet (l : Option Nat) : List Nat := match l with
  | none => []
  | some p => [65 + p]
def txOpt (a : Option Anc) : List Nat := match a with
  | none => []
  | some a => 35 :: txAnc a
def txLink (l : Option Nat) (a : Option Anc) : List Nat := txLet l ++ txOpt a
def txEl (e : Elem) : List Nat := match e with
  | .inl w => w
  | .inr (l, a) => 91 :: (txLink l a ++ [93])
def txEls : List Elem → List Nat
  | [] => []
  | e :: r => match r with
    | [] => txEl e
    | _ :: _ => txEl e ++ 44 :: txEls r
def txInc (p : Nat) (s : Option Nat) : List Nat := match s with
  | none => [123, 65 + p, 125]
  | some s => [123, 65 + p, 43, 48 + s, 125]
def txLine (l : Line) : List Nat := match l with
  | .inl (v, w) => List.replicate v 61 ++ w
  | .inr (.inl (p, s)) => txInc p s
  | .inr (.inr es) => txEls es
def txPg : List Line → List Nat
  | [] => []
  | l :: r => match r with
    | [] => txLine l
    | _ :: _ => txLine l ++ 59 :: txPg r
def gEl (e : Elem) : Prop := match e with
  | .inl w => gName w
  | .inr (l, a) => (∀ p, l = some p → p < 12) ∧ (∀ x, a = some x → gAnc x) ∧ (l = none → a ≠ none)
def gLine (l : Line) : Prop := match l with
  | .inl (v, w) => 1 ≤ v ∧ v ≤ 3 ∧ gName w
  | .inr (.inl (p, s)) => p < 12 ∧ ∀ x, s = some x → x ≤ 2
  | .inr (.inr es) => es ≠ [] ∧ ∀ e ∈ es, gEl e
def gPg (ls : List Line) : Prop := ∀ l ∈ ls, gLine l
/-- the text t of n signs reads w from a to b -/
def Rd (t : Nat → Nat) (n a b : Nat) (w : List Nat) : Prop := sg t a w.length = w ∧ b = a + w.length ∧ b ≤ n
section
variable {t : Nat → Nat} {n : Nat}
theorem sg_add (t : Nat → Nat) : ∀ (m a k : Nat), sg t a (m + k) = sg t a m ++ sg t (a + m) k := by
  intro m
  induction m with
  | zero => intro a k; rw [Nat.zero_add]; rfl
  | succ m ih =>
    intro a k
    rw [show m + 1 + k = (m + k) + 1 by omega]
    show t a :: sg t (a + 1) (m + k) = t a :: sg t (a + 1) m ++ sg t (a + (m + 1)) k
    rw [ih (a + 1) k, show a + 1 + m = a + (m + 1) by omega]
    rfl
theorem Rd.app {a b c : Nat} {w v : List Nat} (h : Rd t n a b w) (g : Rd t n b c v) : Rd t n a c (w ++ v) := by
  obtain ⟨h1, h2, h3⟩ := h
  obtain ⟨g1, g2, g3⟩ := g
  subst h2
  refine ⟨?_, ?_, g3⟩
  · rw [List.length_append, sg_add, h1, g1]
  · rw [List.length_append]; omega
theorem Rd.nil {a : Nat} (h : a ≤ n) : Rd t n a a [] := ⟨rfl, rfl, h⟩
theorem Rd.one {a : Nat} (h : a < n) : Rd t n a (a + 1) [t a] := ⟨rfl, rfl, h⟩
theorem rd_TB {x y a b : Nat} (h : pTB t n x y a = (true, b)) : Rd t n a b [t a] ∧ x ≤ t a ∧ t a ≤ y := by
  unfold pTB at h
  split at h
  · rename_i q
    cases h
    exact ⟨Rd.one q.1, q.2⟩
  · cases h
theorem rd_T {x a b : Nat} (h : pT t n x a = (true, b)) : Rd t n a b [x] := by
  obtain ⟨h1, h2, h3⟩ := rd_TB h
  have e : t a = x := by omega
  rw [e] at h1
  exact h1
theorem rd_Nl : ∀ (k a : Nat), a ≤ n → ∃ w, Rd t n a (pNl t n k a) w ∧ gRest w ∧ w.length ≤ k := by
  intro k
  induction k with
  | zero => intro a h; exact ⟨[], Rd.nil h, fun x hx => (by cases hx), Nat.le_refl _⟩
  | succ k ih =>
    intro a h
    unfold pNl
    rcases h1 : pTB t n 97 122 a with ⟨b, a1⟩
    cases b with
    | true =>
      obtain ⟨r1, r2⟩ := rd_TB h1
      obtain ⟨w, w1, w2, w3⟩ := ih a1 r1.2.2
      rw [if_pos rfl]
      exact ⟨t a :: w, r1.app w1, fun x hx => by
        cases hx with
        | head => exact Or.inl r2
        | tail _ q => exact w2 x q, Nat.succ_le_succ w3⟩
    | false =>
      rw [if_neg (fun q => by cases q)]
      rcases h2 : pTB t n 48 57 a with ⟨b, a2⟩
      cases b with
      | true =>
        obtain ⟨r1, r2⟩ := rd_TB h2
        obtain ⟨w, w1, w2, w3⟩ := ih a2 r1.2.2
        rw [if_pos rfl]
        exact ⟨t a :: w, r1.app w1, fun x hx => by
          cases hx with
          | head => exact Or.inr r2
          | tail _ q => exact w2 x q, Nat.succ_le_succ w3⟩
      | false =>
        rw [if_neg (fun q => by cases q)]
        exact ⟨[], Rd.nil h, fun x hx => (by cases hx), Nat.zero_le _⟩
theorem rd_Name {a b : Nat} (h : pName t n a = (true, b)) : ∃ w, Rd t n a b w ∧ gName w := by
  unfold pName at h
  rcases h1 : pTB t n 97 122 a with ⟨c, a1⟩
  rw [h1] at h
  cases c with
  | false => rw [if_neg (fun q => by cases q)] at h; cases h
  | true =>
    rw [if_pos rfl] at h
    cases h
    obtain ⟨r1, r2⟩ := rd_TB h1
    obtain ⟨w, w1, w2, w3⟩ := rd_Nl (t := t) 7 a1 r1.2.2
    exact ⟨t a :: w, r1.app w1, t a, w, rfl, r2, w2, w3⟩
theorem rd_Anchor {a b : Nat} (h : pAnchor t n a = (true, b)) : ∃ x, Rd t n a b (35 :: txAnc x) ∧ gAnc x := by
  unfold pAnchor at h
  rcases h1 : pT t n 35 a with ⟨c, a1⟩
  rw [h1] at h
  cases c with
  | false => cases h
  | true =>
    dsimp only at h
    have r1 := rd_T h1
    rcases h2 : pName t n a1 with ⟨c, a2⟩
    rw [h2] at h
    cases c with
    | false => cases h
    | true =>
      dsimp only at h
      obtain ⟨w, w1, w2⟩ := rd_Name h2
      rcases h3 : pT t n 45 a2 with ⟨c, a3⟩
      rw [h3] at h
      cases c with
      | false =>
        dsimp only at h
        cases h
        have := pTB_ff h3
        subst this
        refine ⟨(w, 0), ?_, w2, Nat.zero_le _⟩
        have : txAnc (w, 0) = w := List.append_nil w
        rw [this]
        exact r1.app w1
      | true =>
        dsimp only at h
        have r3 := rd_T h3
        rcases h4 : pTB t n 49 57 a3 with ⟨c, a4⟩
        rw [h4] at h
        cases c with
        | false => cases h
        | true =>
          dsimp only at h
          obtain ⟨r4, l4⟩ := rd_TB h4
          rcases h5 : pTB t n 48 57 a4 with ⟨c, a5⟩
          rw [h5] at h
          dsimp only at h
          cases h
          cases c with
          | false =>
            have := pTB_ff h5
            subst this
            refine ⟨(w, t a3 - 48), ?_, w2, by show t a3 - 48 ≤ 99; omega⟩
            have e : txAnc (w, t a3 - 48) = w ++ ([45] ++ [t a3]) := by
              unfold txAnc txNum
              dsimp only
              rw [if_neg (by omega), if_pos (by omega), show 48 + (t a3 - 48) = t a3 by omega]
              rfl
            rw [e]
            exact r1.app (w1.app (r3.app r4))
          | true =>
            obtain ⟨r5, l5⟩ := rd_TB h5
            refine ⟨(w, (t a3 - 48) * 10 + (t a4 - 48)), ?_, w2, by show (t a3 - 48) * 10 + (t a4 - 48) ≤ 99; omega⟩
            have e : txAnc (w, (t a3 - 48) * 10 + (t a4 - 48)) = w ++ ([45] ++ ([t a3] ++ [t a4])) := by
              unfold txAnc txNum
              dsimp only
              rw [if_neg (by omega), if_neg (by omega), show 48 + ((t a3 - 48) * 10 + (t a4 - 48)) / 10 = t a3 by omega, show 48 + ((t a3 - 48) * 10 + (t a4 - 48)) % 10 = t a4 by omega]
              rfl
            rw [e]
            exact r1.app (w1.app (r3.app (r4.app r5)))
theorem rd_Elem {a b : Nat} (h : pElem t n a = (true, b)) : ∃ e, Rd t n a b (txEl e) ∧ gEl e := by
  unfold pElem at h
  rcases h1 : pT t n 91 a with ⟨c, a1⟩
  rw [h1] at h
  cases c with
  | false =>
    dsimp only at h
    have := pTB_ff h1
    subst this
    obtain ⟨w, w1, w2⟩ := rd_Name h
    exact ⟨.inl w, w1, w2⟩
  | true =>
    dsimp only at h
    have r1 := rd_T h1
    rcases h2 : pTB t n 65 76 a1 with ⟨c, a2⟩
    rw [h2] at h
    dsimp only at h
    have hl : ∃ l, Rd t n a1 a2 (txLet l) ∧ (∀ p, l = some p → p < 12) ∧ (l = none ↔ c = false) := by
      cases c with
      | false =>
        have := pTB_ff h2
        subst this
        exact ⟨none, Rd.nil r1.2.2, fun p q => (by cases q), fun _ => rfl, fun _ => rfl⟩
      | true =>
        obtain ⟨r2, l2⟩ := rd_TB h2
        refine ⟨some (t a1 - 65), ?_, fun p q => (by cases q; omega), fun q => (by cases q), fun q => by cases q⟩
        show Rd t n a1 a2 [65 + (t a1 - 65)]
        rw [show 65 + (t a1 - 65) = t a1 by omega]
        exact r2
    obtain ⟨l, l1, l2, l3⟩ := hl
    cases h3 : isN t n 35 a2 with
    | true =>
      rw [h3, if_pos rfl] at h
      rcases h4 : pAnchor t n a2 with ⟨c', a3⟩
      rw [h4] at h
      cases c' with
      | false => cases h
      | true =>
        dsimp only at h
        obtain ⟨x, x1, x2⟩ := rd_Anchor h4
        refine ⟨.inr (l, some x), ?_, l2, fun y q => (by cases q; exact x2), fun _ q => by cases q⟩
        have := r1.app ((l1.app x1).app (rd_T h))
        exact this
    | false =>
      rw [h3, if_neg (by decide)] at h
      cases c with
      | false => rw [if_neg (fun q => by cases q)] at h; cases h
      | true =>
        rw [if_pos rfl] at h
        refine ⟨.inr (l, none), ?_, l2, fun y q => (by cases q), fun q => by have := l3.mp q; cases this⟩
        have := r1.app (l1.app (rd_T h))
        show Rd t n a b (91 :: ((txLet l ++ []) ++ [93]))
        rw [List.append_nil]
        exact this
theorem rd_Els : ∀ (k a b : Nat), pEls t n k a = (true, b) → ∃ es, es ≠ [] ∧ Rd t n a b (txEls es) ∧ ∀ e ∈ es, gEl e := by
  intro k
  induction k with
  | zero => intro a b h; cases h
  | succ k ih =>
    intro a b h
    unfold pEls at h
    rcases h1 : pElem t n a with ⟨c, a1⟩
    rw [h1] at h
    cases c with
    | false => cases h
    | true =>
      dsimp only at h
      obtain ⟨e, e1, e2⟩ := rd_Elem h1
      rcases h2 : pT t n 44 a1 with ⟨c, a2⟩
      rw [h2] at h
      cases c with
      | false =>
        dsimp only at h
        cases h
        have := pTB_ff h2
        subst this
        exact ⟨[e], fun q => (by cases q), e1, fun x hx => by rw [List.mem_singleton.mp hx]; exact e2⟩
      | true =>
        dsimp only at h
        obtain ⟨es, n1, n2, n3⟩ := ih a2 b h
        cases es with
        | nil => exact absurd rfl n1
        | cons f r =>
          refine ⟨e :: f :: r, fun q => (by cases q), e1.app ((rd_T h2).app n2), fun x hx => ?_⟩
          cases hx with
          | head => exact e2
          | tail _ q => exact n3 x q
theorem rd_Eq : ∀ (k a : Nat), a ≤ n → ∃ v, v ≤ k ∧ Rd t n a (pEq t n k a) (List.replicate v 61) ∧ (0 < k → isN t n 61 a = true → 1 ≤ v) := by
  intro k
  induction k with
  | zero => intro a h; exact ⟨0, Nat.le_refl _, Rd.nil h, fun q => absurd q (by decide)⟩
  | succ k ih =>
    intro a h
    unfold pEq
    rcases h1 : pT t n 61 a with ⟨c, a1⟩
    cases c with
    | true =>
      have r1 := rd_T h1
      obtain ⟨v, v1, v2, _⟩ := ih a1 r1.2.2
      exact ⟨v + 1, by omega, r1.app v2, fun _ _ => by omega⟩
    | false =>
      have := pTB_ff h1
      subst this
      obtain ⟨v, v1, v2, _⟩ := ih a1 h
      exact ⟨v, by omega, v2, fun _ q => by rw [isN_T, h1] at q; cases q⟩
theorem rd_Line {a b : Nat} (ha : a ≤ n) (h : pLine t n a = (true, b)) : ∃ l, Rd t n a b (txLine l) ∧ gLine l := by
  unfold pLine at h
  cases h1 : isN t n 61 a with
  | true =>
    rw [h1, if_pos rfl] at h
    unfold pHead at h
    obtain ⟨v, v1, v2, v3⟩ := rd_Eq (t := t) 3 a ha
    obtain ⟨w, w1, w2⟩ := rd_Name h
    exact ⟨.inl (v, w), v2.app w1, v3 (by omega) h1, v1, w2⟩
  | false =>
    rw [h1, if_neg (by decide)] at h
    cases h2 : isN t n 123 a with
    | true =>
      rw [h2, if_pos rfl] at h
      unfold pIncl at h
      rcases h3 : pT t n 123 a with ⟨c, a1⟩
      rw [h3] at h
      cases c with
      | false => cases h
      | true =>
        dsimp only at h
        rcases h4 : pTB t n 65 76 a1 with ⟨c, a2⟩
        rw [h4] at h
        cases c with
        | false => cases h
        | true =>
          dsimp only at h
          obtain ⟨r4, l4⟩ := rd_TB h4
          rcases h5 : pT t n 43 a2 with ⟨c, a3⟩
          rw [h5] at h
          cases c with
          | false =>
            dsimp only at h
            have := pTB_ff h5
            subst this
            refine ⟨.inr (.inl (t a1 - 65, none)), ?_, by omega, fun x q => by cases q⟩
            show Rd t n a b [123, 65 + (t a1 - 65), 125]
            rw [show 65 + (t a1 - 65) = t a1 by omega]
            exact (rd_T h3).app (r4.app (rd_T h))
          | true =>
            dsimp only at h
            rcases h6 : pTB t n 48 50 a3 with ⟨c, a4⟩
            rw [h6] at h
            cases c with
            | false => cases h
            | true =>
              dsimp only at h
              obtain ⟨r6, l6⟩ := rd_TB h6
              refine ⟨.inr (.inl (t a1 - 65, some (t a3 - 48))), ?_, by omega, fun x q => by cases q; omega⟩
              show Rd t n a b [123, 65 + (t a1 - 65), 43, 48 + (t a3 - 48), 125]
              rw [show 65 + (t a1 - 65) = t a1 by omega, show 48 + (t a3 - 48) = t a3 by omega]
              exact (rd_T h3).app (r4.app ((rd_T h5).app (r6.app (rd_T h))))
    | false =>
      rw [h2, if_neg (by decide)] at h
      obtain ⟨es, e1, e2, e3⟩ := rd_Els _ _ _ h
      exact ⟨.inr (.inr es), e2, e1, e3⟩
theorem rd_Pg : ∀ (k a : Nat), a ≤ n → pPg t n k a = none → ∃ ls, ls ≠ [] ∧ Rd t n a n (txPg ls) ∧ gPg ls := by
  intro k
  induction k with
  | zero => intro a _ h; cases h
  | succ k ih =>
    intro a ha h
    unfold pPg at h
    rcases h1 : pLine t n a with ⟨c, a1⟩
    rw [h1] at h
    cases c with
    | false => cases h
    | true =>
      dsimp only at h
      obtain ⟨l, l1, l2⟩ := rd_Line ha h1
      rcases h2 : pT t n 59 a1 with ⟨c, a2⟩
      rw [h2] at h
      cases c with
      | false =>
        dsimp only at h
        have := pTB_ff h2
        subst this
        split at h
        · rename_i e
          subst e
          exact ⟨[l], fun q => (by cases q), l1, fun x hx => by rw [List.mem_singleton.mp hx]; exact l2⟩
        · cases h
      | true =>
        dsimp only at h
        have r2 := rd_T h2
        obtain ⟨ls, n1, n2, n3⟩ := ih a2 r2.2.2 h
        cases ls with
        | nil => exact absurd rfl n1
        | cons f r =>
          refine ⟨l :: f :: r, fun q => (by cases q), l1.app (r2.app n2), fun x hx => ?_⟩
          cases hx with
          | head => exact l2
          | tail _ q => exact n3 x q
/-- a text without a fault is a page -/
theorem page_of (h : pageF t n = none) : ∃ ls, ls ≠ [] ∧ gPg ls ∧ txPg ls = sg t 0 n := by
  obtain ⟨ls, h1, ⟨h2, h3, _⟩, h4⟩ := rd_Pg (t := t) (n + 1) 0 (Nat.zero_le n) h
  refine ⟨ls, h1, h4, ?_⟩
  have e : (txPg ls).length = n := by omega
  rw [e] at h2
  exact h2.symm
theorem rd_Place {a b : Nat} (h : pPlace t n a = (true, b)) : ∃ (p : Nat) (x : Option Anc), Rd t n a b (txLink (some p) x) ∧ p < 12 ∧ t a = 65 + p ∧ (∀ y, x = some y → gAnc y) := by
  unfold pPlace at h
  rcases h1 : pTB t n 65 76 a with ⟨c, a1⟩
  rw [h1] at h
  cases c with
  | false => cases h
  | true =>
    dsimp only at h
    obtain ⟨r1, l1⟩ := rd_TB h1
    have r1' : Rd t n a a1 (txLet (some (t a - 65))) := by
      show Rd t n a a1 [65 + (t a - 65)]
      rw [show 65 + (t a - 65) = t a by omega]
      exact r1
    cases h2 : isN t n 35 a1 with
    | true =>
      rw [h2, if_pos rfl] at h
      obtain ⟨x, x1, x2⟩ := rd_Anchor h
      exact ⟨t a - 65, some x, r1'.app x1, by omega, by omega, fun y q => by cases q; exact x2⟩
    | false =>
      rw [h2, if_neg (by decide)] at h
      cases h
      exact ⟨t a - 65, none, r1'.app (Rd.nil r1.2.2), by omega, by omega, fun y q => by cases q⟩
/-- a text without a fault is a redirect -/
theorem redirect_of (h : redF t n = none) : ∃ (p q : Nat) (x y : Option Anc), p < 12 ∧ q < 12 ∧ (∀ z, x = some z → gAnc z) ∧ (∀ z, y = some z → gAnc z) ∧ sg t 0 n = txLink (some p) x ++ 62 :: txLink (some q) y := by
  unfold redF at h
  rcases h1 : pPlace t n 0 with ⟨c, a1⟩
  rw [h1] at h
  cases c with
  | false => cases h
  | true =>
    dsimp only at h
    obtain ⟨p, x, r1, l1, _, g1⟩ := rd_Place h1
    rcases h2 : pT t n 62 a1 with ⟨c, a2⟩
    rw [h2] at h
    cases c with
    | false => cases h
    | true =>
      dsimp only at h
      rcases h3 : pPlace t n a2 with ⟨c, a3⟩
      rw [h3] at h
      cases c with
      | false => cases h
      | true =>
        dsimp only at h
        obtain ⟨q, y, r3, l3, _, g3⟩ := rd_Place h3
        split at h
        · rename_i e
          subst e
          have w := r1.app ((rd_T h2).app r3)
          refine ⟨p, q, x, y, l1, l3, g1, g3, ?_⟩
          obtain ⟨w1, w2, _⟩ := w
          rw [Nat.zero_add] at w2
          rw [w2]
          exact w1
        · cases h
end
end
section
/-! from kit/laws (to-paste): longs, holes, ranges -/
/-! ===== lN n to 2^64: shifts, and, or, masks, one bit ===== -/
theorem wb_tb (n : Nat) : (lN n).toBitVec = BitVec.ofNat 64 n := rfl
theorem wb_inj {a b : Int64} (h : a.toBitVec = b.toBitVec) : a = b := Int64.toBitVec_inj.mp h
theorem wb_tn {n : Nat} (h : n < 2 ^ 64) : (lN n).toBitVec.toNat = n := by rw [wb_tb, BitVec.toNat_ofNat, Nat.mod_eq_of_lt h]
theorem wb_of (x : Int64) : ∃ n, n < 2 ^ 64 ∧ x = lN n := ⟨x.toBitVec.toNat, x.toBitVec.isLt, wb_inj (by rw [wb_tb]; simp)⟩
theorem wb_of32 (x : Int32) : ∃ n, n < 2 ^ 32 ∧ x = nI n := ⟨x.toBitVec.toNat, x.toBitVec.isLt, Int32.toBitVec_inj.mp (by show _ = BitVec.ofNat 32 _; simp)⟩
theorem wb_c : ∀ k, k < 64 → ((nI k).toInt64 &&& 63) = lN k := by decide +kernel
theorem wb_cu : ∀ k, k < 64 → ((nI k).toInt64.toUInt64 &&& Int64.toUInt64 63) = UInt64.ofNat k := by decide +kernel
theorem wb_sm : ∀ k, k < 64 → (BitVec.ofNat 64 k).smod 64 = BitVec.ofNat 64 k := by decide +kernel
theorem wb_pw {a b : Nat} (h : a ≤ b) : 2 ^ b = 2 ^ a * 2 ^ (b - a) := by rw [← Nat.pow_add]; congr 1; omega
theorem wb_lt2 {a b : Nat} (h : a < b) : 2 ^ a < 2 ^ b := Nat.pow_lt_pow_right (by decide) h
theorem wb_mod (n : Nat) : lN n = lN (n % 2 ^ 64) := wb_inj (by rw [wb_tb, wb_tb]; apply BitVec.eq_of_toNat_eq; rw [BitVec.toNat_ofNat, BitVec.toNat_ofNat, Nat.mod_mod])
theorem wb_shr {n k : Nat} (hn : n < 2 ^ 64) (hk : k < 64) : ((lN n).toUInt64 >>> ((nI k).toInt64.toUInt64 &&& Int64.toUInt64 63)).toInt64 = lN (n / 2 ^ k) := by
  rw [wb_cu k hk]
  apply wb_inj
  apply BitVec.eq_of_toNat_eq
  show ((lN n).toUInt64 >>> UInt64.ofNat k).toNat = (BitVec.ofNat 64 _).toNat
  have h1 : (UInt64.ofNat k).toNat = k := by
    show (BitVec.ofNat 64 k).toNat = k
    rw [BitVec.toNat_ofNat, Nat.mod_eq_of_lt (by omega)]
  have h2 : (lN n).toUInt64.toNat = n := wb_tn hn
  rw [UInt64.toNat_shiftRight, h1, h2, Nat.mod_eq_of_lt hk, Nat.shiftRight_eq_div_pow, BitVec.toNat_ofNat, Nat.mod_eq_of_lt (Nat.lt_of_le_of_lt (Nat.div_le_self _ _) hn)]
theorem wb_shl (n : Nat) {k : Nat} (hk : k < 64) : lN n <<< ((nI k).toInt64 &&& 63) = lN (n * 2 ^ k) := by
  rw [wb_c k hk]
  apply wb_inj
  rw [Int64.toBitVec_shiftLeft, wb_tb, wb_tb, wb_tb, wb_sm k hk]
  apply BitVec.eq_of_toNat_eq
  rw [BitVec.shiftLeft_eq', BitVec.toNat_shiftLeft, BitVec.toNat_ofNat, BitVec.toNat_ofNat, BitVec.toNat_ofNat, Nat.mod_eq_of_lt (show k < 2 ^ 64 by omega), Nat.shiftLeft_eq, Nat.mul_mod, Nat.mod_mod, ← Nat.mul_mod]
theorem wb_and {a b : Nat} (ha : a < 2 ^ 64) (hb : b < 2 ^ 64) : lN a &&& lN b = lN (a &&& b) := by
  apply wb_inj
  rw [Int64.toBitVec_and, wb_tb, wb_tb, wb_tb]
  apply BitVec.eq_of_toNat_eq
  rw [BitVec.toNat_and, BitVec.toNat_ofNat, BitVec.toNat_ofNat, BitVec.toNat_ofNat, Nat.mod_eq_of_lt ha, Nat.mod_eq_of_lt hb, Nat.mod_eq_of_lt (Nat.and_lt_two_pow _ hb)]
theorem wb_or {a b : Nat} (ha : a < 2 ^ 64) (hb : b < 2 ^ 64) : lN a ||| lN b = lN (a ||| b) := by
  apply wb_inj
  rw [Int64.toBitVec_or, wb_tb, wb_tb, wb_tb]
  apply BitVec.eq_of_toNat_eq
  rw [BitVec.toNat_or, BitVec.toNat_ofNat, BitVec.toNat_ofNat, BitVec.toNat_ofNat, Nat.mod_eq_of_lt ha, Nat.mod_eq_of_lt hb, Nat.mod_eq_of_lt (Nat.or_lt_two_pow ha hb)]
theorem wb_mask {n k : Nat} (hn : n < 2 ^ 64) (hk : k < 64) : lN n &&& lN (2 ^ k - 1) = lN (n % 2 ^ k) := by
  rw [wb_and hn (by have := wb_lt2 hk; omega), Nat.and_two_pow_sub_one_eq_mod]
theorem wb_a1 {n : Nat} (hn : n < 2 ^ 64) : lN n &&& 1 = lN (n % 2) := wb_mask (k := 1) hn (by decide)
theorem wb_bit {n k : Nat} (hn : n < 2 ^ 64) (hk : k < 64) : ((lN n).toUInt64 >>> ((nI k).toInt64.toUInt64 &&& Int64.toUInt64 63)).toInt64 &&& 1 = lN (n / 2 ^ k % 2) := by
  rw [wb_shr hn hk, wb_a1 (Nat.lt_of_le_of_lt (Nat.div_le_self _ _) hn)]
theorem fb_holes : ∀ (m n : Nat) (f : Nat → Nat), (∀ i, i < n → f i < m) → (∀ i j, i < j → j < n → f i ≠ f j) → n ≤ m := by
  intro m
  induction m with
  | zero =>
    intro n f h1 _
    rcases Nat.eq_zero_or_pos n with h | h
    · omega
    · exact absurd (h1 0 h) (Nat.not_lt_zero _)
  | succ m ih =>
    intro n f h1 h2
    by_cases hx : ∃ i, i < n ∧ f i = m
    · obtain ⟨a, ha, hfa⟩ := hx
      have hg := ih (n - 1) (fun i => if i < a then f i else f (i + 1)) (by
        intro i hi
        by_cases q : i < a
        · simp only [if_pos q]
          have b1 := h1 i (by omega)
          have b2 := h2 i a q ha
          omega
        · simp only [if_neg q]
          have b1 := h1 (i + 1) (by omega)
          have b2 := h2 a (i + 1) (by omega) (by omega)
          omega) (by
        intro i j hij hj
        by_cases q : i < a
        · by_cases r : j < a
          · simp only [if_pos q, if_pos r]
            exact h2 i j hij (by omega)
          · simp only [if_pos q, if_neg r]
            exact h2 i (j + 1) (by omega) (by omega)
        · have r : ¬ j < a := by omega
          simp only [if_neg q, if_neg r]
          exact h2 (i + 1) (j + 1) (by omega) (by omega))
      omega
    · have hg := ih n f (fun i hi => by
        have b1 := h1 i hi
        have b2 : f i ≠ m := fun e => hx ⟨i, hi, e⟩
        omega) h2
      omega
/-- two of them in one place -/
theorem fb_twice {m n : Nat} {f : Nat → Nat} (h : ∀ i, i < n → f i < m) (hm : m < n) : ∃ i j, i < j ∧ j < n ∧ f i = f j := by
  refine Classical.byContradiction fun hx => ?_
  have := fb_holes m n f h (fun i j hij hj e => hx ⟨i, j, hij, hj, e⟩)
  omega
/-- as many as places, none twice: each place is taken -/
theorem fb_andL (a b : Nat) : lN a &&& lN b = lN (a &&& b) := by
  apply Int64.toBitVec_inj.1
  show BitVec.ofNat 64 a &&& BitVec.ofNat 64 b = BitVec.ofNat 64 (a &&& b)
  apply BitVec.eq_of_getLsbD_eq
  intro i hi
  simp [hi]
theorem fb_orL (a b : Nat) : lN a ||| lN b = lN (a ||| b) := by
  apply Int64.toBitVec_inj.1
  show BitVec.ofNat 64 a ||| BitVec.ofNat 64 b = BitVec.ofNat 64 (a ||| b)
  apply BitVec.eq_of_getLsbD_eq
  intro i hi
  simp [hi]
theorem fb_xorL (a b : Nat) : lN a ^^^ lN b = lN (a ^^^ b) := by
  apply Int64.toBitVec_inj.1
  show BitVec.ofNat 64 a ^^^ BitVec.ofNat 64 b = BitVec.ofNat 64 (a ^^^ b)
  apply BitVec.eq_of_getLsbD_eq
  intro i hi
  simp [hi]
theorem fb_xorI (a b : Nat) : nI a ^^^ nI b = nI (a ^^^ b) := by
  apply Int32.toBitVec_inj.1
  show BitVec.ofNat 32 a ^^^ BitVec.ofNat 32 b = BitVec.ofNat 32 (a ^^^ b)
  apply BitVec.eq_of_getLsbD_eq
  intro i hi
  simp [hi]
theorem fb_maskL (n k : Nat) : lN n &&& lN (2 ^ k - 1) = lN (n % 2 ^ k) := by rw [fb_andL, Nat.and_two_pow_sub_one_eq_mod]
theorem fb_or_sumL {a k : Nat} (b : Nat) (h : a < 2 ^ k) : lN (2 ^ k * b) ||| lN a = lN (2 ^ k * b + a) := by rw [fb_orL, Nat.two_pow_add_eq_or_of_lt h]
theorem fb_lN_inj {a b : Nat} (ha : a < 2 ^ 63) (hb : b < 2 ^ 63) : lN a = lN b ↔ a = b := by
  constructor
  · intro h
    have h1 : (BitVec.ofNat 64 a).toNat = (BitVec.ofNat 64 b).toNat := congrArg (fun x : Int64 => x.toBitVec.toNat) h
    rw [BitVec.toNat_ofNat, BitVec.toNat_ofNat, Nat.mod_eq_of_lt (by omega), Nat.mod_eq_of_lt (by omega)] at h1
    exact h1
  · rintro rfl; rfl
theorem fb_rng (x : Int32) : -2147483648 ≤ x.toInt ∧ x.toInt < 2147483648 := by
  have h1 := Int32.le_toInt x
  have h2 := Int32.toInt_lt x
  omega
theorem fb_bmod {z : Int} (h1 : -2147483648 ≤ z) (h2 : z < 2147483648) : z.bmod (2 ^ 32) = z := by
  rw [Int.bmod_eq_of_le (by omega) (by omega)]
theorem fb_addI {x y : Int32} (h1 : -2147483648 ≤ x.toInt + y.toInt) (h2 : x.toInt + y.toInt < 2147483648) : (x + y).toInt = x.toInt + y.toInt := by
  rw [Int32.toInt_add, fb_bmod h1 h2]
theorem fb_subI {x y : Int32} (h1 : -2147483648 ≤ x.toInt - y.toInt) (h2 : x.toInt - y.toInt < 2147483648) : (x - y).toInt = x.toInt - y.toInt := by
  rw [Int32.toInt_sub, fb_bmod h1 h2]
theorem fb_mulI {x y : Int32} (h1 : -2147483648 ≤ x.toInt * y.toInt) (h2 : x.toInt * y.toInt < 2147483648) : (x * y).toInt = x.toInt * y.toInt := by
  rw [Int32.toInt_mul, fb_bmod h1 h2]
theorem fb_char {n : Nat} (h : n < 65536) : (nI n).toUInt32.toUInt16.toUInt32.toInt32 = nI n := by
  apply Int32.toBitVec_inj.1
  apply BitVec.eq_of_toNat_eq
  have e1 : (nI n).toBitVec.toNat = n := by
    show (BitVec.ofNat 32 n).toNat = n
    rw [BitVec.toNat_ofNat, Nat.mod_eq_of_lt (by omega)]
  have e2 : ((nI n).toUInt32.toUInt16.toUInt32).toNat = n := by
    rw [UInt16.toNat_toUInt32, UInt32.toNat_toUInt16]
    show (nI n).toBitVec.toNat % 2 ^ 16 = n
    rw [e1, Nat.mod_eq_of_lt (by omega)]
  rw [e1]
  exact e2
theorem fa_lt (a b : Int32) : a < b ↔ a.toInt < b.toInt := Int32.lt_iff_toInt_lt
theorem fa_le (a b : Int32) : a ≤ b ↔ a.toInt ≤ b.toInt := Int32.le_iff_toInt_le
theorem fa_eq (a b : Int32) : a = b ↔ a.toInt = b.toInt := Int32.toInt_inj.symm
theorem fa_lt64 (a b : Int64) : a < b ↔ a.toInt < b.toInt := Int64.lt_iff_toInt_lt
theorem fa_le64 (a b : Int64) : a ≤ b ↔ a.toInt ≤ b.toInt := Int64.le_iff_toInt_le
theorem fa_eq64 (a b : Int64) : a = b ↔ a.toInt = b.toInt := Int64.toInt_inj.symm
/-- a comparison of two ints taken as longs -/
theorem fa_and (a b : Nat) : nI a &&& nI b = nI (a &&& b) := by
  apply Int32.toBitVec_inj.1
  show BitVec.ofNat 32 a &&& BitVec.ofNat 32 b = BitVec.ofNat 32 (a &&& b)
  apply BitVec.eq_of_getLsbD_eq
  intro i hi
  simp [hi]
theorem fa_or (a b : Nat) : nI a ||| nI b = nI (a ||| b) := by
  apply Int32.toBitVec_inj.1
  show BitVec.ofNat 32 a ||| BitVec.ofNat 32 b = BitVec.ofNat 32 (a ||| b)
  apply BitVec.eq_of_getLsbD_eq
  intro i hi
  simp [hi]
/-- a remainder by a power of two, as a mask -/
theorem fa_mask (n k : Nat) : nI n &&& nI (2 ^ k - 1) = nI (n % 2 ^ k) := by rw [fa_and, Nat.and_two_pow_sub_one_eq_mod]
/-- 'or' of a high part and a low one that don't meet is their sum -/
theorem fa_or_sum {a k : Nat} (b : Nat) (h : a < 2 ^ k) : nI (2 ^ k * b) ||| nI a = nI (2 ^ k * b + a) := by rw [fa_or, Nat.two_pow_add_eq_or_of_lt h]

/-! frames and contracts with a predicate of the heap behind -/
def Fr (S : Nat → Nat → Prop) (σ h : Hp) : Prop := h.1 = σ.1 ∧ ∀ f p, ¬ S f p → hI h f p = hI σ f p ∧ hL h f p = hL σ f p ∧ hR h f p = hR σ f p
theorem Fr.rfl' (S : Nat → Nat → Prop) (σ : Hp) : Fr S σ σ := ⟨rfl, fun _ _ _ => ⟨rfl, rfl, rfl⟩⟩
theorem Fr.tr {S : Nat → Nat → Prop} {σ h k : Hp} (a : Fr S σ h) (b : Fr S h k) : Fr S σ k := ⟨b.1.trans a.1, fun f p n => ⟨(b.2 f p n).1.trans (a.2 f p n).1, (b.2 f p n).2.1.trans (a.2 f p n).2.1, (b.2 f p n).2.2.trans (a.2 f p n).2.2⟩⟩
theorem Fr.mo {S T : Nat → Nat → Prop} {σ h : Hp} (a : Fr S σ h) (m : ∀ f p, S f p → T f p) : Fr T σ h := ⟨a.1, fun f p n => a.2 f p fun s => n (m f p s)⟩
theorem Fr.sI {S : Nat → Nat → Prop} {σ h : Hp} (a : Fr S σ h) {f p : Nat} (s : S f p) (k : Nat) (x : Int32) : Fr S σ (setI h f p k x) := by
  refine a.tr ⟨rfl, fun f' p' n => ⟨?_, rfl, rfl⟩⟩
  funext k'
  show (if f' = f ∧ p' = p ∧ k' = k then x else hI h f' p' k') = _
  rw [if_neg (fun q => n (by rw [q.1, q.2.1]; exact s))]
theorem Fr.sL {S : Nat → Nat → Prop} {σ h : Hp} (a : Fr S σ h) {f p : Nat} (s : S f p) (k : Nat) (x : Int64) : Fr S σ (setL h f p k x) := by
  refine a.tr ⟨rfl, fun f' p' n => ⟨rfl, ?_, rfl⟩⟩
  funext k'
  show (if f' = f ∧ p' = p ∧ k' = k then x else hL h f' p' k') = _
  rw [if_neg (fun q => n (by rw [q.1, q.2.1]; exact s))]
theorem Fr.sR {S : Nat → Nat → Prop} {σ h : Hp} (a : Fr S σ h) {f p : Nat} (s : S f p) (k : Nat) (x : Option (Nat × Nat)) : Fr S σ (setR h f p k x) := by
  refine a.tr ⟨rfl, fun f' p' n => ⟨rfl, rfl, ?_⟩⟩
  funext k'
  show (if f' = f ∧ p' = p ∧ k' = k then x else hR h f' p' k') = _
  rw [if_neg (fun q => n (by rw [q.1, q.2.1]; exact s))]
theorem Fr.aI {S : Nat → Nat → Prop} {σ h : Hp} (a : Fr S σ h) {f p : Nat} (s : S f p) (g : Nat → Int32) : Fr S σ (arrI h f p g) := by
  refine a.tr ⟨rfl, fun f' p' n => ⟨?_, rfl, rfl⟩⟩
  funext k'
  show (if f' = f ∧ p' = p then g k' else hI h f' p' k') = _
  rw [if_neg (fun q => n (by rw [q.1, q.2]; exact s))]
theorem Fr.cI {S : Nat → Nat → Prop} {σ h : Hp} (a : Fr S σ h) {f p sp g q dp n : Nat} (s : S g q) : Fr S σ (cpI h f p sp g q dp n) := by
  refine a.tr ⟨rfl, fun f' p' n' => ⟨?_, rfl, rfl⟩⟩
  funext k'
  show (if f' = g ∧ p' = q then _ else hI h f' p' k') = _
  rw [if_neg (fun w => n' (by rw [w.1, w.2]; exact s))]
theorem Fr.cL {S : Nat → Nat → Prop} {σ h : Hp} (a : Fr S σ h) {f p sp g q dp n : Nat} (s : S g q) : Fr S σ (cpL h f p sp g q dp n) := by
  refine a.tr ⟨rfl, fun f' p' n' => ⟨rfl, ?_, rfl⟩⟩
  funext k'
  show (if f' = g ∧ p' = q then _ else hL h f' p' k') = _
  rw [if_neg (fun w => n' (by rw [w.1, w.2]; exact s))]
theorem hI_s (h : Hp) (f p k : Nat) (x : Int32) : hI (setI h f p k x) f p k = x := if_pos ⟨rfl, rfl, rfl⟩
theorem hI_k (h : Hp) (f p : Nat) {k j : Nat} (x : Int32) (n : j ≠ k) : hI (setI h f p k x) f p j = hI h f p j := if_neg fun q => n q.2.2
theorem hL_s (h : Hp) (f p k : Nat) (x : Int64) : hL (setL h f p k x) f p k = x := if_pos ⟨rfl, rfl, rfl⟩
theorem hL_k (h : Hp) (f p : Nat) {k j : Nat} (x : Int64) (n : j ≠ k) : hL (setL h f p k x) f p j = hL h f p j := if_neg fun q => n q.2.2
theorem hI_u (h : Hp) (f p k : Nat) (x : Int32) : hI (setI h f p k x) f p = upd (hI h f p) k x := by
  funext j
  show (if f = f ∧ p = p ∧ j = k then x else hI h f p j) = if j = k then x else hI h f p j
  by_cases e : j = k
  · rw [if_pos ⟨rfl, rfl, e⟩, if_pos e]
  · rw [if_neg (fun q => e q.2.2), if_neg e]
theorem hI_f (h : Hp) {f p f' p' : Nat} (k : Nat) (x : Int32) (n : f' ≠ f ∨ p' ≠ p) : hI (setI h f p k x) f' p' = hI h f' p' := by
  funext j
  show (if f' = f ∧ p' = p ∧ j = k then x else hI h f' p' j) = _
  rw [if_neg (by omega)]
theorem hL_f (h : Hp) {f p f' p' : Nat} (k : Nat) (x : Int64) (n : f' ≠ f ∨ p' ≠ p) : hL (setL h f p k x) f' p' = hL h f' p' := by
  funext j
  show (if f' = f ∧ p' = p ∧ j = k then x else hL h f' p' j) = _
  rw [if_neg (by omega)]
theorem hI_a (h : Hp) (f p : Nat) (g : Nat → Int32) : hI (arrI h f p g) f p = g := funext fun _ => if_pos ⟨rfl, rfl⟩
theorem hI_af (h : Hp) {f p f' p' : Nat} (g : Nat → Int32) (n : f' ≠ f ∨ p' ≠ p) : hI (arrI h f p g) f' p' = hI h f' p' := by
  funext j
  show (if f' = f ∧ p' = p then g j else hI h f' p' j) = _
  rw [if_neg (by omega)]
def PI (d mi : Nat) (as : List AV) (σ : Hp) (v : Int32) (P : Hp → Prop) : Prop := Ev true d mi as σ σ.1 (fun r s => r = some (vi v) ∧ P s)
def PL (d mi : Nat) (as : List AV) (σ : Hp) (v : Int64) (P : Hp → Prop) : Prop := Ev true d mi as σ σ.1 (fun r s => r = some (vl v) ∧ P s)
def PV (d mi : Nat) (as : List AV) (σ : Hp) (P : Hp → Prop) : Prop := Ev true d mi as σ σ.1 (fun r s => r = none ∧ P s)
theorem PI_of {d mi : Nat} {as : List AV} {σ : Hp} {P : Hp → Prop} {v : Int32} {me : MEnt} (hm : MT[mi]? = some me) (hl : (ent as).length ≤ me.2.2.1) (k : ∀ Q : Option AV → Hp → Prop, (∀ h, P h → Q (some (vi v)) h) → Sat true d mi σ.1 Q 0 (entL me.2.2.1 as) [] σ) : PI d mi as σ v P := Ev_of hm hl (Nat.le_refl _) (Nat.le_refl _) (k _ fun _ q => ⟨rfl, q⟩)
theorem PL_of {d mi : Nat} {as : List AV} {σ : Hp} {P : Hp → Prop} {v : Int64} {me : MEnt} (hm : MT[mi]? = some me) (hl : (ent as).length ≤ me.2.2.1) (k : ∀ Q : Option AV → Hp → Prop, (∀ h, P h → Q (some (vl v)) h) → Sat true d mi σ.1 Q 0 (entL me.2.2.1 as) [] σ) : PL d mi as σ v P := Ev_of hm hl (Nat.le_refl _) (Nat.le_refl _) (k _ fun _ q => ⟨rfl, q⟩)
theorem PV_of {d mi : Nat} {as : List AV} {σ : Hp} {P : Hp → Prop} {me : MEnt} (hm : MT[mi]? = some me) (hl : (ent as).length ≤ me.2.2.1) (k : ∀ Q : Option AV → Hp → Prop, (∀ h, P h → Q none h) → Sat true d mi σ.1 Q 0 (entL me.2.2.1 as) [] σ) : PV d mi as σ P := Ev_of hm hl (Nat.le_refl _) (Nat.le_refl _) (k _ fun _ q => ⟨rfl, q⟩)
theorem cp_i {d mj : Nat} {as : List AV} {σ : Hp} {v : Int32} {P : Hp → Prop} {B : Nat × Nat × Nat} {K : Int32 → Hp → Prop} (c : PI d mj as σ v P) (hB : σ.1 = B) (k : ∀ h, P h → h.1 = B → K v h) : CalI true d mj as σ B K := ⟨σ.1, _, c, by rw [hB]; exact Nat.le_refl _, by rw [hB]; exact Nat.le_refl _, fun x s q e => by
  obtain ⟨q1, q2⟩ := q
  cases q1
  exact k s q2 (e.trans hB)⟩
theorem cp_l {d mj : Nat} {as : List AV} {σ : Hp} {v : Int64} {P : Hp → Prop} {B : Nat × Nat × Nat} {K : Int64 → Hp → Prop} (c : PL d mj as σ v P) (hB : σ.1 = B) (k : ∀ h, P h → h.1 = B → K v h) : CalL true d mj as σ B K := ⟨σ.1, _, c, by rw [hB]; exact Nat.le_refl _, by rw [hB]; exact Nat.le_refl _, fun x s q e => by
  obtain ⟨q1, q2⟩ := q
  cases q1
  exact k s q2 (e.trans hB)⟩
theorem cp_v {d mj : Nat} {as : List AV} {σ : Hp} {P : Hp → Prop} {B : Nat × Nat × Nat} {K : Hp → Prop} (c : PV d mj as σ P) (hB : σ.1 = B) (k : ∀ h, P h → h.1 = B → K h) : CalV true d mj as σ B K := ⟨σ.1, _, c, by rw [hB]; exact Nat.le_refl _, by rw [hB]; exact Nat.le_refl _, fun s q e => k s q.2 (e.trans hB)⟩
/-! sets of pages as ints -/
def bt (m : Int32) (p : Nat) : Bool := m.toBitVec.getLsbD p
def bit (p : Nat) : Int32 := nI 1 <<< (nI p &&& 31)
theorem bt_or (a b : Int32) (p : Nat) : bt (a ||| b) p = (bt a p || bt b p) := by
  unfold bt
  rw [Int32.toBitVec_or, BitVec.getLsbD_or]
theorem bt_not (a b : Int32) {p : Nat} (hp : p < 32) : bt (a &&& (b ^^^ (-1))) p = (bt a p && ! bt b p) := by
  unfold bt
  have ha : (-1 : Int32).toBitVec = BitVec.allOnes 32 := by decide
  rw [Int32.toBitVec_and, Int32.toBitVec_xor, ha, BitVec.getLsbD_and, BitVec.getLsbD_xor, BitVec.getLsbD_allOnes]
  simp [hp]
theorem bt_bit : ∀ q, q < 12 → ∀ p, p < 32 → bt (bit q) p = decide (p = q) := by decide +kernel
theorem bt_0 (p : Nat) : bt (nI 0) p = false := by
  unfold bt
  show (0#32).getLsbD p = false
  simp
theorem bt_ext {a b : Int32} (h : ∀ p, p < 32 → bt a p = bt b p) : a = b := by
  apply Int32.toBitVec_inj.1
  apply BitVec.eq_of_getLsbD_eq
  intro i hi
  exact h i hi
theorem sh_c : ∀ p, p < 12 → ((nI p).toUInt32 &&& Int32.toUInt32 31) = UInt32.ofNat p := by decide +kernel
theorem sh_s : ∀ p, p < 12 → ((nI p &&& 31).toBitVec.smod 32).toNat = p := by decide +kernel
theorem b1_of {x : Int32} {b : Bool} (h : x.toBitVec.getLsbD 0 = b) : x &&& nI 1 = bI b := by
  apply Int32.toBitVec_inj.1
  apply BitVec.eq_of_getLsbD_eq
  intro i hi
  rw [Int32.toBitVec_and, BitVec.getLsbD_and]
  have e : (nI 1).toBitVec = 1#32 := rfl
  rw [e]
  by_cases q : i = 0
  · subst q
    rw [h]
    cases b <;> decide
  · have h2 : (1#32).getLsbD i = false := by
      rw [BitVec.getLsbD_one]
      simp [q]
    rw [h2, Bool.and_false]
    cases b
    · show false = (0#32).getLsbD i
      simp
    · show false = (1#32).getLsbD i
      rw [h2]
theorem in_u (m : Int32) {p : Nat} (hp : p < 12) : (m.toUInt32 >>> ((nI p).toUInt32 &&& Int32.toUInt32 31)).toInt32 &&& nI 1 = bI (bt m p) := by
  apply b1_of
  rw [sh_c p hp]
  show (m.toUInt32 >>> UInt32.ofNat p).toBitVec.getLsbD 0 = m.toBitVec.getLsbD p
  have h1 : (UInt32.ofNat p).toBitVec.umod 32 = BitVec.ofNat 32 p := by
    have : ∀ p, p < 12 → (UInt32.ofNat p).toBitVec.umod 32 = BitVec.ofNat 32 p := by decide +kernel
    exact this p hp
  have h2 : (m.toUInt32 >>> UInt32.ofNat p).toBitVec = m.toBitVec >>> p := by
    apply BitVec.eq_of_toNat_eq
    show (m.toUInt32 >>> UInt32.ofNat p).toNat = _
    rw [UInt32.toNat_shiftRight, BitVec.toNat_ushiftRight]
    have : (UInt32.ofNat p).toNat = p := Nat.mod_eq_of_lt (by omega)
    rw [this, Nat.mod_eq_of_lt (by omega)]
    rfl
  rw [h2, BitVec.getLsbD_ushiftRight, Nat.add_zero]
theorem in_s (m : Int32) {p : Nat} (hp : p < 12) : m >>> (nI p &&& 31) &&& nI 1 = bI (bt m p) := by
  apply b1_of
  show (m.toBitVec.sshiftRight' ((nI p &&& 31).toBitVec.smod 32)).getLsbD 0 = m.toBitVec.getLsbD p
  rw [BitVec.sshiftRight_eq', sh_s p hp, BitVec.getLsbD_sshiftRight]
  rw [if_pos (by omega), Nat.add_zero]
  simp
/-! texts in rows -/
def Tx (u : Nat → Int32) : Nat → List Nat → Prop
  | _, [] => True
  | o, c :: r => u o = nI c ∧ Tx u (o + 1) r
theorem Tx_app {u : Nat → Int32} : ∀ {w v : List Nat} {o : Nat}, Tx u o (w ++ v) ↔ Tx u o w ∧ Tx u (o + w.length) v := by
  intro w
  induction w with
  | nil => intro v o; exact ⟨fun h => ⟨trivial, h⟩, fun h => h.2⟩
  | cons c r ih =>
    intro v o
    have e : o + (c :: r).length = o + 1 + r.length := by rw [List.length_cons]; omega
    rw [e]
    show (u o = nI c ∧ Tx u (o + 1) (r ++ v)) ↔ (u o = nI c ∧ Tx u (o + 1) r) ∧ _
    rw [ih]
    exact ⟨fun h => ⟨⟨h.1, h.2.1⟩, h.2.2⟩, fun h => ⟨h.1.1, h.1.2, h.2⟩⟩
theorem Tx_cong {u v : Nat → Int32} : ∀ {w : List Nat} {o : Nat}, Tx u o w → (∀ k, o ≤ k → k < o + w.length → v k = u k) → Tx v o w := by
  intro w
  induction w with
  | nil => intro o _ _; trivial
  | cons c r ih =>
    intro o h g
    rw [List.length_cons] at g
    exact ⟨by rw [g o (by omega) (by omega)]; exact h.1, ih h.2 fun k a b => g k (by omega) (by omega)⟩
theorem Tx_get {u : Nat → Int32} : ∀ {w : List Nat} {o k : Nat}, Tx u o w → k < w.length → u (o + k) = nI (w.getD k 0) := by
  intro w
  induction w with
  | nil => intro o k _ h; cases h
  | cons c r ih =>
    intro o k h g
    cases k with
    | zero => exact h.1
    | succ k =>
      rw [show o + (k + 1) = o + 1 + k by omega]
      exact ih h.2 (Nat.lt_of_succ_lt_succ g)
theorem Tx_of {u : Nat → Int32} : ∀ {w : List Nat} {o : Nat}, (∀ k, k < w.length → u (o + k) = nI (w.getD k 0)) → Tx u o w := by
  intro w
  induction w with
  | nil => intro o _; trivial
  | cons c r ih =>
    intro o h
    refine ⟨h 0 (by rw [List.length_cons]; omega), ih fun k hk => ?_⟩
    have := h (k + 1) (by rw [List.length_cons]; omega)
    rw [show o + (k + 1) = o + 1 + k by omega] at this
    exact this
theorem Tx_sh {u v : Nat → Int32} : ∀ {w : List Nat} {o q : Nat}, Tx u o w → (∀ k, k < w.length → v (q + k) = u (o + k)) → Tx v q w := fun h g => Tx_of fun k hk => by rw [g k hk]; exact Tx_get h hk
theorem Tx_sg {u : Nat → Int32} {t : Nat → Nat} : ∀ {n o a : Nat}, (∀ k, k < n → u (o + k) = nI (t (a + k))) → Tx u o (sg t a n) := by
  intro n
  induction n with
  | zero => intro o a _; trivial
  | succ n ih =>
    intro o a h
    refine ⟨h 0 (by omega), ih fun k hk => ?_⟩
    have := h (k + 1) (by omega)
    rw [show o + (k + 1) = o + 1 + k by omega, show a + (k + 1) = a + 1 + k by omega] at this
    exact this
def small (w : List Nat) : Prop := ∀ c ∈ w, c < 128
theorem nar_c {n : Nat} (h : n < 65536) : vp_nar .char (nI n) = nI n := fb_char h
theorem i2c_n {n : Nat} (h : n < 65536) : ((nI n).toUInt32 % 65536).toInt32 = nI n := by
  apply Int32.toBitVec_inj.1
  apply BitVec.eq_of_toNat_eq
  show ((nI n).toUInt32 % 65536).toNat = (BitVec.ofNat 32 n).toNat
  rw [UInt32.toNat_mod]
  show (BitVec.ofNat 32 n).toNat % 65536 = (BitVec.ofNat 32 n).toNat
  rw [BitVec.toNat_ofNat, Nat.mod_eq_of_lt (show n < 2 ^ 32 by omega), Nat.mod_eq_of_lt h]
theorem i2l_n {n : Nat} (h : n < 2147483648) : (nI n).toInt64 = lN n := by
  apply Int64.toInt_inj.mp
  rw [Int32.toInt_toInt64, pk_lT (by omega), nI_toInt h]
theorem l2i_n {n : Nat} (h : n < 2147483648) : (lN n).toInt32 = nI n := by
  rw [← i2l_n h]
  exact Int32.toInt32_toInt64 _
end
section
/-! anchors as longs -/
theorem vin {i n : Nat} (hi : i < 2147483648) (hn : n < 2147483648) : vp_in (nI i) n ↔ i < n := by
  constructor
  · intro h
    refine Nat.not_le.mp fun q => h (Or.inr ?_)
    rw [ix hi]
    exact q
  · intro h
    exact inb h hn
theorem Sat_no {md : Bool} {d mi : Nat} {B : Nat × Nat × Nat} {Q : Option AV → Hp → Prop} {pc : Nat} {ls : Ls} {st : List AV} {σ : Hp} (i : Nat) (h : Sat md d mi B Q pc (ls.set i none) st σ) : Sat md d mi B Q pc ls st σ := by
  intro me hm p l e R s m args below meth c Qm D dT z b n0 t0 cx b1 b2 hz k H locs arr kc ks hi hs hl e1 e2
  refine h me hm p l e R s m args below meth c Qm D dT z b n0 t0 cx b1 b2 hz k H locs arr kc ks hi hs ?_ e1 e2
  obtain ⟨l1, l2, l3, l4⟩ := hl
  refine ⟨l1, l2, by rw [List.length_set]; exact l3, fun j v hv => l4 j v ?_⟩
  rw [List.getElem?_set] at hv
  by_cases q : i = j
  · rw [if_pos q] at hv
    split at hv
    · cases hv
    · cases hv
  · rw [if_neg q] at hv
    exact hv
def sy (c : Nat) : Nat := if 97 ≤ c then c - 96 else c - 21
def nmR : List Nat → Nat
  | [] => 0
  | c :: r => nmR r * 64 + sy c
def nmC (w : List Nat) : Nat := nmR w.reverse
def anC (a : Anc) : Nat := nmC a.1 * 128 + a.2
def anO (a : Option Anc) : Nat := match a with
  | none => 0
  | some x => anC x
def txO (a : Option Anc) : List Nat := match a with
  | none => []
  | some x => txAnc x
def gAO (a : Option Anc) : Prop := ∀ x, a = some x → gAnc x
theorem sy_b {c : Nat} (h : isLt c ∨ isDg c) : 1 ≤ sy c ∧ sy c ≤ 36 := by
  unfold sy
  rcases h with ⟨h1, h2⟩ | ⟨h1, h2⟩
  · rw [if_pos h1]; omega
  · rw [if_neg (by omega)]; omega
theorem ld_s {c : Nat} (h : isLt c ∨ isDg c) : c < 128 := by
  rcases h with ⟨h1, h2⟩ | ⟨h1, h2⟩ <;> omega
theorem sy_inj {c e : Nat} (h : isLt c ∨ isDg c) (g : isLt e ∨ isDg e) (q : sy c = sy e) : c = e := by
  unfold sy at q
  rcases h with ⟨h1, h2⟩ | ⟨h1, h2⟩
  · rw [if_pos h1] at q
    rcases g with ⟨g1, g2⟩ | ⟨g1, g2⟩
    · rw [if_pos g1] at q; omega
    · rw [if_neg (by omega)] at q; omega
  · rw [if_neg (by omega)] at q
    rcases g with ⟨g1, g2⟩ | ⟨g1, g2⟩
    · rw [if_pos g1] at q; omega
    · rw [if_neg (by omega)] at q; omega
theorem nmC_app (w : List Nat) (c : Nat) : nmC (w ++ [c]) = nmC w * 64 + sy c := by
  unfold nmC
  rw [List.reverse_append]
  rfl
theorem gRest_c {c : Nat} {r : List Nat} (h : gRest (c :: r)) : (isLt c ∨ isDg c) ∧ gRest r := ⟨h c List.mem_cons_self, fun x hx => h x (List.mem_cons_of_mem c hx)⟩
theorem gRest_a {w v : List Nat} (h : gRest (w ++ v)) : gRest w ∧ gRest v := ⟨fun x hx => h x (List.mem_append.mpr (Or.inl hx)), fun x hx => h x (List.mem_append.mpr (Or.inr hx))⟩
theorem gRest_rev {w : List Nat} (h : gRest w) : gRest w.reverse := fun x hx => h x (List.mem_reverse.mp hx)
theorem gName_r {w : List Nat} (h : gName w) : gRest w ∧ 1 ≤ w.length ∧ w.length ≤ 8 := by
  obtain ⟨c, r, rfl, h1, h2, h3⟩ := h
  refine ⟨fun x hx => ?_, ?_, ?_⟩
  · cases hx with
    | head => exact Or.inl h1
    | tail _ q => exact h2 x q
  · rw [List.length_cons]; omega
  · rw [List.length_cons]; omega
theorem nmR_lt : ∀ (r : List Nat), gRest r → nmR r < 64 ^ r.length := by
  intro r
  induction r with
  | nil => intro _; decide
  | cons c r ih =>
    intro h
    obtain ⟨h1, h2⟩ := gRest_c h
    have := ih h2
    have := sy_b h1
    show nmR r * 64 + sy c < 64 ^ (r.length + 1)
    rw [Nat.pow_succ]
    omega
theorem nmR_inj : ∀ (r s : List Nat), gRest r → gRest s → nmR r = nmR s → r = s := by
  intro r
  induction r with
  | nil =>
    intro s _ h q
    cases s with
    | nil => rfl
    | cons e s =>
      have := sy_b (gRest_c h).1
      have q : 0 = nmR s * 64 + sy e := q
      omega
  | cons c r ih =>
    intro s hr hs q
    have h1 := sy_b (gRest_c hr).1
    cases s with
    | nil =>
      have q : nmR r * 64 + sy c = 0 := q
      omega
    | cons e s =>
      have h2 := sy_b (gRest_c hs).1
      have q : nmR r * 64 + sy c = nmR s * 64 + sy e := q
      have e1 : sy c = sy e := by omega
      have e2 : nmR r = nmR s := by omega
      rw [sy_inj (gRest_c hr).1 (gRest_c hs).1 e1, ih s (gRest_c hr).2 (gRest_c hs).2 e2]
theorem nmC_inj {w v : List Nat} (hw : gRest w) (hv : gRest v) (h : nmC w = nmC v) : w = v := by
  have := nmR_inj _ _ (gRest_rev hw) (gRest_rev hv) h
  exact List.reverse_inj.mp this
theorem nmC_b {w : List Nat} (h : gName w) : 1 ≤ nmC w ∧ nmC w < 281474976710656 := by
  obtain ⟨h1, h2, h3⟩ := gName_r h
  constructor
  · refine Nat.pos_of_ne_zero fun q => ?_
    have := nmC_inj (v := []) h1 (fun x hx => by cases hx) q
    rw [this] at h2
    cases h2
  · have := nmR_lt _ (gRest_rev h1)
    rw [List.length_reverse] at this
    have : 64 ^ w.length ≤ 64 ^ 8 := Nat.pow_le_pow_right (by decide) h3
    unfold nmC
    omega
theorem anC_b {a : Anc} (h : gAnc a) : 128 ≤ anC a ∧ anC a < 36028797018963968 := by
  obtain ⟨h1, h2⟩ := h
  have := nmC_b h1
  unfold anC
  omega
theorem anO_b {a : Option Anc} (h : gAO a) : anO a < 36028797018963968 := by
  cases a with
  | none => exact (by decide : 0 < 36028797018963968)
  | some x => exact (anC_b (h x rfl)).2
theorem anC_inj {a b : Anc} (ha : gAnc a) (hb : gAnc b) (h : anC a = anC b) : a = b := by
  obtain ⟨w, k⟩ := a
  obtain ⟨v, j⟩ := b
  obtain ⟨a1, a2⟩ := ha
  obtain ⟨b1, b2⟩ := hb
  have h : nmC w * 128 + k = nmC v * 128 + j := h
  dsimp only at a2 b2
  have e1 : w = v := nmC_inj (gName_r a1).1 (gName_r b1).1 (by omega)
  have e2 : k = j := by omega
  rw [e1, e2]
theorem anO_inj {a b : Option Anc} (ha : gAO a) (hb : gAO b) : anO a = anO b ↔ a = b := by
  constructor
  · intro h
    cases a with
    | none =>
      cases b with
      | none => rfl
      | some y =>
        have := (anC_b (hb y rfl)).1
        have h : 0 = anC y := h
        omega
    | some x =>
      have := (anC_b (ha x rfl)).1
      cases b with
      | none =>
        have h : anC x = 0 := h
        omega
      | some y => rw [anC_inj (ha x rfl) (hb y rfl) h]
  · rintro rfl; rfl
theorem lO_inj {a b : Option Anc} (ha : gAO a) (hb : gAO b) : lN (anO a) = lN (anO b) ↔ a = b := by
  have h1 := anO_b ha
  have h2 := anO_b hb
  rw [fb_lN_inj (by omega) (by omega), anO_inj ha hb]
theorem lO_0 {a : Option Anc} (ha : gAO a) : lN (anO a) = lN 0 ↔ a = none := lO_inj ha (b := none) (fun x h => by cases h)
theorem nmR_div : ∀ (k : Nat) (r : List Nat), gRest r → nmR r / 64 ^ k = nmR (r.drop k) := by
  intro k
  induction k with
  | zero => intro r _; rw [Nat.pow_zero, Nat.div_one]; rfl
  | succ k ih =>
    intro r h
    cases r with
    | nil => show 0 / _ = 0; exact Nat.zero_div _
    | cons c r =>
      obtain ⟨h1, h2⟩ := gRest_c h
      have := sy_b h1
      show (nmR r * 64 + sy c) / 64 ^ (k + 1) = nmR (r.drop k)
      rw [Nat.pow_succ, Nat.mul_comm (64 ^ k) 64, ← Nat.div_div_eq_div_mul, ← ih r h2]
      congr 1
      omega
theorem pw6 (k : Nat) : (2 : Nat) ^ (6 * k) = 64 ^ k := by rw [Nat.pow_mul]
/-! the class's Anchors -/
theorem e_numbered (d : Nat) (σ : Hp) {w : List Nat} {k : Nat} (hw : gName w) (hk : k ≤ 99) : EL d 1 [vl (lN (nmC w)), vi (nI k)] σ (lN (anC (w, k))) σ := by
  refine EL_of mt_1 (Nat.le_of_ble_eq_true rfl) fun Q hq => ?_
  refine wp_ok (cut := []) ma_1 rfl 7 _ _ _ _ ?_
  show (Q (some (vl (((lN (nmC w)) <<< ((nI 7).toInt64 &&& 63)) ||| ((nI k).toInt64)))) σ ∧ σ.1 = σ.1)
  have := nmC_b hw
  rw [wb_shl _ (by omega), i2l_n (by omega), fb_orL, Nat.mul_comm (nmC w), ← Nat.two_pow_add_eq_or_of_lt (by omega), Nat.mul_comm (2 ^ 7)]
  exact ⟨hq, rfl⟩
theorem e_nameOf (d : Nat) (σ : Hp) {n : Nat} (hn : n < 36028797018963968) : EL d 2 [vl (lN n)] σ (lN (n / 128)) σ := by
  refine EL_of mt_2 (Nat.le_of_ble_eq_true rfl) fun Q hq => ?_
  refine wp_ok (cut := []) ma_2 rfl 4 _ _ _ _ ?_
  show (Q (some (vl (((lN n).toUInt64 >>> ((nI 7).toInt64.toUInt64 &&& Int64.toUInt64 63)).toInt64))) σ ∧ σ.1 = σ.1)
  rw [wb_shr (by omega) (by omega)]
  exact ⟨hq, rfl⟩
theorem s_name2 (d : Nat) (σ : Hp) (fr to : Int32) : ∀ (w v : List Nat) (a x : Nat), gRest (v ++ w) → (v ++ w).length ≤ 8 → Tx (hI σ 2 0) a w → a + w.length = x → x ≤ 160 → ∀ Q : Option AV → Hp → Prop, Q (some (vl (lN (nmC (v ++ w))))) σ → Sat true d 0 σ.1 Q 5 [some (vr 2 0), some (vi fr), some (vi (nI x)), some (vl (lN (nmC v))), none, some (vi (nI a)), none] [] σ := by
  intro w
  induction w with
  | nil =>
    intro v a x hg hl ht hx hN Q hq
    have : a = x := hx
    subst this
    rw [List.append_nil] at hq
    refine wp_ok (cut := [5]) ma_0 rfl 24 _ _ _ _ ?_
    show (((nI a) ≤ (nI a) → (Q (some (vl (lN (nmC v)))) σ ∧ σ.1 = σ.1)) ∧ (¬ (nI a) ≤ (nI a) → (vp_in (nI a) 160 ∧ (((hI σ 2 0 ((nI a).toNatClampNeg)) < (nI 97) → Sat true d 0 σ.1 Q 5 [some (vr 2 0), some (vi fr), some (vi (nI a)), some (vl (((lN (nmC v)) <<< ((nI 6).toInt64 &&& 63)) ||| ((((hI σ 2 0 ((nI a).toNatClampNeg)) - (nI 48)) + (nI 27)).toInt64))), none, some (vi ((nI a) + nI 1)), some (vi (hI σ 2 0 ((nI a).toNatClampNeg)))] [] σ) ∧ (¬ (hI σ 2 0 ((nI a).toNatClampNeg)) < (nI 97) → Sat true d 0 σ.1 Q 5 [some (vr 2 0), some (vi fr), some (vi (nI a)), some (vl (((lN (nmC v)) <<< ((nI 6).toInt64 &&& 63)) ||| ((((hI σ 2 0 ((nI a).toNatClampNeg)) - (nI 97)) + (nI 1)).toInt64))), none, some (vi ((nI a) + nI 1)), some (vi (hI σ 2 0 ((nI a).toNatClampNeg)))] [] σ)))))
    exact ⟨fun _ => ⟨hq, rfl⟩, fun h => absurd (Int32.le_refl _) h⟩
  | cons c w ih =>
    intro v a x hg hl ht hx hN Q hq
    obtain ⟨t1, t2⟩ := ht
    rw [List.length_cons] at hx
    have e : v ++ c :: w = (v ++ [c]) ++ w := by rw [List.append_assoc]; rfl
    rw [e] at hg hl hq
    have k := ih (v ++ [c]) (a + 1) x hg hl t2 (by omega) hN Q hq
    have hc : isLt c ∨ isDg c := hg c (by rw [List.append_assoc]; exact List.mem_append.mpr (Or.inr List.mem_cons_self))
    have hb := sy_b hc
    have hv := nmR_lt _ (gRest_rev (gRest_a (gRest_a hg).1).1)
    have hv2 : nmC v < 64 ^ 8 := by
      refine Nat.lt_of_lt_of_le hv (Nat.pow_le_pow_right (by decide) ?_)
      rw [List.length_reverse]
      rw [List.length_append, List.length_append] at hl
      omega
    have fin : lN (nmC v) <<< ((nI 6).toInt64 &&& 63) ||| (nI (sy c)).toInt64 = lN (nmC (v ++ [c])) := by
      rw [wb_shl _ (by omega), i2l_n (by omega), fb_orL, nmC_app, Nat.mul_comm (nmC v), ← Nat.two_pow_add_eq_or_of_lt (by omega), Nat.mul_comm (2 ^ 6)]
    refine wp_ok (cut := [5]) ma_0 rfl 24 _ _ _ _ ?_
    show (((nI x) ≤ (nI a) → (Q (some (vl (lN (nmC v)))) σ ∧ σ.1 = σ.1)) ∧ (¬ (nI x) ≤ (nI a) → (vp_in (nI a) 160 ∧ (((hI σ 2 0 ((nI a).toNatClampNeg)) < (nI 97) → Sat true d 0 σ.1 Q 5 [some (vr 2 0), some (vi fr), some (vi (nI x)), some (vl (((lN (nmC v)) <<< ((nI 6).toInt64 &&& 63)) ||| ((((hI σ 2 0 ((nI a).toNatClampNeg)) - (nI 48)) + (nI 27)).toInt64))), none, some (vi ((nI a) + nI 1)), some (vi (hI σ 2 0 ((nI a).toNatClampNeg)))] [] σ) ∧ (¬ (hI σ 2 0 ((nI a).toNatClampNeg)) < (nI 97) → Sat true d 0 σ.1 Q 5 [some (vr 2 0), some (vi fr), some (vi (nI x)), some (vl (((lN (nmC v)) <<< ((nI 6).toInt64 &&& 63)) ||| ((((hI σ 2 0 ((nI a).toNatClampNeg)) - (nI 97)) + (nI 1)).toInt64))), none, some (vi ((nI a) + nI 1)), some (vi (hI σ 2 0 ((nI a).toNatClampNeg)))] [] σ)))))
    refine br_le (by omega) (by omega) (fun h => by omega) (fun h => ?_)
    rw [ix (by omega), t1, addN]
    refine ⟨inb (by omega) (by omega), ?_⟩
    have c2 : c < 128 := ld_s hc
    refine br_lt (by omega) (by omega) (fun g => ?_) (fun g => ?_)
    · have e1 : nI c - nI 48 + nI 27 = nI (sy c) := by
        rcases hc with q | q
        · unfold isLt at q; omega
        · unfold isDg at q
          rw [subN (by omega), addN]
          unfold sy
          rw [if_neg (by omega)]
          congr 1
          omega
      rw [e1, fin]
      exact Sat_no 6 k
    · have e1 : nI c - nI 97 + nI 1 = nI (sy c) := by
        rw [subN (by omega), addN]
        unfold sy
        rw [if_pos (by omega)]
        congr 1
        omega
      rw [e1, fin]
      exact Sat_no 6 k
theorem e_nameIn2 (d : Nat) {σ : Hp} {w : List Nat} {a x : Nat} (hw : gName w) (ht : Tx (hI σ 2 0) a w) (hx : x = a + w.length) (hN : x ≤ 160) : EL d 0 [vr 2 0, vi (nI a), vi (nI x)] σ (lN (nmC w)) σ := by
  refine EL_of mt_0 (Nat.le_of_ble_eq_true rfl) fun Q hq => ?_
  obtain ⟨h1, h2, h3⟩ := gName_r hw
  refine wp_ok (cut := [5]) ma_0 rfl 4 _ _ _ _ ?_
  show Sat true d 0 σ.1 Q 5 [some (vr 2 0), some (vi (nI a)), some (vi (nI x)), some (vl (lN 0)), none, some (vi (nI a)), none] [] σ
  exact s_name2 d σ (nI a) (nI x) w [] a x h1 h3 ht hx.symm hN Q hq
/-- the first place of a sign: behind w, where it stands, or at the end -/
theorem s_index2 (d : Nat) (σ : Hp) (fr : Int32) {c : Nat} (hc : c < 128) : ∀ (w : List Nat) (a x : Nat), (∀ y ∈ w, y < 128 ∧ y ≠ c) → Tx (hI σ 2 0) a w → a + w.length ≤ x → (a + w.length < x → hI σ 2 0 (a + w.length) = nI c) → x ≤ 160 → ∀ Q : Option AV → Hp → Prop, Q (some (vi (nI (a + w.length)))) σ → Sat true d 4 σ.1 Q 3 [some (vr 2 0), some (vi fr), some (vi (nI x)), some (vi (nI c)), some (vi (nI a))] [] σ := by
  intro w
  induction w with
  | nil =>
    intro a x hy ht hx he hN Q hq
    have hx : a ≤ x := hx
    have he : a < x → hI σ 2 0 a = nI c := he
    refine wp_ok (cut := [3]) ma_4 rfl 10 _ _ _ _ ?_
    show (((nI x) ≤ (nI a) → (Q (some (vi (nI a))) σ ∧ σ.1 = σ.1)) ∧ (¬ (nI x) ≤ (nI a) → (vp_in (nI a) 160 ∧ (((hI σ 2 0 ((nI a).toNatClampNeg)) = (nI c) → (Q (some (vi (nI a))) σ ∧ σ.1 = σ.1)) ∧ (¬ (hI σ 2 0 ((nI a).toNatClampNeg)) = (nI c) → Sat true d 4 σ.1 Q 3 [some (vr 2 0), some (vi fr), some (vi (nI x)), some (vi (nI c)), some (vi ((nI a) + nI 1))] [] σ)))))
    refine br_le (by omega) (by omega) (fun h => ⟨hq, rfl⟩) (fun h => ?_)
    rw [ix (by omega), he h]
    exact ⟨inb (by omega) (by omega), fun _ => ⟨hq, rfl⟩, fun h => absurd rfl h⟩
  | cons y w ih =>
    intro a x hy ht hx he hN Q hq
    obtain ⟨t1, t2⟩ := ht
    have el : a + (y :: w).length = a + 1 + w.length := by rw [List.length_cons]; omega
    rw [el] at hx he hq
    have k := ih (a + 1) x (fun z hz => hy z (List.mem_cons_of_mem _ hz)) t2 hx he hN Q hq
    obtain ⟨y1, y2⟩ := hy y List.mem_cons_self
    refine wp_ok (cut := [3]) ma_4 rfl 10 _ _ _ _ ?_
    show (((nI x) ≤ (nI a) → (Q (some (vi (nI a))) σ ∧ σ.1 = σ.1)) ∧ (¬ (nI x) ≤ (nI a) → (vp_in (nI a) 160 ∧ (((hI σ 2 0 ((nI a).toNatClampNeg)) = (nI c) → (Q (some (vi (nI a))) σ ∧ σ.1 = σ.1)) ∧ (¬ (hI σ 2 0 ((nI a).toNatClampNeg)) = (nI c) → Sat true d 4 σ.1 Q 3 [some (vr 2 0), some (vi fr), some (vi (nI x)), some (vi (nI c)), some (vi ((nI a) + nI 1))] [] σ)))))
    refine br_le (by omega) (by omega) (fun h => by omega) (fun h => ?_)
    rw [ix (by omega), t1, addN]
    exact ⟨inb (by omega) (by omega), br_eq (by omega) (by omega) (fun q => absurd q y2) (fun _ => k)⟩
theorem e_indexOf2 (d : Nat) {σ : Hp} {c : Nat} (hc : c < 128) {w : List Nat} {a x : Nat} (hy : ∀ y ∈ w, y < 128 ∧ y ≠ c) (ht : Tx (hI σ 2 0) a w) (hx : a + w.length ≤ x) (he : a + w.length < x → hI σ 2 0 (a + w.length) = nI c) (hN : x ≤ 160) : EI d 4 [vr 2 0, vi (nI a), vi (nI x), vi (nI c)] σ (nI (a + w.length)) σ := by
  refine EI_of mt_4 (Nat.le_of_ble_eq_true rfl) fun Q hq => ?_
  refine wp_ok (cut := [3]) ma_4 rfl 2 _ _ _ _ ?_
  show Sat true d 4 σ.1 Q 3 [some (vr 2 0), some (vi (nI a)), some (vi (nI x)), some (vi (nI c)), some (vi (nI a))] [] σ
  exact s_index2 d σ (nI a) hc w a x hy ht hx he hN Q hq
theorem s_name9 (d : Nat) (σ : Hp) (fr to : Int32) : ∀ (w v : List Nat) (a x : Nat), gRest (v ++ w) → (v ++ w).length ≤ 8 → Tx (hI σ 9 0) a w → a + w.length = x → x ≤ 1920 → ∀ Q : Option AV → Hp → Prop, Q (some (vl (lN (nmC (v ++ w))))) σ → Sat true d 0 σ.1 Q 5 [some (vr 9 0), some (vi fr), some (vi (nI x)), some (vl (lN (nmC v))), none, some (vi (nI a)), none] [] σ := by
  intro w
  induction w with
  | nil =>
    intro v a x hg hl ht hx hN Q hq
    have : a = x := hx
    subst this
    rw [List.append_nil] at hq
    refine wp_ok (cut := [5]) ma_0 rfl 24 _ _ _ _ ?_
    show (((nI a) ≤ (nI a) → (Q (some (vl (lN (nmC v)))) σ ∧ σ.1 = σ.1)) ∧ (¬ (nI a) ≤ (nI a) → (vp_in (nI a) 1920 ∧ (((hI σ 9 0 ((nI a).toNatClampNeg)) < (nI 97) → Sat true d 0 σ.1 Q 5 [some (vr 9 0), some (vi fr), some (vi (nI a)), some (vl (((lN (nmC v)) <<< ((nI 6).toInt64 &&& 63)) ||| ((((hI σ 9 0 ((nI a).toNatClampNeg)) - (nI 48)) + (nI 27)).toInt64))), none, some (vi ((nI a) + nI 1)), some (vi (hI σ 9 0 ((nI a).toNatClampNeg)))] [] σ) ∧ (¬ (hI σ 9 0 ((nI a).toNatClampNeg)) < (nI 97) → Sat true d 0 σ.1 Q 5 [some (vr 9 0), some (vi fr), some (vi (nI a)), some (vl (((lN (nmC v)) <<< ((nI 6).toInt64 &&& 63)) ||| ((((hI σ 9 0 ((nI a).toNatClampNeg)) - (nI 97)) + (nI 1)).toInt64))), none, some (vi ((nI a) + nI 1)), some (vi (hI σ 9 0 ((nI a).toNatClampNeg)))] [] σ)))))
    exact ⟨fun _ => ⟨hq, rfl⟩, fun h => absurd (Int32.le_refl _) h⟩
  | cons c w ih =>
    intro v a x hg hl ht hx hN Q hq
    obtain ⟨t1, t2⟩ := ht
    rw [List.length_cons] at hx
    have e : v ++ c :: w = (v ++ [c]) ++ w := by rw [List.append_assoc]; rfl
    rw [e] at hg hl hq
    have k := ih (v ++ [c]) (a + 1) x hg hl t2 (by omega) hN Q hq
    have hc : isLt c ∨ isDg c := hg c (by rw [List.append_assoc]; exact List.mem_append.mpr (Or.inr List.mem_cons_self))
    have hb := sy_b hc
    have hv := nmR_lt _ (gRest_rev (gRest_a (gRest_a hg).1).1)
    have hv2 : nmC v < 64 ^ 8 := by
      refine Nat.lt_of_lt_of_le hv (Nat.pow_le_pow_right (by decide) ?_)
      rw [List.length_reverse]
      rw [List.length_append, List.length_append] at hl
      omega
    have fin : lN (nmC v) <<< ((nI 6).toInt64 &&& 63) ||| (nI (sy c)).toInt64 = lN (nmC (v ++ [c])) := by
      rw [wb_shl _ (by omega), i2l_n (by omega), fb_orL, nmC_app, Nat.mul_comm (nmC v), ← Nat.two_pow_add_eq_or_of_lt (by omega), Nat.mul_comm (2 ^ 6)]
    refine wp_ok (cut := [5]) ma_0 rfl 24 _ _ _ _ ?_
    show (((nI x) ≤ (nI a) → (Q (some (vl (lN (nmC v)))) σ ∧ σ.1 = σ.1)) ∧ (¬ (nI x) ≤ (nI a) → (vp_in (nI a) 1920 ∧ (((hI σ 9 0 ((nI a).toNatClampNeg)) < (nI 97) → Sat true d 0 σ.1 Q 5 [some (vr 9 0), some (vi fr), some (vi (nI x)), some (vl (((lN (nmC v)) <<< ((nI 6).toInt64 &&& 63)) ||| ((((hI σ 9 0 ((nI a).toNatClampNeg)) - (nI 48)) + (nI 27)).toInt64))), none, some (vi ((nI a) + nI 1)), some (vi (hI σ 9 0 ((nI a).toNatClampNeg)))] [] σ) ∧ (¬ (hI σ 9 0 ((nI a).toNatClampNeg)) < (nI 97) → Sat true d 0 σ.1 Q 5 [some (vr 9 0), some (vi fr), some (vi (nI x)), some (vl (((lN (nmC v)) <<< ((nI 6).toInt64 &&& 63)) ||| ((((hI σ 9 0 ((nI a).toNatClampNeg)) - (nI 97)) + (nI 1)).toInt64))), none, some (vi ((nI a) + nI 1)), some (vi (hI σ 9 0 ((nI a).toNatClampNeg)))] [] σ)))))
    refine br_le (by omega) (by omega) (fun h => by omega) (fun h => ?_)
    rw [ix (by omega), t1, addN]
    refine ⟨inb (by omega) (by omega), ?_⟩
    have c2 : c < 128 := ld_s hc
    refine br_lt (by omega) (by omega) (fun g => ?_) (fun g => ?_)
    · have e1 : nI c - nI 48 + nI 27 = nI (sy c) := by
        rcases hc with q | q
        · unfold isLt at q; omega
        · unfold isDg at q
          rw [subN (by omega), addN]
          unfold sy
          rw [if_neg (by omega)]
          congr 1
          omega
      rw [e1, fin]
      exact Sat_no 6 k
    · have e1 : nI c - nI 97 + nI 1 = nI (sy c) := by
        rw [subN (by omega), addN]
        unfold sy
        rw [if_pos (by omega)]
        congr 1
        omega
      rw [e1, fin]
      exact Sat_no 6 k
theorem e_nameIn9 (d : Nat) {σ : Hp} {w : List Nat} {a x : Nat} (hw : gName w) (ht : Tx (hI σ 9 0) a w) (hx : x = a + w.length) (hN : x ≤ 1920) : EL d 0 [vr 9 0, vi (nI a), vi (nI x)] σ (lN (nmC w)) σ := by
  refine EL_of mt_0 (Nat.le_of_ble_eq_true rfl) fun Q hq => ?_
  obtain ⟨h1, h2, h3⟩ := gName_r hw
  refine wp_ok (cut := [5]) ma_0 rfl 4 _ _ _ _ ?_
  show Sat true d 0 σ.1 Q 5 [some (vr 9 0), some (vi (nI a)), some (vi (nI x)), some (vl (lN 0)), none, some (vi (nI a)), none] [] σ
  exact s_name9 d σ (nI a) (nI x) w [] a x h1 h3 ht hx.symm hN Q hq
/-- the first place of a sign: behind w, where it stands, or at the end -/
theorem s_index9 (d : Nat) (σ : Hp) (fr : Int32) {c : Nat} (hc : c < 128) : ∀ (w : List Nat) (a x : Nat), (∀ y ∈ w, y < 128 ∧ y ≠ c) → Tx (hI σ 9 0) a w → a + w.length ≤ x → (a + w.length < x → hI σ 9 0 (a + w.length) = nI c) → x ≤ 1920 → ∀ Q : Option AV → Hp → Prop, Q (some (vi (nI (a + w.length)))) σ → Sat true d 4 σ.1 Q 3 [some (vr 9 0), some (vi fr), some (vi (nI x)), some (vi (nI c)), some (vi (nI a))] [] σ := by
  intro w
  induction w with
  | nil =>
    intro a x hy ht hx he hN Q hq
    have hx : a ≤ x := hx
    have he : a < x → hI σ 9 0 a = nI c := he
    refine wp_ok (cut := [3]) ma_4 rfl 10 _ _ _ _ ?_
    show (((nI x) ≤ (nI a) → (Q (some (vi (nI a))) σ ∧ σ.1 = σ.1)) ∧ (¬ (nI x) ≤ (nI a) → (vp_in (nI a) 1920 ∧ (((hI σ 9 0 ((nI a).toNatClampNeg)) = (nI c) → (Q (some (vi (nI a))) σ ∧ σ.1 = σ.1)) ∧ (¬ (hI σ 9 0 ((nI a).toNatClampNeg)) = (nI c) → Sat true d 4 σ.1 Q 3 [some (vr 9 0), some (vi fr), some (vi (nI x)), some (vi (nI c)), some (vi ((nI a) + nI 1))] [] σ)))))
    refine br_le (by omega) (by omega) (fun h => ⟨hq, rfl⟩) (fun h => ?_)
    rw [ix (by omega), he h]
    exact ⟨inb (by omega) (by omega), fun _ => ⟨hq, rfl⟩, fun h => absurd rfl h⟩
  | cons y w ih =>
    intro a x hy ht hx he hN Q hq
    obtain ⟨t1, t2⟩ := ht
    have el : a + (y :: w).length = a + 1 + w.length := by rw [List.length_cons]; omega
    rw [el] at hx he hq
    have k := ih (a + 1) x (fun z hz => hy z (List.mem_cons_of_mem _ hz)) t2 hx he hN Q hq
    obtain ⟨y1, y2⟩ := hy y List.mem_cons_self
    refine wp_ok (cut := [3]) ma_4 rfl 10 _ _ _ _ ?_
    show (((nI x) ≤ (nI a) → (Q (some (vi (nI a))) σ ∧ σ.1 = σ.1)) ∧ (¬ (nI x) ≤ (nI a) → (vp_in (nI a) 1920 ∧ (((hI σ 9 0 ((nI a).toNatClampNeg)) = (nI c) → (Q (some (vi (nI a))) σ ∧ σ.1 = σ.1)) ∧ (¬ (hI σ 9 0 ((nI a).toNatClampNeg)) = (nI c) → Sat true d 4 σ.1 Q 3 [some (vr 9 0), some (vi fr), some (vi (nI x)), some (vi (nI c)), some (vi ((nI a) + nI 1))] [] σ)))))
    refine br_le (by omega) (by omega) (fun h => by omega) (fun h => ?_)
    rw [ix (by omega), t1, addN]
    exact ⟨inb (by omega) (by omega), br_eq (by omega) (by omega) (fun q => absurd q y2) (fun _ => k)⟩
theorem e_indexOf9 (d : Nat) {σ : Hp} {c : Nat} (hc : c < 128) {w : List Nat} {a x : Nat} (hy : ∀ y ∈ w, y < 128 ∧ y ≠ c) (ht : Tx (hI σ 9 0) a w) (hx : a + w.length ≤ x) (he : a + w.length < x → hI σ 9 0 (a + w.length) = nI c) (hN : x ≤ 1920) : EI d 4 [vr 9 0, vi (nI a), vi (nI x), vi (nI c)] σ (nI (a + w.length)) σ := by
  refine EI_of mt_4 (Nat.le_of_ble_eq_true rfl) fun Q hq => ?_
  refine wp_ok (cut := [3]) ma_4 rfl 2 _ _ _ _ ?_
  show Sat true d 4 σ.1 Q 3 [some (vr 9 0), some (vi (nI a)), some (vi (nI x)), some (vi (nI c)), some (vi (nI a))] [] σ
  exact s_index9 d σ (nI a) hc w a x hy ht hx he hN Q hq
end
section
/-! the class's Anchors: places and spelling -/
theorem sm_rest {w : List Nat} (h : gRest w) : ∀ y ∈ w, y < 128 ∧ y ≠ 35 ∧ y ≠ 45 ∧ y ≠ 59 ∧ y ≠ 91 ∧ y ≠ 93 ∧ y ≠ 61 ∧ y ≠ 123 ∧ y ≠ 62 := fun y hy => by
  rcases h y hy with ⟨h1, h2⟩ | ⟨h1, h2⟩ <;> omega
/-- the digits behind the dash, read -/
def dgV : List Nat → Nat → Nat
  | [], k => k
  | c :: r, k => dgV r (k * 10 + (c - 48))
theorem txNum_dg {k : Nat} (h : k ≤ 99) : (k = 0 ∧ txNum k = []) ∨ (∃ r, txNum k = 45 :: r ∧ dgV r 0 = k ∧ r.length ≤ 2 ∧ r ≠ [] ∧ ∀ c ∈ r, isDg c) := by
  unfold txNum
  by_cases h0 : k = 0
  · exact Or.inl ⟨h0, if_pos h0⟩
  · refine Or.inr ?_
    rw [if_neg h0]
    by_cases h1 : k < 10
    · rw [if_pos h1]
      refine ⟨[48 + k], rfl, ?_, Nat.le_of_ble_eq_true rfl, fun q => (by cases q), fun c hc => ?_⟩
      · show 0 * 10 + (48 + k - 48) = k; omega
      · rw [List.mem_singleton.mp hc]; unfold isDg; omega
    · rw [if_neg h1]
      refine ⟨[48 + k / 10, 48 + k % 10], rfl, ?_, Nat.le_of_ble_eq_true rfl, fun q => (by cases q), fun c hc => ?_⟩
      · show (0 * 10 + (48 + k / 10 - 48)) * 10 + (48 + k % 10 - 48) = k; omega
      · rcases List.mem_cons.mp hc with q | q
        · rw [q]; unfold isDg; omega
        · rw [List.mem_singleton.mp q]; unfold isDg; omega
theorem txAnc_len {a : Anc} (h : gAnc a) : (txAnc a).length ≤ 11 ∧ 1 ≤ (txAnc a).length := by
  have h1 := gName_r h.1
  unfold txAnc
  rw [List.length_append]
  rcases txNum_dg h.2 with ⟨_, e⟩ | ⟨r, e, _, l, _⟩
  · rw [e, List.length_nil]; omega
  · rw [e, List.length_cons]; omega
theorem txNum_s {k : Nat} (h : k ≤ 99) : ∀ y ∈ txNum k, y = 45 ∨ isDg y := by
  rcases txNum_dg h with ⟨_, e⟩ | ⟨r, e, _, _, _, g⟩
  · rw [e]; intro y hy; cases hy
  · rw [e]; intro y hy
    rcases List.mem_cons.mp hy with q | q
    · exact Or.inl q
    · exact Or.inr (g y q)
theorem txAnc_s {a : Anc} (h : gAnc a) : ∀ y ∈ txAnc a, 45 ≤ y ∧ y < 128 ∧ y ≠ 59 ∧ y ≠ 91 ∧ y ≠ 93 ∧ y ≠ 61 ∧ y ≠ 123 ∧ y ≠ 62 := fun y hy => by
  rcases List.mem_append.mp hy with q | q
  · have := (gName_r h.1).1 y q
    rcases this with ⟨h1, h2⟩ | ⟨h1, h2⟩ <;> omega
  · rcases txNum_s h.2 y q with e | ⟨h1, h2⟩
    · omega
    · omega
theorem s_digits2 (d : Nat) (σ : Hp) (fr : Int32) {w : List Nat} {g x : Nat} (hw : gName w) (ht : Tx (hI σ 2 0) (g + 1) w) {dd : Nat} (hd : dd = g + 1 + w.length) (hdN : dd ≤ 160) {kk : Nat} (hkk : kk ≤ 99) : ∀ (r : List Nat) (a k : Nat), (∀ c ∈ r, isDg c) → dgV r k = kk → (∀ j, j ≤ r.length → k ≤ 99) → Tx (hI σ 2 0) a r → a + r.length = x → x ≤ 160 → ∀ Q : Option AV → Hp → Prop, Q (some (vl (lN (anC (w, kk))))) σ → Sat true (d + 1) 3 σ.1 Q 35 [some (vr 2 0), some (vi fr), some (vi (nI x)), some (vi (nI g)), some (vi (nI dd)), some (vi (nI k)), some (vi (nI a))] [] σ := by
  intro r
  induction r with
  | nil =>
    intro a k hc hk hb ht2 hx hN Q hq
    have hx : a = x := hx
    have hk : k = kk := hk
    subst hk
    subst hx
    refine wp_ok (cut := [35]) ma_3 rfl 15 _ _ _ _ ?_
    show (((nI a) ≤ (nI a) → CalL true d 0 [vr 2 0, vi ((nI g) + (nI 1)), vi (nI dd)] σ σ.1 (fun x2 s1 => CalL true d 1 [vl x2, vi (nI k)] s1 σ.1 (fun x4 s3 => (Q (some (vl x4)) s3 ∧ s3.1 = σ.1)))) ∧ (¬ (nI a) ≤ (nI a) → (vp_in (nI a) 160 ∧ Sat true (d + 1) 3 σ.1 Q 35 [some (vr 2 0), some (vi fr), some (vi (nI a)), some (vi (nI g)), some (vi (nI dd)), some (vi (((nI k) * (nI 10)) + ((hI σ 2 0 ((nI a).toNatClampNeg)) - (nI 48)))), some (vi ((nI a) + nI 1))] [] σ)))
    refine br_le (by omega) (by omega) (fun _ => ?_) (fun h => by omega)
    rw [addN]
    exact cal_l (e_nameIn2 d hw ht hd hdN) rfl (cal_l (e_numbered d σ hw hkk) rfl ⟨hq, rfl⟩)
  | cons c r ih =>
    intro a k hc hk hb ht2 hx hN Q hq
    obtain ⟨t1, t2⟩ := ht2
    rw [List.length_cons] at hx
    have hcd : isDg c := hc c List.mem_cons_self
    obtain ⟨c1, c2⟩ := hcd
    have k99 := hb 0 (Nat.zero_le _)
    have mono : ∀ (r : List Nat) (k : Nat), k ≤ dgV r k := by
      intro r
      induction r with
      | nil => intro k; exact Nat.le_refl _
      | cons c r ih => intro k; exact Nat.le_trans (by omega) (ih (k * 10 + (c - 48)))
    have := mono r (k * 10 + (c - 48))
    have hk' : dgV r (k * 10 + (c - 48)) = kk := hk
    have kq := ih (a + 1) (k * 10 + (c - 48)) (fun y hy => hc y (List.mem_cons_of_mem _ hy)) hk (fun _ _ => by omega) t2 (by omega) hN Q hq
    refine wp_ok (cut := [35]) ma_3 rfl 15 _ _ _ _ ?_
    show (((nI x) ≤ (nI a) → CalL true d 0 [vr 2 0, vi ((nI g) + (nI 1)), vi (nI dd)] σ σ.1 (fun x2 s1 => CalL true d 1 [vl x2, vi (nI k)] s1 σ.1 (fun x4 s3 => (Q (some (vl x4)) s3 ∧ s3.1 = σ.1)))) ∧ (¬ (nI x) ≤ (nI a) → (vp_in (nI a) 160 ∧ Sat true (d + 1) 3 σ.1 Q 35 [some (vr 2 0), some (vi fr), some (vi (nI x)), some (vi (nI g)), some (vi (nI dd)), some (vi (((nI k) * (nI 10)) + ((hI σ 2 0 ((nI a).toNatClampNeg)) - (nI 48)))), some (vi ((nI a) + nI 1))] [] σ)))
    refine br_le (by omega) (by omega) (fun h => by omega) (fun _ => ?_)
    rw [ix (by omega), t1, addN, subN (by omega), mulN, addN]
    exact ⟨inb (by omega) (by omega), kq⟩
/-- the anchor of a place: a letter or none, then # and the anchor, or nothing -/
theorem e_placeAnchor2 (d : Nat) {σ : Hp} {l : Option Nat} {o : Option Anc} (hl : ∀ p, l = some p → p < 12) (ho : gAO o) {a x : Nat} (ht : Tx (hI σ 2 0) a (txLink l o)) (hx : x = a + (txLink l o).length) (hN : x ≤ 160) : EL (d + 2) 3 [vr 2 0, vi (nI a), vi (nI x)] σ (lN (anO o)) σ := by
  refine EL_of mt_3 (Nat.le_of_ble_eq_true rfl) fun Q hq => ?_
  have hlet : ∀ y ∈ txLet l, y < 128 ∧ y ≠ 35 := by
    intro y hy
    cases l with
    | none => cases hy
    | some p =>
      have := hl p rfl
      rw [List.mem_singleton.mp hy]
      omega
  have hll : (txLet l).length ≤ 1 := by cases l <;> exact Nat.le_of_ble_eq_true rfl
  unfold txLink at ht hx
  obtain ⟨ht1, ht2⟩ := Tx_app.mp ht
  rw [List.length_append] at hx
  cases o with
  | none =>
    have hx : x = a + (txLet l).length := hx
    refine wp_ok (cut := [35]) ma_3 rfl 21 _ _ _ _ ?_
    show CalI true (d + 1) 4 [vr 2 0, vi (nI a), vi (nI x), vi (nI 35)] σ σ.1 (fun x2 s1 => ((x2 < (nI x) → CalI true (d + 1) 4 [vr 2 0, vi x2, vi (nI x), vi (nI 45)] s1 σ.1 (fun x4 s3 => Sat true (d + 2) 3 σ.1 Q 35 [some (vr 2 0), some (vi (nI a)), some (vi (nI x)), some (vi x2), some (vi x4), some (vi (nI 0)), some (vi (x4 + (nI 1)))] [] s3)) ∧ (¬ x2 < (nI x) → (Q (some (vl (lN 0))) s1 ∧ s1.1 = σ.1))))
    refine cal_i (e_indexOf2 (d + 1) (by decide) hlet ht1 (by omega) (fun h => by omega) hN) rfl ?_
    exact br_lt (by omega) (by omega) (fun h => by omega) (fun _ => ⟨hq, rfl⟩)
  | some z =>
    obtain ⟨w, kk⟩ := z
    obtain ⟨g1, g2⟩ := ho _ rfl
    dsimp only at g1 g2
    obtain ⟨ht3, ht4⟩ := ht2
    have ht4 : Tx (hI σ 2 0) (a + (txLet l).length + 1) (w ++ txNum kk) := ht4
    obtain ⟨ht5, ht6⟩ := Tx_app.mp ht4
    have hx : x = a + ((txLet l).length + (35 :: (w ++ txNum kk)).length) := hx
    rw [List.length_cons, List.length_append] at hx
    obtain ⟨n1, n2, n3⟩ := gName_r g1
    generalize hg : a + (txLet l).length = g at *
    have hnum : (txNum kk).length ≤ 3 := by
      rcases txNum_dg g2 with ⟨_, e⟩ | ⟨r, e, _, l, _⟩
      · rw [e]; decide
      · rw [e, List.length_cons]; omega
    have hlen : (35 :: w).length = w.length + 1 := rfl
    have T35 : Tx (hI σ 2 0) g (35 :: w) := ⟨ht3, ht5⟩
    have hdash : g + (35 :: w).length < x → hI σ 2 0 (g + (35 :: w).length) = nI 45 := by
      intro h
      rcases txNum_dg g2 with ⟨_, e⟩ | ⟨r, e, _, l, _⟩
      · rw [e, List.length_nil] at hx; omega
      · rw [e] at ht6
        rw [hlen, ← Nat.add_assoc, Nat.add_right_comm]
        exact ht6.1
    refine wp_ok (cut := [35]) ma_3 rfl 21 _ _ _ _ ?_
    show CalI true (d + 1) 4 [vr 2 0, vi (nI a), vi (nI x), vi (nI 35)] σ σ.1 (fun x2 s1 => ((x2 < (nI x) → CalI true (d + 1) 4 [vr 2 0, vi x2, vi (nI x), vi (nI 45)] s1 σ.1 (fun x4 s3 => Sat true (d + 2) 3 σ.1 Q 35 [some (vr 2 0), some (vi (nI a)), some (vi (nI x)), some (vi x2), some (vi x4), some (vi (nI 0)), some (vi (x4 + (nI 1)))] [] s3)) ∧ (¬ x2 < (nI x) → (Q (some (vl (lN 0))) s1 ∧ s1.1 = σ.1))))
    have c1 := e_indexOf2 (d + 1) (σ := σ) (c := 35) (by decide) hlet ht1 (x := x) (by omega) (fun _ => by rw [hg]; exact ht3) hN
    rw [hg] at c1
    refine cal_i c1 rfl ?_
    refine br_lt (by omega) (by omega) (fun h => ?_) (fun h => by omega)
    refine cal_i (e_indexOf2 (d + 1) (c := 45) (by decide) (w := 35 :: w) (fun y hy => ?_) T35 (by omega) hdash hN) rfl ?_
    · rcases List.mem_cons.mp hy with q | q
      · rw [q]; decide
      · have := sm_rest n1 y q
        exact ⟨this.1, this.2.2.1⟩
    · rw [addN]
      rcases txNum_dg g2 with ⟨e0, e⟩ | ⟨r, e, ev, lr, _, hr⟩
      · rw [e, List.length_nil] at hx
        have : Sat true (d + 1 + 1) 3 σ.1 Q 35 [some (vr 2 0), some (vi (nI a)), some (vi (nI x)), some (vi (nI g)), some (vi (nI (g + (35 :: w).length))), some (vi (nI 0)), some (vi (nI (g + (35 :: w).length + 1)))] [] σ := by
          refine wp_ok (cut := [35]) ma_3 rfl 15 _ _ _ _ ?_
          show (((nI x) ≤ (nI (g + (35 :: w).length + 1)) → CalL true (d + 1) 0 [vr 2 0, vi ((nI g) + (nI 1)), vi (nI (g + (35 :: w).length))] σ σ.1 (fun x2 s1 => CalL true (d + 1) 1 [vl x2, vi (nI 0)] s1 σ.1 (fun x4 s3 => (Q (some (vl x4)) s3 ∧ s3.1 = σ.1)))) ∧ (¬ (nI x) ≤ (nI (g + (35 :: w).length + 1)) → (vp_in (nI (g + (35 :: w).length + 1)) 160 ∧ Sat true (d + 2) 3 σ.1 Q 35 [some (vr 2 0), some (vi (nI a)), some (vi (nI x)), some (vi (nI g)), some (vi (nI (g + (35 :: w).length))), some (vi (((nI 0) * (nI 10)) + ((hI σ 2 0 ((nI (g + (35 :: w).length + 1)).toNatClampNeg)) - (nI 48)))), some (vi ((nI (g + (35 :: w).length + 1)) + nI 1))] [] σ)))
          refine br_le (by omega) (by omega) (fun _ => ?_) (fun h => by omega)
          rw [addN]
          refine cal_l (e_nameIn2 (d + 1) g1 ht5 (by omega) (by omega)) rfl (cal_l (e_numbered (d + 1) σ g1 (Nat.zero_le _)) rfl ⟨?_, rfl⟩)
          rw [e0] at hq
          exact hq
        exact this
      · rw [e, List.length_cons] at hx
        rw [e] at ht6
        refine s_digits2 (d + 1) σ (nI a) g1 ht5 (by omega) (by omega) g2 r (g + (35 :: w).length + 1) 0 hr ev (fun _ _ => by omega) ?_ (by omega) hN Q hq
        have := ht6.2
        rw [show g + (35 :: w).length + 1 = g + 1 + w.length + 1 by omega]
        exact this
theorem s_digits9 (d : Nat) (σ : Hp) (fr : Int32) {w : List Nat} {g x : Nat} (hw : gName w) (ht : Tx (hI σ 9 0) (g + 1) w) {dd : Nat} (hd : dd = g + 1 + w.length) (hdN : dd ≤ 1920) {kk : Nat} (hkk : kk ≤ 99) : ∀ (r : List Nat) (a k : Nat), (∀ c ∈ r, isDg c) → dgV r k = kk → (∀ j, j ≤ r.length → k ≤ 99) → Tx (hI σ 9 0) a r → a + r.length = x → x ≤ 1920 → ∀ Q : Option AV → Hp → Prop, Q (some (vl (lN (anC (w, kk))))) σ → Sat true (d + 1) 3 σ.1 Q 35 [some (vr 9 0), some (vi fr), some (vi (nI x)), some (vi (nI g)), some (vi (nI dd)), some (vi (nI k)), some (vi (nI a))] [] σ := by
  intro r
  induction r with
  | nil =>
    intro a k hc hk hb ht2 hx hN Q hq
    have hx : a = x := hx
    have hk : k = kk := hk
    subst hk
    subst hx
    refine wp_ok (cut := [35]) ma_3 rfl 15 _ _ _ _ ?_
    show (((nI a) ≤ (nI a) → CalL true d 0 [vr 9 0, vi ((nI g) + (nI 1)), vi (nI dd)] σ σ.1 (fun x2 s1 => CalL true d 1 [vl x2, vi (nI k)] s1 σ.1 (fun x4 s3 => (Q (some (vl x4)) s3 ∧ s3.1 = σ.1)))) ∧ (¬ (nI a) ≤ (nI a) → (vp_in (nI a) 1920 ∧ Sat true (d + 1) 3 σ.1 Q 35 [some (vr 9 0), some (vi fr), some (vi (nI a)), some (vi (nI g)), some (vi (nI dd)), some (vi (((nI k) * (nI 10)) + ((hI σ 9 0 ((nI a).toNatClampNeg)) - (nI 48)))), some (vi ((nI a) + nI 1))] [] σ)))
    refine br_le (by omega) (by omega) (fun _ => ?_) (fun h => by omega)
    rw [addN]
    exact cal_l (e_nameIn9 d hw ht hd hdN) rfl (cal_l (e_numbered d σ hw hkk) rfl ⟨hq, rfl⟩)
  | cons c r ih =>
    intro a k hc hk hb ht2 hx hN Q hq
    obtain ⟨t1, t2⟩ := ht2
    rw [List.length_cons] at hx
    have hcd : isDg c := hc c List.mem_cons_self
    obtain ⟨c1, c2⟩ := hcd
    have k99 := hb 0 (Nat.zero_le _)
    have mono : ∀ (r : List Nat) (k : Nat), k ≤ dgV r k := by
      intro r
      induction r with
      | nil => intro k; exact Nat.le_refl _
      | cons c r ih => intro k; exact Nat.le_trans (by omega) (ih (k * 10 + (c - 48)))
    have := mono r (k * 10 + (c - 48))
    have hk' : dgV r (k * 10 + (c - 48)) = kk := hk
    have kq := ih (a + 1) (k * 10 + (c - 48)) (fun y hy => hc y (List.mem_cons_of_mem _ hy)) hk (fun _ _ => by omega) t2 (by omega) hN Q hq
    refine wp_ok (cut := [35]) ma_3 rfl 15 _ _ _ _ ?_
    show (((nI x) ≤ (nI a) → CalL true d 0 [vr 9 0, vi ((nI g) + (nI 1)), vi (nI dd)] σ σ.1 (fun x2 s1 => CalL true d 1 [vl x2, vi (nI k)] s1 σ.1 (fun x4 s3 => (Q (some (vl x4)) s3 ∧ s3.1 = σ.1)))) ∧ (¬ (nI x) ≤ (nI a) → (vp_in (nI a) 1920 ∧ Sat true (d + 1) 3 σ.1 Q 35 [some (vr 9 0), some (vi fr), some (vi (nI x)), some (vi (nI g)), some (vi (nI dd)), some (vi (((nI k) * (nI 10)) + ((hI σ 9 0 ((nI a).toNatClampNeg)) - (nI 48)))), some (vi ((nI a) + nI 1))] [] σ)))
    refine br_le (by omega) (by omega) (fun h => by omega) (fun _ => ?_)
    rw [ix (by omega), t1, addN, subN (by omega), mulN, addN]
    exact ⟨inb (by omega) (by omega), kq⟩
/-- the anchor of a place: a letter or none, then # and the anchor, or nothing -/
theorem e_placeAnchor9 (d : Nat) {σ : Hp} {l : Option Nat} {o : Option Anc} (hl : ∀ p, l = some p → p < 12) (ho : gAO o) {a x : Nat} (ht : Tx (hI σ 9 0) a (txLink l o)) (hx : x = a + (txLink l o).length) (hN : x ≤ 1920) : EL (d + 2) 3 [vr 9 0, vi (nI a), vi (nI x)] σ (lN (anO o)) σ := by
  refine EL_of mt_3 (Nat.le_of_ble_eq_true rfl) fun Q hq => ?_
  have hlet : ∀ y ∈ txLet l, y < 128 ∧ y ≠ 35 := by
    intro y hy
    cases l with
    | none => cases hy
    | some p =>
      have := hl p rfl
      rw [List.mem_singleton.mp hy]
      omega
  have hll : (txLet l).length ≤ 1 := by cases l <;> exact Nat.le_of_ble_eq_true rfl
  unfold txLink at ht hx
  obtain ⟨ht1, ht2⟩ := Tx_app.mp ht
  rw [List.length_append] at hx
  cases o with
  | none =>
    have hx : x = a + (txLet l).length := hx
    refine wp_ok (cut := [35]) ma_3 rfl 21 _ _ _ _ ?_
    show CalI true (d + 1) 4 [vr 9 0, vi (nI a), vi (nI x), vi (nI 35)] σ σ.1 (fun x2 s1 => ((x2 < (nI x) → CalI true (d + 1) 4 [vr 9 0, vi x2, vi (nI x), vi (nI 45)] s1 σ.1 (fun x4 s3 => Sat true (d + 2) 3 σ.1 Q 35 [some (vr 9 0), some (vi (nI a)), some (vi (nI x)), some (vi x2), some (vi x4), some (vi (nI 0)), some (vi (x4 + (nI 1)))] [] s3)) ∧ (¬ x2 < (nI x) → (Q (some (vl (lN 0))) s1 ∧ s1.1 = σ.1))))
    refine cal_i (e_indexOf9 (d + 1) (by decide) hlet ht1 (by omega) (fun h => by omega) hN) rfl ?_
    exact br_lt (by omega) (by omega) (fun h => by omega) (fun _ => ⟨hq, rfl⟩)
  | some z =>
    obtain ⟨w, kk⟩ := z
    obtain ⟨g1, g2⟩ := ho _ rfl
    dsimp only at g1 g2
    obtain ⟨ht3, ht4⟩ := ht2
    have ht4 : Tx (hI σ 9 0) (a + (txLet l).length + 1) (w ++ txNum kk) := ht4
    obtain ⟨ht5, ht6⟩ := Tx_app.mp ht4
    have hx : x = a + ((txLet l).length + (35 :: (w ++ txNum kk)).length) := hx
    rw [List.length_cons, List.length_append] at hx
    obtain ⟨n1, n2, n3⟩ := gName_r g1
    generalize hg : a + (txLet l).length = g at *
    have hnum : (txNum kk).length ≤ 3 := by
      rcases txNum_dg g2 with ⟨_, e⟩ | ⟨r, e, _, l, _⟩
      · rw [e]; decide
      · rw [e, List.length_cons]; omega
    have hlen : (35 :: w).length = w.length + 1 := rfl
    have T35 : Tx (hI σ 9 0) g (35 :: w) := ⟨ht3, ht5⟩
    have hdash : g + (35 :: w).length < x → hI σ 9 0 (g + (35 :: w).length) = nI 45 := by
      intro h
      rcases txNum_dg g2 with ⟨_, e⟩ | ⟨r, e, _, l, _⟩
      · rw [e, List.length_nil] at hx; omega
      · rw [e] at ht6
        rw [hlen, ← Nat.add_assoc, Nat.add_right_comm]
        exact ht6.1
    refine wp_ok (cut := [35]) ma_3 rfl 21 _ _ _ _ ?_
    show CalI true (d + 1) 4 [vr 9 0, vi (nI a), vi (nI x), vi (nI 35)] σ σ.1 (fun x2 s1 => ((x2 < (nI x) → CalI true (d + 1) 4 [vr 9 0, vi x2, vi (nI x), vi (nI 45)] s1 σ.1 (fun x4 s3 => Sat true (d + 2) 3 σ.1 Q 35 [some (vr 9 0), some (vi (nI a)), some (vi (nI x)), some (vi x2), some (vi x4), some (vi (nI 0)), some (vi (x4 + (nI 1)))] [] s3)) ∧ (¬ x2 < (nI x) → (Q (some (vl (lN 0))) s1 ∧ s1.1 = σ.1))))
    have c1 := e_indexOf9 (d + 1) (σ := σ) (c := 35) (by decide) hlet ht1 (x := x) (by omega) (fun _ => by rw [hg]; exact ht3) hN
    rw [hg] at c1
    refine cal_i c1 rfl ?_
    refine br_lt (by omega) (by omega) (fun h => ?_) (fun h => by omega)
    refine cal_i (e_indexOf9 (d + 1) (c := 45) (by decide) (w := 35 :: w) (fun y hy => ?_) T35 (by omega) hdash hN) rfl ?_
    · rcases List.mem_cons.mp hy with q | q
      · rw [q]; decide
      · have := sm_rest n1 y q
        exact ⟨this.1, this.2.2.1⟩
    · rw [addN]
      rcases txNum_dg g2 with ⟨e0, e⟩ | ⟨r, e, ev, lr, _, hr⟩
      · rw [e, List.length_nil] at hx
        have : Sat true (d + 1 + 1) 3 σ.1 Q 35 [some (vr 9 0), some (vi (nI a)), some (vi (nI x)), some (vi (nI g)), some (vi (nI (g + (35 :: w).length))), some (vi (nI 0)), some (vi (nI (g + (35 :: w).length + 1)))] [] σ := by
          refine wp_ok (cut := [35]) ma_3 rfl 15 _ _ _ _ ?_
          show (((nI x) ≤ (nI (g + (35 :: w).length + 1)) → CalL true (d + 1) 0 [vr 9 0, vi ((nI g) + (nI 1)), vi (nI (g + (35 :: w).length))] σ σ.1 (fun x2 s1 => CalL true (d + 1) 1 [vl x2, vi (nI 0)] s1 σ.1 (fun x4 s3 => (Q (some (vl x4)) s3 ∧ s3.1 = σ.1)))) ∧ (¬ (nI x) ≤ (nI (g + (35 :: w).length + 1)) → (vp_in (nI (g + (35 :: w).length + 1)) 1920 ∧ Sat true (d + 2) 3 σ.1 Q 35 [some (vr 9 0), some (vi (nI a)), some (vi (nI x)), some (vi (nI g)), some (vi (nI (g + (35 :: w).length))), some (vi (((nI 0) * (nI 10)) + ((hI σ 9 0 ((nI (g + (35 :: w).length + 1)).toNatClampNeg)) - (nI 48)))), some (vi ((nI (g + (35 :: w).length + 1)) + nI 1))] [] σ)))
          refine br_le (by omega) (by omega) (fun _ => ?_) (fun h => by omega)
          rw [addN]
          refine cal_l (e_nameIn9 (d + 1) g1 ht5 (by omega) (by omega)) rfl (cal_l (e_numbered (d + 1) σ g1 (Nat.zero_le _)) rfl ⟨?_, rfl⟩)
          rw [e0] at hq
          exact hq
        exact this
      · rw [e, List.length_cons] at hx
        rw [e] at ht6
        refine s_digits9 (d + 1) σ (nI a) g1 ht5 (by omega) (by omega) g2 r (g + (35 :: w).length + 1) 0 hr ev (fun _ _ => by omega) ?_ (by omega) hN Q hq
        have := ht6.2
        rw [show g + (35 :: w).length + 1 = g + 1 + w.length + 1 by omega]
        exact this
end
section
/-! the class's Anchors: spelling -/
def wrT (σ : Hp) (f b : Nat) (w : List Nat) : Hp := arrI σ f 0 (fun k => if b ≤ k ∧ k < b + w.length then nI (w.getD (k - b) 0) else hI σ f 0 k)
theorem wrT_nil (σ : Hp) (f b : Nat) : wrT σ f b [] = σ := by
  unfold wrT
  have e : (fun k => if b ≤ k ∧ k < b + ([] : List Nat).length then nI (([] : List Nat).getD (k - b) 0) else hI σ f 0 k) = hI σ f 0 := by
    funext k
    rw [List.length_nil, if_neg (by omega)]
  rw [e, arrI_self]
theorem wrT_snoc (σ : Hp) (f b : Nat) (w : List Nat) (c : Nat) : setI (wrT σ f b w) f 0 (b + w.length) (nI c) = wrT σ f b (w ++ [c]) := by
  unfold wrT
  rw [arrI_setI]
  congr 1
  funext k
  unfold upd
  rw [List.length_append]
  show (if k = b + w.length then nI c else if b ≤ k ∧ k < b + w.length then _ else _) = if b ≤ k ∧ k < b + (w.length + 1) then nI ((w ++ [c]).getD (k - b) 0) else _
  by_cases h : k = b + w.length
  · rw [if_pos h, if_pos (by omega), List.getD_eq_getElem?_getD, List.getElem?_append_right (by omega), show k - b - w.length = 0 by omega]
    rfl
  · rw [if_neg h]
    by_cases g : b ≤ k ∧ k < b + w.length
    · rw [if_pos g, if_pos (by omega), List.getD_eq_getElem?_getD, List.getD_eq_getElem?_getD, List.getElem?_append_left (by omega)]
    · rw [if_neg g, if_neg (by omega)]
theorem wrT_app (σ : Hp) (f b : Nat) (w v : List Nat) : wrT (wrT σ f b w) f (b + w.length) v = wrT σ f b (w ++ v) := by
  unfold wrT
  rw [arrI_arrI, hI_a]
  congr 1
  funext k
  rw [List.length_append]
  by_cases h : b + w.length ≤ k ∧ k < b + w.length + v.length
  · rw [if_pos h, if_pos (by omega), List.getD_eq_getElem?_getD, List.getD_eq_getElem?_getD, List.getElem?_append_right (by omega), show k - b - w.length = k - (b + w.length) by omega]
  · rw [if_neg h]
    by_cases g : b ≤ k ∧ k < b + w.length
    · rw [if_pos g, if_pos (by omega), List.getD_eq_getElem?_getD, List.getD_eq_getElem?_getD, List.getElem?_append_left (by omega)]
    · rw [if_neg g, if_neg (by omega)]
theorem wrT_tx (σ : Hp) (f b : Nat) (w : List Nat) : Tx (hI (wrT σ f b w) f 0) b w := by
  unfold wrT
  rw [hI_a]
  refine Tx_of fun k hk => ?_
  rw [if_pos (by omega), show b + k - b = k by omega]
theorem wrT_fr (σ : Hp) (f b : Nat) (w : List Nat) : Fr (fun f' p' => f' = f ∧ p' = 0) σ (wrT σ f b w) := (Fr.rfl' _ σ).aI ⟨rfl, rfl⟩ _
theorem addm1 (x : Int32) : x + (-1) = x - nI 1 := by
  rw [Int32.sub_eq_add_neg]
  rfl
theorem div10 {k : Nat} (h : k < 2147483648) : nI k / nI 10 = nI (k / 10) := pk_div h (by decide) (by decide)
theorem rem10 {k : Nat} (h : k < 2147483648) : nI k - nI k / nI 10 * nI 10 = nI (k % 10) := pk_rem h (by decide) (by decide)
theorem e_spellNumber4 (d : Nat) (σ : Hp) {k b : Nat} (hk : k ≤ 99) (hb : b + (txNum k).length ≤ 11) : EI d 6 [vi (nI k), vr 4 0, vi (nI b)] σ (nI (txNum k).length) (wrT σ 4 b (txNum k)) := by
  refine EI_of mt_6 (Nat.le_of_ble_eq_true rfl) fun Q hq => ?_
  refine wp_ok (cut := []) ma_6 rfl 37 _ _ _ _ ?_
  show ((¬ (nI k) = 0 → (vp_in (nI b) 11 ∧ (((nI k) < (nI 10) → (¬ (nI 10) = 0 ∧ (vp_in ((nI b) + nI 1) 11 ∧ (Q (some (vi ((((nI b) + nI 1) + (nI 1)) - (nI b)))) (setI (setI σ 4 0 ((nI b).toNatClampNeg) (vp_nar .char (nI 45))) 4 0 (((nI b) + nI 1).toNatClampNeg) (vp_nar .char ((((nI 48) + ((nI k) - (nI k) / (nI 10) * (nI 10))).toUInt32 % 65536).toInt32))) ∧ σ.1 = σ.1)))) ∧ (¬ (nI k) < (nI 10) → (¬ (nI 10) = 0 ∧ (vp_in ((nI b) + nI 1) 11 ∧ (¬ (nI 10) = 0 ∧ (vp_in (((nI b) + nI 1) + nI 1) 11 ∧ (Q (some (vi (((((nI b) + nI 1) + nI 1) + (nI 1)) - (nI b)))) (setI (setI (setI σ 4 0 ((nI b).toNatClampNeg) (vp_nar .char (nI 45))) 4 0 (((nI b) + nI 1).toNatClampNeg) (vp_nar .char ((((nI 48) + ((nI k) / (nI 10))).toUInt32 % 65536).toInt32))) 4 0 ((((nI b) + nI 1) + nI 1).toNatClampNeg) (vp_nar .char ((((nI 48) + ((nI k) - (nI k) / (nI 10) * (nI 10))).toUInt32 % 65536).toInt32))) ∧ σ.1 = σ.1))))))))) ∧ ((nI k) = 0 → (Q (some (vi (nI 0))) σ ∧ σ.1 = σ.1)))
  unfold txNum at hq hb
  refine br_ne (b := 0) (by omega) (by omega) (fun h => ?_) (fun h => ?_)
  · rw [if_neg h] at hq hb
    rw [addN, nar_c (by omega), ix (by omega)]
    have e0 : setI σ 4 0 b (nI 45) = wrT σ 4 b [45] := by
      have := wrT_snoc σ 4 b [] 45
      rw [wrT_nil] at this
      exact this
    rw [e0]
    refine ⟨inb (by split at hb <;> (rw [List.length_cons] at hb; omega)) (by omega), ?_⟩
    refine br_lt (by omega) (by omega) (fun g => ?_) (fun g => ?_)
    · rw [if_pos g] at hq hb
      have hb : b + 2 ≤ 11 := hb
      rw [addN, subN (by omega), rem10 (by omega), Nat.mod_eq_of_lt g, addN, i2c_n (by omega), nar_c (by omega), ix (by omega)]
      have e1 : setI (wrT σ 4 b [45]) 4 0 (b + 1) (nI (48 + k)) = wrT σ 4 b [45, 48 + k] := wrT_snoc σ 4 b [45] (48 + k)
      rw [e1, show b + 1 + 1 - b = 2 by omega]
      exact ⟨by decide, inb (by omega) (by omega), hq, rfl⟩
    · rw [if_neg (by omega)] at hq hb
      have hb : b + 3 ≤ 11 := hb
      rw [rem10 (k := k) (by omega), div10 (k := k) (by omega)]
      simp only [addN]
      rw [subN (a := b + 1 + 1 + 1) (b := b) (by omega), i2c_n (n := 48 + k / 10) (by omega), i2c_n (n := 48 + k % 10) (by omega), nar_c (n := 48 + k / 10) (by omega), nar_c (n := 48 + k % 10) (by omega), ix (n := b + 1) (by omega), ix (n := b + 1 + 1) (by omega)]
      have e1 : setI (wrT σ 4 b [45]) 4 0 (b + 1) (nI (48 + k / 10)) = wrT σ 4 b [45, 48 + k / 10] := wrT_snoc σ 4 b [45] (48 + k / 10)
      have e2 : setI (wrT σ 4 b [45, 48 + k / 10]) 4 0 (b + 1 + 1) (nI (48 + k % 10)) = wrT σ 4 b [45, 48 + k / 10, 48 + k % 10] := wrT_snoc σ 4 b [45, 48 + k / 10] (48 + k % 10)
      rw [e1, e2, show b + 1 + 1 + 1 - b = 3 by omega]
      exact ⟨by decide, inb (by omega) (by omega), by decide, inb (by omega) (by omega), hq, trivial⟩
  · rw [if_pos h, wrT_nil] at hq
    exact ⟨hq, rfl⟩
theorem s_spell4 (d : Nat) (σ : Hp) {kk n b : Nat} (hk : kk ≤ 99) (hn : n < 36028797018963968) (hm : n % 128 = kk) {w : List Nat} (hg : gRest w) (h8 : w.length ≤ 8) (hb : b + (w ++ txNum kk).length ≤ 11) : ∀ (u v : List Nat), w = v ++ u → ∀ Q : Option AV → Hp → Prop, Q (some (vi (nI (w ++ txNum kk).length))) (wrT σ 4 b (w ++ txNum kk)) → Sat true (d + 1) 5 σ.1 Q 44 [some (vl (lN n)), none, some (vr 4 0), some (vi (nI b)), some (vl (lN (nmC w))), none, none, some (vi (nI (b + v.length))), some (vi (nI u.length - nI 1)), none] [] (wrT σ 4 b v) := by
  rw [List.length_append] at hb
  intro u
  induction u with
  | nil =>
    intro v hv Q hq
    rw [List.append_nil] at hv
    subst hv
    refine wp_ok (cut := [44]) ma_5 rfl 27 _ _ _ _ ?_
    show (((nI ([] : List Nat).length - nI 1) < 0 → CalI true d 6 [vi (((lN n) &&& (lN 127)).toInt32), vr 4 0, vi (nI (b + w.length))] (wrT σ 4 b w) σ.1 (fun x2 s1 => (Q (some (vi (((nI (b + w.length)) - (nI b)) + x2))) s1 ∧ s1.1 = σ.1))) ∧ (¬ (nI ([] : List Nat).length - nI 1) < 0 → (((nI 26) < (((((lN (nmC w)).toUInt64 >>> (((nI 6) * (nI ([] : List Nat).length - nI 1)).toInt64.toUInt64 &&& Int64.toUInt64 63)).toInt64) &&& (lN 63)).toInt32) → (vp_in (nI (b + w.length)) 11 ∧ Sat true (d + 1) 5 σ.1 Q 44 [some (vl (lN n)), none, some (vr 4 0), some (vi (nI b)), some (vl (lN (nmC w))), none, none, some (vi ((nI (b + w.length)) + nI 1)), some (vi ((nI ([] : List Nat).length - nI 1) + (-1))), some (vi (((((lN (nmC w)).toUInt64 >>> (((nI 6) * (nI ([] : List Nat).length - nI 1)).toInt64.toUInt64 &&& Int64.toUInt64 63)).toInt64) &&& (lN 63)).toInt32))] [] (setI (wrT σ 4 b w) 4 0 ((nI (b + w.length)).toNatClampNeg) (vp_nar .char (((((nI 48) + (((((lN (nmC w)).toUInt64 >>> (((nI 6) * (nI ([] : List Nat).length - nI 1)).toInt64.toUInt64 &&& Int64.toUInt64 63)).toInt64) &&& (lN 63)).toInt32)) - (nI 27)).toUInt32 % 65536).toInt32))))) ∧ (¬ (nI 26) < (((((lN (nmC w)).toUInt64 >>> (((nI 6) * (nI ([] : List Nat).length - nI 1)).toInt64.toUInt64 &&& Int64.toUInt64 63)).toInt64) &&& (lN 63)).toInt32) → (vp_in (nI (b + w.length)) 11 ∧ Sat true (d + 1) 5 σ.1 Q 44 [some (vl (lN n)), none, some (vr 4 0), some (vi (nI b)), some (vl (lN (nmC w))), none, none, some (vi ((nI (b + w.length)) + nI 1)), some (vi ((nI ([] : List Nat).length - nI 1) + (-1))), some (vi (((((lN (nmC w)).toUInt64 >>> (((nI 6) * (nI ([] : List Nat).length - nI 1)).toInt64.toUInt64 &&& Int64.toUInt64 63)).toInt64) &&& (lN 63)).toInt32))] [] (setI (wrT σ 4 b w) 4 0 ((nI (b + w.length)).toNatClampNeg) (vp_nar .char (((((nI 97) + (((((lN (nmC w)).toUInt64 >>> (((nI 6) * (nI ([] : List Nat).length - nI 1)).toInt64.toUInt64 &&& Int64.toUInt64 63)).toInt64) &&& (lN 63)).toInt32)) - (nI 1)).toUInt32 % 65536).toInt32))))))))
    refine ⟨fun _ => ?_, fun h => absurd (by decide : nI ([] : List Nat).length - nI 1 < 0) h⟩
    rw [show lN 127 = lN (2 ^ 7 - 1) from rfl, fb_maskL, show n % 2 ^ 7 = kk from hm, l2i_n (by omega), subN (by omega), show b + w.length - b = w.length by omega]
    refine cal_i (e_spellNumber4 d (wrT σ 4 b w) hk (by omega)) rfl ?_
    rw [addN, wrT_app]
    rw [List.length_append] at hq
    exact ⟨hq, rfl⟩
  | cons c u ih =>
    intro v hv Q hq
    have e : w = (v ++ [c]) ++ u := by rw [hv, List.append_assoc]; rfl
    have kq := ih (v ++ [c]) e Q hq
    have hc : isLt c ∨ isDg c := hg c (by rw [hv]; exact List.mem_append.mpr (Or.inr List.mem_cons_self))
    have hs := sy_b hc
    have hlen : w.length = v.length + (u.length + 1) := by rw [hv, List.length_append, List.length_cons]
    have hlt := nmR_lt _ (gRest_rev hg)
    have h2 : nmC w < 64 ^ 8 := Nat.lt_of_lt_of_le hlt (Nat.pow_le_pow_right (by decide) (by rw [List.length_reverse]; exact h8))
    have hdig : nmC w / 2 ^ (6 * u.length) % 64 = sy c := by
      rw [pw6]
      unfold nmC
      rw [nmR_div _ _ (gRest_rev hg), hv, List.reverse_append, List.reverse_cons, List.append_assoc, List.drop_append_of_le_length (by rw [List.length_reverse]; exact Nat.le_refl _), List.drop_eq_nil_of_le (by rw [List.length_reverse]; exact Nat.le_refl _)]
      show (nmR v.reverse * 64 + sy c) % 64 = sy c
      omega
    refine wp_ok (cut := [44]) ma_5 rfl 27 _ _ _ _ ?_
    show (((nI (c :: u).length - nI 1) < 0 → CalI true d 6 [vi (((lN n) &&& (lN 127)).toInt32), vr 4 0, vi (nI (b + v.length))] (wrT σ 4 b v) σ.1 (fun x2 s1 => (Q (some (vi (((nI (b + v.length)) - (nI b)) + x2))) s1 ∧ s1.1 = σ.1))) ∧ (¬ (nI (c :: u).length - nI 1) < 0 → (((nI 26) < (((((lN (nmC w)).toUInt64 >>> (((nI 6) * (nI (c :: u).length - nI 1)).toInt64.toUInt64 &&& Int64.toUInt64 63)).toInt64) &&& (lN 63)).toInt32) → (vp_in (nI (b + v.length)) 11 ∧ Sat true (d + 1) 5 σ.1 Q 44 [some (vl (lN n)), none, some (vr 4 0), some (vi (nI b)), some (vl (lN (nmC w))), none, none, some (vi ((nI (b + v.length)) + nI 1)), some (vi ((nI (c :: u).length - nI 1) + (-1))), some (vi (((((lN (nmC w)).toUInt64 >>> (((nI 6) * (nI (c :: u).length - nI 1)).toInt64.toUInt64 &&& Int64.toUInt64 63)).toInt64) &&& (lN 63)).toInt32))] [] (setI (wrT σ 4 b v) 4 0 ((nI (b + v.length)).toNatClampNeg) (vp_nar .char (((((nI 48) + (((((lN (nmC w)).toUInt64 >>> (((nI 6) * (nI (c :: u).length - nI 1)).toInt64.toUInt64 &&& Int64.toUInt64 63)).toInt64) &&& (lN 63)).toInt32)) - (nI 27)).toUInt32 % 65536).toInt32))))) ∧ (¬ (nI 26) < (((((lN (nmC w)).toUInt64 >>> (((nI 6) * (nI (c :: u).length - nI 1)).toInt64.toUInt64 &&& Int64.toUInt64 63)).toInt64) &&& (lN 63)).toInt32) → (vp_in (nI (b + v.length)) 11 ∧ Sat true (d + 1) 5 σ.1 Q 44 [some (vl (lN n)), none, some (vr 4 0), some (vi (nI b)), some (vl (lN (nmC w))), none, none, some (vi ((nI (b + v.length)) + nI 1)), some (vi ((nI (c :: u).length - nI 1) + (-1))), some (vi (((((lN (nmC w)).toUInt64 >>> (((nI 6) * (nI (c :: u).length - nI 1)).toInt64.toUInt64 &&& Int64.toUInt64 63)).toInt64) &&& (lN 63)).toInt32))] [] (setI (wrT σ 4 b v) 4 0 ((nI (b + v.length)).toNatClampNeg) (vp_nar .char (((((nI 97) + (((((lN (nmC w)).toUInt64 >>> (((nI 6) * (nI (c :: u).length - nI 1)).toInt64.toUInt64 &&& Int64.toUInt64 63)).toInt64) &&& (lN 63)).toInt32)) - (nI 1)).toUInt32 % 65536).toInt32))))))))
    have el : nI (c :: u).length - nI 1 = nI u.length := by
      rw [List.length_cons, subN (by omega)]
      rfl
    rw [el, mulN, wb_shr (by omega) (by omega), show lN 63 = lN (2 ^ 6 - 1) from rfl, fb_maskL, show nmC w / 2 ^ (6 * u.length) % 2 ^ 6 = sy c from hdig, l2i_n (by omega), addN, addN, addN, addm1, ix (by omega)]
    refine ⟨fun h => ?_, fun _ => ?_⟩
    · exact absurd ((ltN (a := u.length) (b := 0) (by omega) (by omega)).mp h) (by omega)
    have hin : vp_in (nI (b + v.length)) 11 := inb (by omega) (by omega)
    have hst : ∀ x, x = c → Sat true (d + 1) 5 σ.1 Q 44 [some (vl (lN n)), none, some (vr 4 0), some (vi (nI b)), some (vl (lN (nmC w))), none, none, some (vi (nI (b + v.length + 1))), some (vi (nI u.length - nI 1)), some (vi (nI (sy c)))] [] (setI (wrT σ 4 b v) 4 0 (b + v.length) (vp_nar .char ((nI x).toUInt32 % 65536).toInt32)) := by
      intro x hx
      have := ld_s hc
      rw [hx, i2c_n (by omega), nar_c (by omega), wrT_snoc]
      have ev : b + (v ++ [c]).length = b + v.length + 1 := by rw [List.length_append]; rfl
      rw [ev] at kq
      exact Sat_no 9 kq
    refine br_lt (by omega) (by omega) (fun h => ⟨hin, ?_⟩) (fun h => ⟨hin, ?_⟩)
    · rw [subN (a := 48 + sy c) (b := 27) (by omega)]
      refine hst _ ?_
      unfold sy at *
      rcases hc with ⟨q1, q2⟩ | ⟨q1, q2⟩
      · rw [if_pos q1] at *; omega
      · rw [if_neg (by omega)] at *; omega
    · rw [subN (a := 97 + sy c) (b := 1) (by omega)]
      refine hst _ ?_
      unfold sy at *
      rcases hc with ⟨q1, q2⟩ | ⟨q1, q2⟩
      · rw [if_pos q1] at *; omega
      · rw [if_neg (by omega)] at *; omega
theorem s_letters4 (d : Nat) (σ : Hp) {kk n b : Nat} (hk : kk ≤ 99) (hn : n < 36028797018963968) (hm : n % 128 = kk) {w : List Nat} (hg : gRest w) (h8 : w.length ≤ 8) (hb : b + (w ++ txNum kk).length ≤ 11) : ∀ (m i : Nat), i + m = w.length → ∀ Q : Option AV → Hp → Prop, Q (some (vi (nI (w ++ txNum kk).length))) (wrT σ 4 b (w ++ txNum kk)) → Sat true (d + 1) 5 σ.1 Q 9 [some (vl (lN n)), none, some (vr 4 0), some (vi (nI b)), some (vl (lN (nmC w))), none, some (vi (nI i)), none, none, none] [] σ := by
  have hlt := nmR_lt _ (gRest_rev hg)
  have h2 : nmC w < 64 ^ 8 := Nat.lt_of_lt_of_le hlt (Nat.pow_le_pow_right (by decide) (by rw [List.length_reverse]; exact h8))
  have hsh : ∀ i, i < 8 → (lg_cmp ((lN (nmC w)).toUInt64 >>> ((nI (6 * i)).toInt64.toUInt64 &&& Int64.toUInt64 63)).toInt64 (lN 0) = 0 ↔ w.length ≤ i) := by
    intro i hi
    rw [lg_cmp_eq, wb_shr (by omega) (by omega), fb_lN_inj (Nat.lt_of_le_of_lt (Nat.div_le_self _ _) (by omega)) (by omega), pw6]
    unfold nmC
    rw [nmR_div _ _ (gRest_rev hg)]
    constructor
    · intro h
      have : w.reverse.drop i = [] := nmR_inj _ [] (fun x hx => gRest_rev hg x (List.mem_of_mem_drop hx)) (fun x hx => by cases hx) h
      have := List.drop_eq_nil_iff.mp this
      rw [List.length_reverse] at this
      exact this
    · intro h
      rw [List.drop_eq_nil_of_le (by rw [List.length_reverse]; exact h)]
      rfl
  intro m
  induction m with
  | zero =>
    intro i hi Q hq
    have hi : i = w.length := hi
    subst hi
    have kq := s_spell4 d σ hk hn hm hg h8 hb w [] rfl Q hq
    rw [wrT_nil] at kq
    have kq := Sat_no (ls := [some (vl (lN n)), none, some (vr 4 0), some (vi (nI b)), some (vl (lN (nmC w))), none, some (vi (nI w.length)), some (vi (nI b)), some (vi (nI w.length - nI 1)), none]) 6 kq
    refine wp_ok (cut := [9, 44]) ma_5 rfl 17 _ _ _ _ ?_
    show (((nI 8) ≤ (nI w.length) → Sat true (d + 1) 5 σ.1 Q 44 [some (vl (lN n)), none, some (vr 4 0), some (vi (nI b)), some (vl (lN (nmC w))), none, some (vi (nI w.length)), some (vi (nI b)), some (vi ((nI w.length) - (nI 1))), none] [] σ) ∧ (¬ (nI 8) ≤ (nI w.length) → (((lg_cmp (((lN (nmC w)).toUInt64 >>> (((nI 6) * (nI w.length)).toInt64.toUInt64 &&& Int64.toUInt64 63)).toInt64) (lN 0)) = 0 → Sat true (d + 1) 5 σ.1 Q 44 [some (vl (lN n)), none, some (vr 4 0), some (vi (nI b)), some (vl (lN (nmC w))), none, some (vi (nI w.length)), some (vi (nI b)), some (vi ((nI w.length) - (nI 1))), none] [] σ) ∧ (¬ (lg_cmp (((lN (nmC w)).toUInt64 >>> (((nI 6) * (nI w.length)).toInt64.toUInt64 &&& Int64.toUInt64 63)).toInt64) (lN 0)) = 0 → Sat true (d + 1) 5 σ.1 Q 9 [some (vl (lN n)), none, some (vr 4 0), some (vi (nI b)), some (vl (lN (nmC w))), none, some (vi ((nI w.length) + nI 1)), none, none, none] [] σ))))
    refine br_le (by omega) (by omega) (fun _ => kq) (fun h => ?_)
    rw [mulN]
    exact ⟨fun _ => kq, fun q => absurd ((hsh _ h).mpr (Nat.le_refl _)) q⟩
  | succ m ih =>
    intro i hi Q hq
    have kq := ih (i + 1) (by omega) Q hq
    refine wp_ok (cut := [9, 44]) ma_5 rfl 17 _ _ _ _ ?_
    show (((nI 8) ≤ (nI i) → Sat true (d + 1) 5 σ.1 Q 44 [some (vl (lN n)), none, some (vr 4 0), some (vi (nI b)), some (vl (lN (nmC w))), none, some (vi (nI i)), some (vi (nI b)), some (vi ((nI i) - (nI 1))), none] [] σ) ∧ (¬ (nI 8) ≤ (nI i) → (((lg_cmp (((lN (nmC w)).toUInt64 >>> (((nI 6) * (nI i)).toInt64.toUInt64 &&& Int64.toUInt64 63)).toInt64) (lN 0)) = 0 → Sat true (d + 1) 5 σ.1 Q 44 [some (vl (lN n)), none, some (vr 4 0), some (vi (nI b)), some (vl (lN (nmC w))), none, some (vi (nI i)), some (vi (nI b)), some (vi ((nI i) - (nI 1))), none] [] σ) ∧ (¬ (lg_cmp (((lN (nmC w)).toUInt64 >>> (((nI 6) * (nI i)).toInt64.toUInt64 &&& Int64.toUInt64 63)).toInt64) (lN 0)) = 0 → Sat true (d + 1) 5 σ.1 Q 9 [some (vl (lN n)), none, some (vr 4 0), some (vi (nI b)), some (vl (lN (nmC w))), none, some (vi ((nI i) + nI 1)), none, none, none] [] σ))))
    refine br_le (by omega) (by omega) (fun h => by omega) (fun h => ?_)
    rw [mulN, addN]
    exact ⟨fun q => absurd ((hsh _ h).mp q) (by omega), fun _ => kq⟩
theorem e_spell4 (d : Nat) (σ : Hp) {o : Option Anc} (ho : gAO o) {b : Nat} (hb : b + (txO o).length ≤ 11) : EI (d + 1) 5 [vl (lN (anO o)), vr 4 0, vi (nI b)] σ (nI (txO o).length) (wrT σ 4 b (txO o)) := by
  refine EI_of mt_5 (Nat.le_of_ble_eq_true rfl) fun Q hq => ?_
  have hlt := anO_b ho
  refine wp_ok (cut := [9]) ma_5 rfl 5 _ _ _ _ ?_
  show CalL true d 2 [vl (lN (anO o))] σ σ.1 (fun x2 s1 => Sat true (d + 1) 5 σ.1 Q 9 [some (vl (lN (anO o))), none, some (vr 4 0), some (vi (nI b)), some (vl x2), none, some (vi (nI 0)), none, none, none] [] s1)
  refine cal_l (e_nameOf d σ hlt) rfl ?_
  cases o with
  | none => exact s_letters4 d σ (kk := 0) (n := 0) (by omega) (by omega) rfl (w := []) (fun x hx => by cases hx) (by decide) hb 0 0 rfl Q hq
  | some x =>
    obtain ⟨w, k⟩ := x
    obtain ⟨g1, g2⟩ := ho _ rfl
    obtain ⟨n1, n2, n3⟩ := gName_r g1
    dsimp only at g2 n1 n2 n3
    have e : anO (some (w, k)) / 128 = nmC w := by show (nmC w * 128 + k) / 128 = nmC w; omega
    rw [e]
    exact s_letters4 d σ (kk := k) (n := anO (some (w, k))) g2 hlt (by show (nmC w * 128 + k) % 128 = k; omega) n1 n3 hb w.length 0 (by omega) Q hq
theorem e_spellNumber20 (d : Nat) (σ : Hp) {k b : Nat} (hk : k ≤ 99) (hb : b + (txNum k).length ≤ 13) : EI d 6 [vi (nI k), vr 20 0, vi (nI b)] σ (nI (txNum k).length) (wrT σ 20 b (txNum k)) := by
  refine EI_of mt_6 (Nat.le_of_ble_eq_true rfl) fun Q hq => ?_
  refine wp_ok (cut := []) ma_6 rfl 37 _ _ _ _ ?_
  show ((¬ (nI k) = 0 → (vp_in (nI b) 13 ∧ (((nI k) < (nI 10) → (¬ (nI 10) = 0 ∧ (vp_in ((nI b) + nI 1) 13 ∧ (Q (some (vi ((((nI b) + nI 1) + (nI 1)) - (nI b)))) (setI (setI σ 20 0 ((nI b).toNatClampNeg) (vp_nar .char (nI 45))) 20 0 (((nI b) + nI 1).toNatClampNeg) (vp_nar .char ((((nI 48) + ((nI k) - (nI k) / (nI 10) * (nI 10))).toUInt32 % 65536).toInt32))) ∧ σ.1 = σ.1)))) ∧ (¬ (nI k) < (nI 10) → (¬ (nI 10) = 0 ∧ (vp_in ((nI b) + nI 1) 13 ∧ (¬ (nI 10) = 0 ∧ (vp_in (((nI b) + nI 1) + nI 1) 13 ∧ (Q (some (vi (((((nI b) + nI 1) + nI 1) + (nI 1)) - (nI b)))) (setI (setI (setI σ 20 0 ((nI b).toNatClampNeg) (vp_nar .char (nI 45))) 20 0 (((nI b) + nI 1).toNatClampNeg) (vp_nar .char ((((nI 48) + ((nI k) / (nI 10))).toUInt32 % 65536).toInt32))) 20 0 ((((nI b) + nI 1) + nI 1).toNatClampNeg) (vp_nar .char ((((nI 48) + ((nI k) - (nI k) / (nI 10) * (nI 10))).toUInt32 % 65536).toInt32))) ∧ σ.1 = σ.1))))))))) ∧ ((nI k) = 0 → (Q (some (vi (nI 0))) σ ∧ σ.1 = σ.1)))
  unfold txNum at hq hb
  refine br_ne (b := 0) (by omega) (by omega) (fun h => ?_) (fun h => ?_)
  · rw [if_neg h] at hq hb
    rw [addN, nar_c (by omega), ix (by omega)]
    have e0 : setI σ 20 0 b (nI 45) = wrT σ 20 b [45] := by
      have := wrT_snoc σ 20 b [] 45
      rw [wrT_nil] at this
      exact this
    rw [e0]
    refine ⟨inb (by split at hb <;> (rw [List.length_cons] at hb; omega)) (by omega), ?_⟩
    refine br_lt (by omega) (by omega) (fun g => ?_) (fun g => ?_)
    · rw [if_pos g] at hq hb
      have hb : b + 2 ≤ 13 := hb
      rw [addN, subN (by omega), rem10 (by omega), Nat.mod_eq_of_lt g, addN, i2c_n (by omega), nar_c (by omega), ix (by omega)]
      have e1 : setI (wrT σ 20 b [45]) 20 0 (b + 1) (nI (48 + k)) = wrT σ 20 b [45, 48 + k] := wrT_snoc σ 20 b [45] (48 + k)
      rw [e1, show b + 1 + 1 - b = 2 by omega]
      exact ⟨by decide, inb (by omega) (by omega), hq, rfl⟩
    · rw [if_neg (by omega)] at hq hb
      have hb : b + 3 ≤ 13 := hb
      rw [rem10 (k := k) (by omega), div10 (k := k) (by omega)]
      simp only [addN]
      rw [subN (a := b + 1 + 1 + 1) (b := b) (by omega), i2c_n (n := 48 + k / 10) (by omega), i2c_n (n := 48 + k % 10) (by omega), nar_c (n := 48 + k / 10) (by omega), nar_c (n := 48 + k % 10) (by omega), ix (n := b + 1) (by omega), ix (n := b + 1 + 1) (by omega)]
      have e1 : setI (wrT σ 20 b [45]) 20 0 (b + 1) (nI (48 + k / 10)) = wrT σ 20 b [45, 48 + k / 10] := wrT_snoc σ 20 b [45] (48 + k / 10)
      have e2 : setI (wrT σ 20 b [45, 48 + k / 10]) 20 0 (b + 1 + 1) (nI (48 + k % 10)) = wrT σ 20 b [45, 48 + k / 10, 48 + k % 10] := wrT_snoc σ 20 b [45, 48 + k / 10] (48 + k % 10)
      rw [e1, e2, show b + 1 + 1 + 1 - b = 3 by omega]
      exact ⟨by decide, inb (by omega) (by omega), by decide, inb (by omega) (by omega), hq, trivial⟩
  · rw [if_pos h, wrT_nil] at hq
    exact ⟨hq, rfl⟩
theorem s_spell20 (d : Nat) (σ : Hp) {kk n b : Nat} (hk : kk ≤ 99) (hn : n < 36028797018963968) (hm : n % 128 = kk) {w : List Nat} (hg : gRest w) (h8 : w.length ≤ 8) (hb : b + (w ++ txNum kk).length ≤ 13) : ∀ (u v : List Nat), w = v ++ u → ∀ Q : Option AV → Hp → Prop, Q (some (vi (nI (w ++ txNum kk).length))) (wrT σ 20 b (w ++ txNum kk)) → Sat true (d + 1) 5 σ.1 Q 44 [some (vl (lN n)), none, some (vr 20 0), some (vi (nI b)), some (vl (lN (nmC w))), none, none, some (vi (nI (b + v.length))), some (vi (nI u.length - nI 1)), none] [] (wrT σ 20 b v) := by
  rw [List.length_append] at hb
  intro u
  induction u with
  | nil =>
    intro v hv Q hq
    rw [List.append_nil] at hv
    subst hv
    refine wp_ok (cut := [44]) ma_5 rfl 27 _ _ _ _ ?_
    show (((nI ([] : List Nat).length - nI 1) < 0 → CalI true d 6 [vi (((lN n) &&& (lN 127)).toInt32), vr 20 0, vi (nI (b + w.length))] (wrT σ 20 b w) σ.1 (fun x2 s1 => (Q (some (vi (((nI (b + w.length)) - (nI b)) + x2))) s1 ∧ s1.1 = σ.1))) ∧ (¬ (nI ([] : List Nat).length - nI 1) < 0 → (((nI 26) < (((((lN (nmC w)).toUInt64 >>> (((nI 6) * (nI ([] : List Nat).length - nI 1)).toInt64.toUInt64 &&& Int64.toUInt64 63)).toInt64) &&& (lN 63)).toInt32) → (vp_in (nI (b + w.length)) 13 ∧ Sat true (d + 1) 5 σ.1 Q 44 [some (vl (lN n)), none, some (vr 20 0), some (vi (nI b)), some (vl (lN (nmC w))), none, none, some (vi ((nI (b + w.length)) + nI 1)), some (vi ((nI ([] : List Nat).length - nI 1) + (-1))), some (vi (((((lN (nmC w)).toUInt64 >>> (((nI 6) * (nI ([] : List Nat).length - nI 1)).toInt64.toUInt64 &&& Int64.toUInt64 63)).toInt64) &&& (lN 63)).toInt32))] [] (setI (wrT σ 20 b w) 20 0 ((nI (b + w.length)).toNatClampNeg) (vp_nar .char (((((nI 48) + (((((lN (nmC w)).toUInt64 >>> (((nI 6) * (nI ([] : List Nat).length - nI 1)).toInt64.toUInt64 &&& Int64.toUInt64 63)).toInt64) &&& (lN 63)).toInt32)) - (nI 27)).toUInt32 % 65536).toInt32))))) ∧ (¬ (nI 26) < (((((lN (nmC w)).toUInt64 >>> (((nI 6) * (nI ([] : List Nat).length - nI 1)).toInt64.toUInt64 &&& Int64.toUInt64 63)).toInt64) &&& (lN 63)).toInt32) → (vp_in (nI (b + w.length)) 13 ∧ Sat true (d + 1) 5 σ.1 Q 44 [some (vl (lN n)), none, some (vr 20 0), some (vi (nI b)), some (vl (lN (nmC w))), none, none, some (vi ((nI (b + w.length)) + nI 1)), some (vi ((nI ([] : List Nat).length - nI 1) + (-1))), some (vi (((((lN (nmC w)).toUInt64 >>> (((nI 6) * (nI ([] : List Nat).length - nI 1)).toInt64.toUInt64 &&& Int64.toUInt64 63)).toInt64) &&& (lN 63)).toInt32))] [] (setI (wrT σ 20 b w) 20 0 ((nI (b + w.length)).toNatClampNeg) (vp_nar .char (((((nI 97) + (((((lN (nmC w)).toUInt64 >>> (((nI 6) * (nI ([] : List Nat).length - nI 1)).toInt64.toUInt64 &&& Int64.toUInt64 63)).toInt64) &&& (lN 63)).toInt32)) - (nI 1)).toUInt32 % 65536).toInt32))))))))
    refine ⟨fun _ => ?_, fun h => absurd (by decide : nI ([] : List Nat).length - nI 1 < 0) h⟩
    rw [show lN 127 = lN (2 ^ 7 - 1) from rfl, fb_maskL, show n % 2 ^ 7 = kk from hm, l2i_n (by omega), subN (by omega), show b + w.length - b = w.length by omega]
    refine cal_i (e_spellNumber20 d (wrT σ 20 b w) hk (by omega)) rfl ?_
    rw [addN, wrT_app]
    rw [List.length_append] at hq
    exact ⟨hq, rfl⟩
  | cons c u ih =>
    intro v hv Q hq
    have e : w = (v ++ [c]) ++ u := by rw [hv, List.append_assoc]; rfl
    have kq := ih (v ++ [c]) e Q hq
    have hc : isLt c ∨ isDg c := hg c (by rw [hv]; exact List.mem_append.mpr (Or.inr List.mem_cons_self))
    have hs := sy_b hc
    have hlen : w.length = v.length + (u.length + 1) := by rw [hv, List.length_append, List.length_cons]
    have hlt := nmR_lt _ (gRest_rev hg)
    have h2 : nmC w < 64 ^ 8 := Nat.lt_of_lt_of_le hlt (Nat.pow_le_pow_right (by decide) (by rw [List.length_reverse]; exact h8))
    have hdig : nmC w / 2 ^ (6 * u.length) % 64 = sy c := by
      rw [pw6]
      unfold nmC
      rw [nmR_div _ _ (gRest_rev hg), hv, List.reverse_append, List.reverse_cons, List.append_assoc, List.drop_append_of_le_length (by rw [List.length_reverse]; exact Nat.le_refl _), List.drop_eq_nil_of_le (by rw [List.length_reverse]; exact Nat.le_refl _)]
      show (nmR v.reverse * 64 + sy c) % 64 = sy c
      omega
    refine wp_ok (cut := [44]) ma_5 rfl 27 _ _ _ _ ?_
    show (((nI (c :: u).length - nI 1) < 0 → CalI true d 6 [vi (((lN n) &&& (lN 127)).toInt32), vr 20 0, vi (nI (b + v.length))] (wrT σ 20 b v) σ.1 (fun x2 s1 => (Q (some (vi (((nI (b + v.length)) - (nI b)) + x2))) s1 ∧ s1.1 = σ.1))) ∧ (¬ (nI (c :: u).length - nI 1) < 0 → (((nI 26) < (((((lN (nmC w)).toUInt64 >>> (((nI 6) * (nI (c :: u).length - nI 1)).toInt64.toUInt64 &&& Int64.toUInt64 63)).toInt64) &&& (lN 63)).toInt32) → (vp_in (nI (b + v.length)) 13 ∧ Sat true (d + 1) 5 σ.1 Q 44 [some (vl (lN n)), none, some (vr 20 0), some (vi (nI b)), some (vl (lN (nmC w))), none, none, some (vi ((nI (b + v.length)) + nI 1)), some (vi ((nI (c :: u).length - nI 1) + (-1))), some (vi (((((lN (nmC w)).toUInt64 >>> (((nI 6) * (nI (c :: u).length - nI 1)).toInt64.toUInt64 &&& Int64.toUInt64 63)).toInt64) &&& (lN 63)).toInt32))] [] (setI (wrT σ 20 b v) 20 0 ((nI (b + v.length)).toNatClampNeg) (vp_nar .char (((((nI 48) + (((((lN (nmC w)).toUInt64 >>> (((nI 6) * (nI (c :: u).length - nI 1)).toInt64.toUInt64 &&& Int64.toUInt64 63)).toInt64) &&& (lN 63)).toInt32)) - (nI 27)).toUInt32 % 65536).toInt32))))) ∧ (¬ (nI 26) < (((((lN (nmC w)).toUInt64 >>> (((nI 6) * (nI (c :: u).length - nI 1)).toInt64.toUInt64 &&& Int64.toUInt64 63)).toInt64) &&& (lN 63)).toInt32) → (vp_in (nI (b + v.length)) 13 ∧ Sat true (d + 1) 5 σ.1 Q 44 [some (vl (lN n)), none, some (vr 20 0), some (vi (nI b)), some (vl (lN (nmC w))), none, none, some (vi ((nI (b + v.length)) + nI 1)), some (vi ((nI (c :: u).length - nI 1) + (-1))), some (vi (((((lN (nmC w)).toUInt64 >>> (((nI 6) * (nI (c :: u).length - nI 1)).toInt64.toUInt64 &&& Int64.toUInt64 63)).toInt64) &&& (lN 63)).toInt32))] [] (setI (wrT σ 20 b v) 20 0 ((nI (b + v.length)).toNatClampNeg) (vp_nar .char (((((nI 97) + (((((lN (nmC w)).toUInt64 >>> (((nI 6) * (nI (c :: u).length - nI 1)).toInt64.toUInt64 &&& Int64.toUInt64 63)).toInt64) &&& (lN 63)).toInt32)) - (nI 1)).toUInt32 % 65536).toInt32))))))))
    have el : nI (c :: u).length - nI 1 = nI u.length := by
      rw [List.length_cons, subN (by omega)]
      rfl
    rw [el, mulN, wb_shr (by omega) (by omega), show lN 63 = lN (2 ^ 6 - 1) from rfl, fb_maskL, show nmC w / 2 ^ (6 * u.length) % 2 ^ 6 = sy c from hdig, l2i_n (by omega), addN, addN, addN, addm1, ix (by omega)]
    refine ⟨fun h => ?_, fun _ => ?_⟩
    · exact absurd ((ltN (a := u.length) (b := 0) (by omega) (by omega)).mp h) (by omega)
    have hin : vp_in (nI (b + v.length)) 13 := inb (by omega) (by omega)
    have hst : ∀ x, x = c → Sat true (d + 1) 5 σ.1 Q 44 [some (vl (lN n)), none, some (vr 20 0), some (vi (nI b)), some (vl (lN (nmC w))), none, none, some (vi (nI (b + v.length + 1))), some (vi (nI u.length - nI 1)), some (vi (nI (sy c)))] [] (setI (wrT σ 20 b v) 20 0 (b + v.length) (vp_nar .char ((nI x).toUInt32 % 65536).toInt32)) := by
      intro x hx
      have := ld_s hc
      rw [hx, i2c_n (by omega), nar_c (by omega), wrT_snoc]
      have ev : b + (v ++ [c]).length = b + v.length + 1 := by rw [List.length_append]; rfl
      rw [ev] at kq
      exact Sat_no 9 kq
    refine br_lt (by omega) (by omega) (fun h => ⟨hin, ?_⟩) (fun h => ⟨hin, ?_⟩)
    · rw [subN (a := 48 + sy c) (b := 27) (by omega)]
      refine hst _ ?_
      unfold sy at *
      rcases hc with ⟨q1, q2⟩ | ⟨q1, q2⟩
      · rw [if_pos q1] at *; omega
      · rw [if_neg (by omega)] at *; omega
    · rw [subN (a := 97 + sy c) (b := 1) (by omega)]
      refine hst _ ?_
      unfold sy at *
      rcases hc with ⟨q1, q2⟩ | ⟨q1, q2⟩
      · rw [if_pos q1] at *; omega
      · rw [if_neg (by omega)] at *; omega
theorem s_letters20 (d : Nat) (σ : Hp) {kk n b : Nat} (hk : kk ≤ 99) (hn : n < 36028797018963968) (hm : n % 128 = kk) {w : List Nat} (hg : gRest w) (h8 : w.length ≤ 8) (hb : b + (w ++ txNum kk).length ≤ 13) : ∀ (m i : Nat), i + m = w.length → ∀ Q : Option AV → Hp → Prop, Q (some (vi (nI (w ++ txNum kk).length))) (wrT σ 20 b (w ++ txNum kk)) → Sat true (d + 1) 5 σ.1 Q 9 [some (vl (lN n)), none, some (vr 20 0), some (vi (nI b)), some (vl (lN (nmC w))), none, some (vi (nI i)), none, none, none] [] σ := by
  have hlt := nmR_lt _ (gRest_rev hg)
  have h2 : nmC w < 64 ^ 8 := Nat.lt_of_lt_of_le hlt (Nat.pow_le_pow_right (by decide) (by rw [List.length_reverse]; exact h8))
  have hsh : ∀ i, i < 8 → (lg_cmp ((lN (nmC w)).toUInt64 >>> ((nI (6 * i)).toInt64.toUInt64 &&& Int64.toUInt64 63)).toInt64 (lN 0) = 0 ↔ w.length ≤ i) := by
    intro i hi
    rw [lg_cmp_eq, wb_shr (by omega) (by omega), fb_lN_inj (Nat.lt_of_le_of_lt (Nat.div_le_self _ _) (by omega)) (by omega), pw6]
    unfold nmC
    rw [nmR_div _ _ (gRest_rev hg)]
    constructor
    · intro h
      have : w.reverse.drop i = [] := nmR_inj _ [] (fun x hx => gRest_rev hg x (List.mem_of_mem_drop hx)) (fun x hx => by cases hx) h
      have := List.drop_eq_nil_iff.mp this
      rw [List.length_reverse] at this
      exact this
    · intro h
      rw [List.drop_eq_nil_of_le (by rw [List.length_reverse]; exact h)]
      rfl
  intro m
  induction m with
  | zero =>
    intro i hi Q hq
    have hi : i = w.length := hi
    subst hi
    have kq := s_spell20 d σ hk hn hm hg h8 hb w [] rfl Q hq
    rw [wrT_nil] at kq
    have kq := Sat_no (ls := [some (vl (lN n)), none, some (vr 20 0), some (vi (nI b)), some (vl (lN (nmC w))), none, some (vi (nI w.length)), some (vi (nI b)), some (vi (nI w.length - nI 1)), none]) 6 kq
    refine wp_ok (cut := [9, 44]) ma_5 rfl 17 _ _ _ _ ?_
    show (((nI 8) ≤ (nI w.length) → Sat true (d + 1) 5 σ.1 Q 44 [some (vl (lN n)), none, some (vr 20 0), some (vi (nI b)), some (vl (lN (nmC w))), none, some (vi (nI w.length)), some (vi (nI b)), some (vi ((nI w.length) - (nI 1))), none] [] σ) ∧ (¬ (nI 8) ≤ (nI w.length) → (((lg_cmp (((lN (nmC w)).toUInt64 >>> (((nI 6) * (nI w.length)).toInt64.toUInt64 &&& Int64.toUInt64 63)).toInt64) (lN 0)) = 0 → Sat true (d + 1) 5 σ.1 Q 44 [some (vl (lN n)), none, some (vr 20 0), some (vi (nI b)), some (vl (lN (nmC w))), none, some (vi (nI w.length)), some (vi (nI b)), some (vi ((nI w.length) - (nI 1))), none] [] σ) ∧ (¬ (lg_cmp (((lN (nmC w)).toUInt64 >>> (((nI 6) * (nI w.length)).toInt64.toUInt64 &&& Int64.toUInt64 63)).toInt64) (lN 0)) = 0 → Sat true (d + 1) 5 σ.1 Q 9 [some (vl (lN n)), none, some (vr 20 0), some (vi (nI b)), some (vl (lN (nmC w))), none, some (vi ((nI w.length) + nI 1)), none, none, none] [] σ))))
    refine br_le (by omega) (by omega) (fun _ => kq) (fun h => ?_)
    rw [mulN]
    exact ⟨fun _ => kq, fun q => absurd ((hsh _ h).mpr (Nat.le_refl _)) q⟩
  | succ m ih =>
    intro i hi Q hq
    have kq := ih (i + 1) (by omega) Q hq
    refine wp_ok (cut := [9, 44]) ma_5 rfl 17 _ _ _ _ ?_
    show (((nI 8) ≤ (nI i) → Sat true (d + 1) 5 σ.1 Q 44 [some (vl (lN n)), none, some (vr 20 0), some (vi (nI b)), some (vl (lN (nmC w))), none, some (vi (nI i)), some (vi (nI b)), some (vi ((nI i) - (nI 1))), none] [] σ) ∧ (¬ (nI 8) ≤ (nI i) → (((lg_cmp (((lN (nmC w)).toUInt64 >>> (((nI 6) * (nI i)).toInt64.toUInt64 &&& Int64.toUInt64 63)).toInt64) (lN 0)) = 0 → Sat true (d + 1) 5 σ.1 Q 44 [some (vl (lN n)), none, some (vr 20 0), some (vi (nI b)), some (vl (lN (nmC w))), none, some (vi (nI i)), some (vi (nI b)), some (vi ((nI i) - (nI 1))), none] [] σ) ∧ (¬ (lg_cmp (((lN (nmC w)).toUInt64 >>> (((nI 6) * (nI i)).toInt64.toUInt64 &&& Int64.toUInt64 63)).toInt64) (lN 0)) = 0 → Sat true (d + 1) 5 σ.1 Q 9 [some (vl (lN n)), none, some (vr 20 0), some (vi (nI b)), some (vl (lN (nmC w))), none, some (vi ((nI i) + nI 1)), none, none, none] [] σ))))
    refine br_le (by omega) (by omega) (fun h => by omega) (fun h => ?_)
    rw [mulN, addN]
    exact ⟨fun q => absurd ((hsh _ h).mp q) (by omega), fun _ => kq⟩
theorem e_spell20 (d : Nat) (σ : Hp) {o : Option Anc} (ho : gAO o) {b : Nat} (hb : b + (txO o).length ≤ 13) : EI (d + 1) 5 [vl (lN (anO o)), vr 20 0, vi (nI b)] σ (nI (txO o).length) (wrT σ 20 b (txO o)) := by
  refine EI_of mt_5 (Nat.le_of_ble_eq_true rfl) fun Q hq => ?_
  have hlt := anO_b ho
  refine wp_ok (cut := [9]) ma_5 rfl 5 _ _ _ _ ?_
  show CalL true d 2 [vl (lN (anO o))] σ σ.1 (fun x2 s1 => Sat true (d + 1) 5 σ.1 Q 9 [some (vl (lN (anO o))), none, some (vr 20 0), some (vi (nI b)), some (vl x2), none, some (vi (nI 0)), none, none, none] [] s1)
  refine cal_l (e_nameOf d σ hlt) rfl ?_
  cases o with
  | none => exact s_letters20 d σ (kk := 0) (n := 0) (by omega) (by omega) rfl (w := []) (fun x hx => by cases hx) (by decide) hb 0 0 rfl Q hq
  | some x =>
    obtain ⟨w, k⟩ := x
    obtain ⟨g1, g2⟩ := ho _ rfl
    obtain ⟨n1, n2, n3⟩ := gName_r g1
    dsimp only at g2 n1 n2 n3
    have e : anO (some (w, k)) / 128 = nmC w := by show (nmC w * 128 + k) / 128 = nmC w; omega
    rw [e]
    exact s_letters20 d σ (kk := k) (n := anO (some (w, k))) g2 hlt (by show (nmC w * 128 + k) % 128 = k; omega) n1 n3 hb w.length 0 (by omega) Q hq
theorem e_spellNumber230 (d : Nat) (σ : Hp) {k b : Nat} (hk : k ≤ 99) (hb : b + (txNum k).length ≤ 11) : EI d 6 [vi (nI k), vr 230 0, vi (nI b)] σ (nI (txNum k).length) (wrT σ 230 b (txNum k)) := by
  refine EI_of mt_6 (Nat.le_of_ble_eq_true rfl) fun Q hq => ?_
  refine wp_ok (cut := []) ma_6 rfl 37 _ _ _ _ ?_
  show ((¬ (nI k) = 0 → (vp_in (nI b) 11 ∧ (((nI k) < (nI 10) → (¬ (nI 10) = 0 ∧ (vp_in ((nI b) + nI 1) 11 ∧ (Q (some (vi ((((nI b) + nI 1) + (nI 1)) - (nI b)))) (setI (setI σ 230 0 ((nI b).toNatClampNeg) (vp_nar .char (nI 45))) 230 0 (((nI b) + nI 1).toNatClampNeg) (vp_nar .char ((((nI 48) + ((nI k) - (nI k) / (nI 10) * (nI 10))).toUInt32 % 65536).toInt32))) ∧ σ.1 = σ.1)))) ∧ (¬ (nI k) < (nI 10) → (¬ (nI 10) = 0 ∧ (vp_in ((nI b) + nI 1) 11 ∧ (¬ (nI 10) = 0 ∧ (vp_in (((nI b) + nI 1) + nI 1) 11 ∧ (Q (some (vi (((((nI b) + nI 1) + nI 1) + (nI 1)) - (nI b)))) (setI (setI (setI σ 230 0 ((nI b).toNatClampNeg) (vp_nar .char (nI 45))) 230 0 (((nI b) + nI 1).toNatClampNeg) (vp_nar .char ((((nI 48) + ((nI k) / (nI 10))).toUInt32 % 65536).toInt32))) 230 0 ((((nI b) + nI 1) + nI 1).toNatClampNeg) (vp_nar .char ((((nI 48) + ((nI k) - (nI k) / (nI 10) * (nI 10))).toUInt32 % 65536).toInt32))) ∧ σ.1 = σ.1))))))))) ∧ ((nI k) = 0 → (Q (some (vi (nI 0))) σ ∧ σ.1 = σ.1)))
  unfold txNum at hq hb
  refine br_ne (b := 0) (by omega) (by omega) (fun h => ?_) (fun h => ?_)
  · rw [if_neg h] at hq hb
    rw [addN, nar_c (by omega), ix (by omega)]
    have e0 : setI σ 230 0 b (nI 45) = wrT σ 230 b [45] := by
      have := wrT_snoc σ 230 b [] 45
      rw [wrT_nil] at this
      exact this
    rw [e0]
    refine ⟨inb (by split at hb <;> (rw [List.length_cons] at hb; omega)) (by omega), ?_⟩
    refine br_lt (by omega) (by omega) (fun g => ?_) (fun g => ?_)
    · rw [if_pos g] at hq hb
      have hb : b + 2 ≤ 11 := hb
      rw [addN, subN (by omega), rem10 (by omega), Nat.mod_eq_of_lt g, addN, i2c_n (by omega), nar_c (by omega), ix (by omega)]
      have e1 : setI (wrT σ 230 b [45]) 230 0 (b + 1) (nI (48 + k)) = wrT σ 230 b [45, 48 + k] := wrT_snoc σ 230 b [45] (48 + k)
      rw [e1, show b + 1 + 1 - b = 2 by omega]
      exact ⟨by decide, inb (by omega) (by omega), hq, rfl⟩
    · rw [if_neg (by omega)] at hq hb
      have hb : b + 3 ≤ 11 := hb
      rw [rem10 (k := k) (by omega), div10 (k := k) (by omega)]
      simp only [addN]
      rw [subN (a := b + 1 + 1 + 1) (b := b) (by omega), i2c_n (n := 48 + k / 10) (by omega), i2c_n (n := 48 + k % 10) (by omega), nar_c (n := 48 + k / 10) (by omega), nar_c (n := 48 + k % 10) (by omega), ix (n := b + 1) (by omega), ix (n := b + 1 + 1) (by omega)]
      have e1 : setI (wrT σ 230 b [45]) 230 0 (b + 1) (nI (48 + k / 10)) = wrT σ 230 b [45, 48 + k / 10] := wrT_snoc σ 230 b [45] (48 + k / 10)
      have e2 : setI (wrT σ 230 b [45, 48 + k / 10]) 230 0 (b + 1 + 1) (nI (48 + k % 10)) = wrT σ 230 b [45, 48 + k / 10, 48 + k % 10] := wrT_snoc σ 230 b [45, 48 + k / 10] (48 + k % 10)
      rw [e1, e2, show b + 1 + 1 + 1 - b = 3 by omega]
      exact ⟨by decide, inb (by omega) (by omega), by decide, inb (by omega) (by omega), hq, trivial⟩
  · rw [if_pos h, wrT_nil] at hq
    exact ⟨hq, rfl⟩
theorem s_spell230 (d : Nat) (σ : Hp) {kk n b : Nat} (hk : kk ≤ 99) (hn : n < 36028797018963968) (hm : n % 128 = kk) {w : List Nat} (hg : gRest w) (h8 : w.length ≤ 8) (hb : b + (w ++ txNum kk).length ≤ 11) : ∀ (u v : List Nat), w = v ++ u → ∀ Q : Option AV → Hp → Prop, Q (some (vi (nI (w ++ txNum kk).length))) (wrT σ 230 b (w ++ txNum kk)) → Sat true (d + 1) 5 σ.1 Q 44 [some (vl (lN n)), none, some (vr 230 0), some (vi (nI b)), some (vl (lN (nmC w))), none, none, some (vi (nI (b + v.length))), some (vi (nI u.length - nI 1)), none] [] (wrT σ 230 b v) := by
  rw [List.length_append] at hb
  intro u
  induction u with
  | nil =>
    intro v hv Q hq
    rw [List.append_nil] at hv
    subst hv
    refine wp_ok (cut := [44]) ma_5 rfl 27 _ _ _ _ ?_
    show (((nI ([] : List Nat).length - nI 1) < 0 → CalI true d 6 [vi (((lN n) &&& (lN 127)).toInt32), vr 230 0, vi (nI (b + w.length))] (wrT σ 230 b w) σ.1 (fun x2 s1 => (Q (some (vi (((nI (b + w.length)) - (nI b)) + x2))) s1 ∧ s1.1 = σ.1))) ∧ (¬ (nI ([] : List Nat).length - nI 1) < 0 → (((nI 26) < (((((lN (nmC w)).toUInt64 >>> (((nI 6) * (nI ([] : List Nat).length - nI 1)).toInt64.toUInt64 &&& Int64.toUInt64 63)).toInt64) &&& (lN 63)).toInt32) → (vp_in (nI (b + w.length)) 11 ∧ Sat true (d + 1) 5 σ.1 Q 44 [some (vl (lN n)), none, some (vr 230 0), some (vi (nI b)), some (vl (lN (nmC w))), none, none, some (vi ((nI (b + w.length)) + nI 1)), some (vi ((nI ([] : List Nat).length - nI 1) + (-1))), some (vi (((((lN (nmC w)).toUInt64 >>> (((nI 6) * (nI ([] : List Nat).length - nI 1)).toInt64.toUInt64 &&& Int64.toUInt64 63)).toInt64) &&& (lN 63)).toInt32))] [] (setI (wrT σ 230 b w) 230 0 ((nI (b + w.length)).toNatClampNeg) (vp_nar .char (((((nI 48) + (((((lN (nmC w)).toUInt64 >>> (((nI 6) * (nI ([] : List Nat).length - nI 1)).toInt64.toUInt64 &&& Int64.toUInt64 63)).toInt64) &&& (lN 63)).toInt32)) - (nI 27)).toUInt32 % 65536).toInt32))))) ∧ (¬ (nI 26) < (((((lN (nmC w)).toUInt64 >>> (((nI 6) * (nI ([] : List Nat).length - nI 1)).toInt64.toUInt64 &&& Int64.toUInt64 63)).toInt64) &&& (lN 63)).toInt32) → (vp_in (nI (b + w.length)) 11 ∧ Sat true (d + 1) 5 σ.1 Q 44 [some (vl (lN n)), none, some (vr 230 0), some (vi (nI b)), some (vl (lN (nmC w))), none, none, some (vi ((nI (b + w.length)) + nI 1)), some (vi ((nI ([] : List Nat).length - nI 1) + (-1))), some (vi (((((lN (nmC w)).toUInt64 >>> (((nI 6) * (nI ([] : List Nat).length - nI 1)).toInt64.toUInt64 &&& Int64.toUInt64 63)).toInt64) &&& (lN 63)).toInt32))] [] (setI (wrT σ 230 b w) 230 0 ((nI (b + w.length)).toNatClampNeg) (vp_nar .char (((((nI 97) + (((((lN (nmC w)).toUInt64 >>> (((nI 6) * (nI ([] : List Nat).length - nI 1)).toInt64.toUInt64 &&& Int64.toUInt64 63)).toInt64) &&& (lN 63)).toInt32)) - (nI 1)).toUInt32 % 65536).toInt32))))))))
    refine ⟨fun _ => ?_, fun h => absurd (by decide : nI ([] : List Nat).length - nI 1 < 0) h⟩
    rw [show lN 127 = lN (2 ^ 7 - 1) from rfl, fb_maskL, show n % 2 ^ 7 = kk from hm, l2i_n (by omega), subN (by omega), show b + w.length - b = w.length by omega]
    refine cal_i (e_spellNumber230 d (wrT σ 230 b w) hk (by omega)) rfl ?_
    rw [addN, wrT_app]
    rw [List.length_append] at hq
    exact ⟨hq, rfl⟩
  | cons c u ih =>
    intro v hv Q hq
    have e : w = (v ++ [c]) ++ u := by rw [hv, List.append_assoc]; rfl
    have kq := ih (v ++ [c]) e Q hq
    have hc : isLt c ∨ isDg c := hg c (by rw [hv]; exact List.mem_append.mpr (Or.inr List.mem_cons_self))
    have hs := sy_b hc
    have hlen : w.length = v.length + (u.length + 1) := by rw [hv, List.length_append, List.length_cons]
    have hlt := nmR_lt _ (gRest_rev hg)
    have h2 : nmC w < 64 ^ 8 := Nat.lt_of_lt_of_le hlt (Nat.pow_le_pow_right (by decide) (by rw [List.length_reverse]; exact h8))
    have hdig : nmC w / 2 ^ (6 * u.length) % 64 = sy c := by
      rw [pw6]
      unfold nmC
      rw [nmR_div _ _ (gRest_rev hg), hv, List.reverse_append, List.reverse_cons, List.append_assoc, List.drop_append_of_le_length (by rw [List.length_reverse]; exact Nat.le_refl _), List.drop_eq_nil_of_le (by rw [List.length_reverse]; exact Nat.le_refl _)]
      show (nmR v.reverse * 64 + sy c) % 64 = sy c
      omega
    refine wp_ok (cut := [44]) ma_5 rfl 27 _ _ _ _ ?_
    show (((nI (c :: u).length - nI 1) < 0 → CalI true d 6 [vi (((lN n) &&& (lN 127)).toInt32), vr 230 0, vi (nI (b + v.length))] (wrT σ 230 b v) σ.1 (fun x2 s1 => (Q (some (vi (((nI (b + v.length)) - (nI b)) + x2))) s1 ∧ s1.1 = σ.1))) ∧ (¬ (nI (c :: u).length - nI 1) < 0 → (((nI 26) < (((((lN (nmC w)).toUInt64 >>> (((nI 6) * (nI (c :: u).length - nI 1)).toInt64.toUInt64 &&& Int64.toUInt64 63)).toInt64) &&& (lN 63)).toInt32) → (vp_in (nI (b + v.length)) 11 ∧ Sat true (d + 1) 5 σ.1 Q 44 [some (vl (lN n)), none, some (vr 230 0), some (vi (nI b)), some (vl (lN (nmC w))), none, none, some (vi ((nI (b + v.length)) + nI 1)), some (vi ((nI (c :: u).length - nI 1) + (-1))), some (vi (((((lN (nmC w)).toUInt64 >>> (((nI 6) * (nI (c :: u).length - nI 1)).toInt64.toUInt64 &&& Int64.toUInt64 63)).toInt64) &&& (lN 63)).toInt32))] [] (setI (wrT σ 230 b v) 230 0 ((nI (b + v.length)).toNatClampNeg) (vp_nar .char (((((nI 48) + (((((lN (nmC w)).toUInt64 >>> (((nI 6) * (nI (c :: u).length - nI 1)).toInt64.toUInt64 &&& Int64.toUInt64 63)).toInt64) &&& (lN 63)).toInt32)) - (nI 27)).toUInt32 % 65536).toInt32))))) ∧ (¬ (nI 26) < (((((lN (nmC w)).toUInt64 >>> (((nI 6) * (nI (c :: u).length - nI 1)).toInt64.toUInt64 &&& Int64.toUInt64 63)).toInt64) &&& (lN 63)).toInt32) → (vp_in (nI (b + v.length)) 11 ∧ Sat true (d + 1) 5 σ.1 Q 44 [some (vl (lN n)), none, some (vr 230 0), some (vi (nI b)), some (vl (lN (nmC w))), none, none, some (vi ((nI (b + v.length)) + nI 1)), some (vi ((nI (c :: u).length - nI 1) + (-1))), some (vi (((((lN (nmC w)).toUInt64 >>> (((nI 6) * (nI (c :: u).length - nI 1)).toInt64.toUInt64 &&& Int64.toUInt64 63)).toInt64) &&& (lN 63)).toInt32))] [] (setI (wrT σ 230 b v) 230 0 ((nI (b + v.length)).toNatClampNeg) (vp_nar .char (((((nI 97) + (((((lN (nmC w)).toUInt64 >>> (((nI 6) * (nI (c :: u).length - nI 1)).toInt64.toUInt64 &&& Int64.toUInt64 63)).toInt64) &&& (lN 63)).toInt32)) - (nI 1)).toUInt32 % 65536).toInt32))))))))
    have el : nI (c :: u).length - nI 1 = nI u.length := by
      rw [List.length_cons, subN (by omega)]
      rfl
    rw [el, mulN, wb_shr (by omega) (by omega), show lN 63 = lN (2 ^ 6 - 1) from rfl, fb_maskL, show nmC w / 2 ^ (6 * u.length) % 2 ^ 6 = sy c from hdig, l2i_n (by omega), addN, addN, addN, addm1, ix (by omega)]
    refine ⟨fun h => ?_, fun _ => ?_⟩
    · exact absurd ((ltN (a := u.length) (b := 0) (by omega) (by omega)).mp h) (by omega)
    have hin : vp_in (nI (b + v.length)) 11 := inb (by omega) (by omega)
    have hst : ∀ x, x = c → Sat true (d + 1) 5 σ.1 Q 44 [some (vl (lN n)), none, some (vr 230 0), some (vi (nI b)), some (vl (lN (nmC w))), none, none, some (vi (nI (b + v.length + 1))), some (vi (nI u.length - nI 1)), some (vi (nI (sy c)))] [] (setI (wrT σ 230 b v) 230 0 (b + v.length) (vp_nar .char ((nI x).toUInt32 % 65536).toInt32)) := by
      intro x hx
      have := ld_s hc
      rw [hx, i2c_n (by omega), nar_c (by omega), wrT_snoc]
      have ev : b + (v ++ [c]).length = b + v.length + 1 := by rw [List.length_append]; rfl
      rw [ev] at kq
      exact Sat_no 9 kq
    refine br_lt (by omega) (by omega) (fun h => ⟨hin, ?_⟩) (fun h => ⟨hin, ?_⟩)
    · rw [subN (a := 48 + sy c) (b := 27) (by omega)]
      refine hst _ ?_
      unfold sy at *
      rcases hc with ⟨q1, q2⟩ | ⟨q1, q2⟩
      · rw [if_pos q1] at *; omega
      · rw [if_neg (by omega)] at *; omega
    · rw [subN (a := 97 + sy c) (b := 1) (by omega)]
      refine hst _ ?_
      unfold sy at *
      rcases hc with ⟨q1, q2⟩ | ⟨q1, q2⟩
      · rw [if_pos q1] at *; omega
      · rw [if_neg (by omega)] at *; omega
theorem s_letters230 (d : Nat) (σ : Hp) {kk n b : Nat} (hk : kk ≤ 99) (hn : n < 36028797018963968) (hm : n % 128 = kk) {w : List Nat} (hg : gRest w) (h8 : w.length ≤ 8) (hb : b + (w ++ txNum kk).length ≤ 11) : ∀ (m i : Nat), i + m = w.length → ∀ Q : Option AV → Hp → Prop, Q (some (vi (nI (w ++ txNum kk).length))) (wrT σ 230 b (w ++ txNum kk)) → Sat true (d + 1) 5 σ.1 Q 9 [some (vl (lN n)), none, some (vr 230 0), some (vi (nI b)), some (vl (lN (nmC w))), none, some (vi (nI i)), none, none, none] [] σ := by
  have hlt := nmR_lt _ (gRest_rev hg)
  have h2 : nmC w < 64 ^ 8 := Nat.lt_of_lt_of_le hlt (Nat.pow_le_pow_right (by decide) (by rw [List.length_reverse]; exact h8))
  have hsh : ∀ i, i < 8 → (lg_cmp ((lN (nmC w)).toUInt64 >>> ((nI (6 * i)).toInt64.toUInt64 &&& Int64.toUInt64 63)).toInt64 (lN 0) = 0 ↔ w.length ≤ i) := by
    intro i hi
    rw [lg_cmp_eq, wb_shr (by omega) (by omega), fb_lN_inj (Nat.lt_of_le_of_lt (Nat.div_le_self _ _) (by omega)) (by omega), pw6]
    unfold nmC
    rw [nmR_div _ _ (gRest_rev hg)]
    constructor
    · intro h
      have : w.reverse.drop i = [] := nmR_inj _ [] (fun x hx => gRest_rev hg x (List.mem_of_mem_drop hx)) (fun x hx => by cases hx) h
      have := List.drop_eq_nil_iff.mp this
      rw [List.length_reverse] at this
      exact this
    · intro h
      rw [List.drop_eq_nil_of_le (by rw [List.length_reverse]; exact h)]
      rfl
  intro m
  induction m with
  | zero =>
    intro i hi Q hq
    have hi : i = w.length := hi
    subst hi
    have kq := s_spell230 d σ hk hn hm hg h8 hb w [] rfl Q hq
    rw [wrT_nil] at kq
    have kq := Sat_no (ls := [some (vl (lN n)), none, some (vr 230 0), some (vi (nI b)), some (vl (lN (nmC w))), none, some (vi (nI w.length)), some (vi (nI b)), some (vi (nI w.length - nI 1)), none]) 6 kq
    refine wp_ok (cut := [9, 44]) ma_5 rfl 17 _ _ _ _ ?_
    show (((nI 8) ≤ (nI w.length) → Sat true (d + 1) 5 σ.1 Q 44 [some (vl (lN n)), none, some (vr 230 0), some (vi (nI b)), some (vl (lN (nmC w))), none, some (vi (nI w.length)), some (vi (nI b)), some (vi ((nI w.length) - (nI 1))), none] [] σ) ∧ (¬ (nI 8) ≤ (nI w.length) → (((lg_cmp (((lN (nmC w)).toUInt64 >>> (((nI 6) * (nI w.length)).toInt64.toUInt64 &&& Int64.toUInt64 63)).toInt64) (lN 0)) = 0 → Sat true (d + 1) 5 σ.1 Q 44 [some (vl (lN n)), none, some (vr 230 0), some (vi (nI b)), some (vl (lN (nmC w))), none, some (vi (nI w.length)), some (vi (nI b)), some (vi ((nI w.length) - (nI 1))), none] [] σ) ∧ (¬ (lg_cmp (((lN (nmC w)).toUInt64 >>> (((nI 6) * (nI w.length)).toInt64.toUInt64 &&& Int64.toUInt64 63)).toInt64) (lN 0)) = 0 → Sat true (d + 1) 5 σ.1 Q 9 [some (vl (lN n)), none, some (vr 230 0), some (vi (nI b)), some (vl (lN (nmC w))), none, some (vi ((nI w.length) + nI 1)), none, none, none] [] σ))))
    refine br_le (by omega) (by omega) (fun _ => kq) (fun h => ?_)
    rw [mulN]
    exact ⟨fun _ => kq, fun q => absurd ((hsh _ h).mpr (Nat.le_refl _)) q⟩
  | succ m ih =>
    intro i hi Q hq
    have kq := ih (i + 1) (by omega) Q hq
    refine wp_ok (cut := [9, 44]) ma_5 rfl 17 _ _ _ _ ?_
    show (((nI 8) ≤ (nI i) → Sat true (d + 1) 5 σ.1 Q 44 [some (vl (lN n)), none, some (vr 230 0), some (vi (nI b)), some (vl (lN (nmC w))), none, some (vi (nI i)), some (vi (nI b)), some (vi ((nI i) - (nI 1))), none] [] σ) ∧ (¬ (nI 8) ≤ (nI i) → (((lg_cmp (((lN (nmC w)).toUInt64 >>> (((nI 6) * (nI i)).toInt64.toUInt64 &&& Int64.toUInt64 63)).toInt64) (lN 0)) = 0 → Sat true (d + 1) 5 σ.1 Q 44 [some (vl (lN n)), none, some (vr 230 0), some (vi (nI b)), some (vl (lN (nmC w))), none, some (vi (nI i)), some (vi (nI b)), some (vi ((nI i) - (nI 1))), none] [] σ) ∧ (¬ (lg_cmp (((lN (nmC w)).toUInt64 >>> (((nI 6) * (nI i)).toInt64.toUInt64 &&& Int64.toUInt64 63)).toInt64) (lN 0)) = 0 → Sat true (d + 1) 5 σ.1 Q 9 [some (vl (lN n)), none, some (vr 230 0), some (vi (nI b)), some (vl (lN (nmC w))), none, some (vi ((nI i) + nI 1)), none, none, none] [] σ))))
    refine br_le (by omega) (by omega) (fun h => by omega) (fun h => ?_)
    rw [mulN, addN]
    exact ⟨fun q => absurd ((hsh _ h).mp q) (by omega), fun _ => kq⟩
theorem e_spell230 (d : Nat) (σ : Hp) {o : Option Anc} (ho : gAO o) {b : Nat} (hb : b + (txO o).length ≤ 11) : EI (d + 1) 5 [vl (lN (anO o)), vr 230 0, vi (nI b)] σ (nI (txO o).length) (wrT σ 230 b (txO o)) := by
  refine EI_of mt_5 (Nat.le_of_ble_eq_true rfl) fun Q hq => ?_
  have hlt := anO_b ho
  refine wp_ok (cut := [9]) ma_5 rfl 5 _ _ _ _ ?_
  show CalL true d 2 [vl (lN (anO o))] σ σ.1 (fun x2 s1 => Sat true (d + 1) 5 σ.1 Q 9 [some (vl (lN (anO o))), none, some (vr 230 0), some (vi (nI b)), some (vl x2), none, some (vi (nI 0)), none, none, none] [] s1)
  refine cal_l (e_nameOf d σ hlt) rfl ?_
  cases o with
  | none => exact s_letters230 d σ (kk := 0) (n := 0) (by omega) (by omega) rfl (w := []) (fun x hx => by cases hx) (by decide) hb 0 0 rfl Q hq
  | some x =>
    obtain ⟨w, k⟩ := x
    obtain ⟨g1, g2⟩ := ho _ rfl
    obtain ⟨n1, n2, n3⟩ := gName_r g1
    dsimp only at g2 n1 n2 n3
    have e : anO (some (w, k)) / 128 = nmC w := by show (nmC w * 128 + k) / 128 = nmC w; omega
    rw [e]
    exact s_letters230 d σ (kk := k) (n := anO (some (w, k))) g2 hlt (by show (nmC w * 128 + k) % 128 = k; omega) n1 n3 hb w.length 0 (by omega) Q hq
theorem e_spellNumber231 (d : Nat) (σ : Hp) {k b : Nat} (hk : k ≤ 99) (hb : b + (txNum k).length ≤ 11) : EI d 6 [vi (nI k), vr 231 0, vi (nI b)] σ (nI (txNum k).length) (wrT σ 231 b (txNum k)) := by
  refine EI_of mt_6 (Nat.le_of_ble_eq_true rfl) fun Q hq => ?_
  refine wp_ok (cut := []) ma_6 rfl 37 _ _ _ _ ?_
  show ((¬ (nI k) = 0 → (vp_in (nI b) 11 ∧ (((nI k) < (nI 10) → (¬ (nI 10) = 0 ∧ (vp_in ((nI b) + nI 1) 11 ∧ (Q (some (vi ((((nI b) + nI 1) + (nI 1)) - (nI b)))) (setI (setI σ 231 0 ((nI b).toNatClampNeg) (vp_nar .char (nI 45))) 231 0 (((nI b) + nI 1).toNatClampNeg) (vp_nar .char ((((nI 48) + ((nI k) - (nI k) / (nI 10) * (nI 10))).toUInt32 % 65536).toInt32))) ∧ σ.1 = σ.1)))) ∧ (¬ (nI k) < (nI 10) → (¬ (nI 10) = 0 ∧ (vp_in ((nI b) + nI 1) 11 ∧ (¬ (nI 10) = 0 ∧ (vp_in (((nI b) + nI 1) + nI 1) 11 ∧ (Q (some (vi (((((nI b) + nI 1) + nI 1) + (nI 1)) - (nI b)))) (setI (setI (setI σ 231 0 ((nI b).toNatClampNeg) (vp_nar .char (nI 45))) 231 0 (((nI b) + nI 1).toNatClampNeg) (vp_nar .char ((((nI 48) + ((nI k) / (nI 10))).toUInt32 % 65536).toInt32))) 231 0 ((((nI b) + nI 1) + nI 1).toNatClampNeg) (vp_nar .char ((((nI 48) + ((nI k) - (nI k) / (nI 10) * (nI 10))).toUInt32 % 65536).toInt32))) ∧ σ.1 = σ.1))))))))) ∧ ((nI k) = 0 → (Q (some (vi (nI 0))) σ ∧ σ.1 = σ.1)))
  unfold txNum at hq hb
  refine br_ne (b := 0) (by omega) (by omega) (fun h => ?_) (fun h => ?_)
  · rw [if_neg h] at hq hb
    rw [addN, nar_c (by omega), ix (by omega)]
    have e0 : setI σ 231 0 b (nI 45) = wrT σ 231 b [45] := by
      have := wrT_snoc σ 231 b [] 45
      rw [wrT_nil] at this
      exact this
    rw [e0]
    refine ⟨inb (by split at hb <;> (rw [List.length_cons] at hb; omega)) (by omega), ?_⟩
    refine br_lt (by omega) (by omega) (fun g => ?_) (fun g => ?_)
    · rw [if_pos g] at hq hb
      have hb : b + 2 ≤ 11 := hb
      rw [addN, subN (by omega), rem10 (by omega), Nat.mod_eq_of_lt g, addN, i2c_n (by omega), nar_c (by omega), ix (by omega)]
      have e1 : setI (wrT σ 231 b [45]) 231 0 (b + 1) (nI (48 + k)) = wrT σ 231 b [45, 48 + k] := wrT_snoc σ 231 b [45] (48 + k)
      rw [e1, show b + 1 + 1 - b = 2 by omega]
      exact ⟨by decide, inb (by omega) (by omega), hq, rfl⟩
    · rw [if_neg (by omega)] at hq hb
      have hb : b + 3 ≤ 11 := hb
      rw [rem10 (k := k) (by omega), div10 (k := k) (by omega)]
      simp only [addN]
      rw [subN (a := b + 1 + 1 + 1) (b := b) (by omega), i2c_n (n := 48 + k / 10) (by omega), i2c_n (n := 48 + k % 10) (by omega), nar_c (n := 48 + k / 10) (by omega), nar_c (n := 48 + k % 10) (by omega), ix (n := b + 1) (by omega), ix (n := b + 1 + 1) (by omega)]
      have e1 : setI (wrT σ 231 b [45]) 231 0 (b + 1) (nI (48 + k / 10)) = wrT σ 231 b [45, 48 + k / 10] := wrT_snoc σ 231 b [45] (48 + k / 10)
      have e2 : setI (wrT σ 231 b [45, 48 + k / 10]) 231 0 (b + 1 + 1) (nI (48 + k % 10)) = wrT σ 231 b [45, 48 + k / 10, 48 + k % 10] := wrT_snoc σ 231 b [45, 48 + k / 10] (48 + k % 10)
      rw [e1, e2, show b + 1 + 1 + 1 - b = 3 by omega]
      exact ⟨by decide, inb (by omega) (by omega), by decide, inb (by omega) (by omega), hq, trivial⟩
  · rw [if_pos h, wrT_nil] at hq
    exact ⟨hq, rfl⟩
theorem s_spell231 (d : Nat) (σ : Hp) {kk n b : Nat} (hk : kk ≤ 99) (hn : n < 36028797018963968) (hm : n % 128 = kk) {w : List Nat} (hg : gRest w) (h8 : w.length ≤ 8) (hb : b + (w ++ txNum kk).length ≤ 11) : ∀ (u v : List Nat), w = v ++ u → ∀ Q : Option AV → Hp → Prop, Q (some (vi (nI (w ++ txNum kk).length))) (wrT σ 231 b (w ++ txNum kk)) → Sat true (d + 1) 5 σ.1 Q 44 [some (vl (lN n)), none, some (vr 231 0), some (vi (nI b)), some (vl (lN (nmC w))), none, none, some (vi (nI (b + v.length))), some (vi (nI u.length - nI 1)), none] [] (wrT σ 231 b v) := by
  rw [List.length_append] at hb
  intro u
  induction u with
  | nil =>
    intro v hv Q hq
    rw [List.append_nil] at hv
    subst hv
    refine wp_ok (cut := [44]) ma_5 rfl 27 _ _ _ _ ?_
    show (((nI ([] : List Nat).length - nI 1) < 0 → CalI true d 6 [vi (((lN n) &&& (lN 127)).toInt32), vr 231 0, vi (nI (b + w.length))] (wrT σ 231 b w) σ.1 (fun x2 s1 => (Q (some (vi (((nI (b + w.length)) - (nI b)) + x2))) s1 ∧ s1.1 = σ.1))) ∧ (¬ (nI ([] : List Nat).length - nI 1) < 0 → (((nI 26) < (((((lN (nmC w)).toUInt64 >>> (((nI 6) * (nI ([] : List Nat).length - nI 1)).toInt64.toUInt64 &&& Int64.toUInt64 63)).toInt64) &&& (lN 63)).toInt32) → (vp_in (nI (b + w.length)) 11 ∧ Sat true (d + 1) 5 σ.1 Q 44 [some (vl (lN n)), none, some (vr 231 0), some (vi (nI b)), some (vl (lN (nmC w))), none, none, some (vi ((nI (b + w.length)) + nI 1)), some (vi ((nI ([] : List Nat).length - nI 1) + (-1))), some (vi (((((lN (nmC w)).toUInt64 >>> (((nI 6) * (nI ([] : List Nat).length - nI 1)).toInt64.toUInt64 &&& Int64.toUInt64 63)).toInt64) &&& (lN 63)).toInt32))] [] (setI (wrT σ 231 b w) 231 0 ((nI (b + w.length)).toNatClampNeg) (vp_nar .char (((((nI 48) + (((((lN (nmC w)).toUInt64 >>> (((nI 6) * (nI ([] : List Nat).length - nI 1)).toInt64.toUInt64 &&& Int64.toUInt64 63)).toInt64) &&& (lN 63)).toInt32)) - (nI 27)).toUInt32 % 65536).toInt32))))) ∧ (¬ (nI 26) < (((((lN (nmC w)).toUInt64 >>> (((nI 6) * (nI ([] : List Nat).length - nI 1)).toInt64.toUInt64 &&& Int64.toUInt64 63)).toInt64) &&& (lN 63)).toInt32) → (vp_in (nI (b + w.length)) 11 ∧ Sat true (d + 1) 5 σ.1 Q 44 [some (vl (lN n)), none, some (vr 231 0), some (vi (nI b)), some (vl (lN (nmC w))), none, none, some (vi ((nI (b + w.length)) + nI 1)), some (vi ((nI ([] : List Nat).length - nI 1) + (-1))), some (vi (((((lN (nmC w)).toUInt64 >>> (((nI 6) * (nI ([] : List Nat).length - nI 1)).toInt64.toUInt64 &&& Int64.toUInt64 63)).toInt64) &&& (lN 63)).toInt32))] [] (setI (wrT σ 231 b w) 231 0 ((nI (b + w.length)).toNatClampNeg) (vp_nar .char (((((nI 97) + (((((lN (nmC w)).toUInt64 >>> (((nI 6) * (nI ([] : List Nat).length - nI 1)).toInt64.toUInt64 &&& Int64.toUInt64 63)).toInt64) &&& (lN 63)).toInt32)) - (nI 1)).toUInt32 % 65536).toInt32))))))))
    refine ⟨fun _ => ?_, fun h => absurd (by decide : nI ([] : List Nat).length - nI 1 < 0) h⟩
    rw [show lN 127 = lN (2 ^ 7 - 1) from rfl, fb_maskL, show n % 2 ^ 7 = kk from hm, l2i_n (by omega), subN (by omega), show b + w.length - b = w.length by omega]
    refine cal_i (e_spellNumber231 d (wrT σ 231 b w) hk (by omega)) rfl ?_
    rw [addN, wrT_app]
    rw [List.length_append] at hq
    exact ⟨hq, rfl⟩
  | cons c u ih =>
    intro v hv Q hq
    have e : w = (v ++ [c]) ++ u := by rw [hv, List.append_assoc]; rfl
    have kq := ih (v ++ [c]) e Q hq
    have hc : isLt c ∨ isDg c := hg c (by rw [hv]; exact List.mem_append.mpr (Or.inr List.mem_cons_self))
    have hs := sy_b hc
    have hlen : w.length = v.length + (u.length + 1) := by rw [hv, List.length_append, List.length_cons]
    have hlt := nmR_lt _ (gRest_rev hg)
    have h2 : nmC w < 64 ^ 8 := Nat.lt_of_lt_of_le hlt (Nat.pow_le_pow_right (by decide) (by rw [List.length_reverse]; exact h8))
    have hdig : nmC w / 2 ^ (6 * u.length) % 64 = sy c := by
      rw [pw6]
      unfold nmC
      rw [nmR_div _ _ (gRest_rev hg), hv, List.reverse_append, List.reverse_cons, List.append_assoc, List.drop_append_of_le_length (by rw [List.length_reverse]; exact Nat.le_refl _), List.drop_eq_nil_of_le (by rw [List.length_reverse]; exact Nat.le_refl _)]
      show (nmR v.reverse * 64 + sy c) % 64 = sy c
      omega
    refine wp_ok (cut := [44]) ma_5 rfl 27 _ _ _ _ ?_
    show (((nI (c :: u).length - nI 1) < 0 → CalI true d 6 [vi (((lN n) &&& (lN 127)).toInt32), vr 231 0, vi (nI (b + v.length))] (wrT σ 231 b v) σ.1 (fun x2 s1 => (Q (some (vi (((nI (b + v.length)) - (nI b)) + x2))) s1 ∧ s1.1 = σ.1))) ∧ (¬ (nI (c :: u).length - nI 1) < 0 → (((nI 26) < (((((lN (nmC w)).toUInt64 >>> (((nI 6) * (nI (c :: u).length - nI 1)).toInt64.toUInt64 &&& Int64.toUInt64 63)).toInt64) &&& (lN 63)).toInt32) → (vp_in (nI (b + v.length)) 11 ∧ Sat true (d + 1) 5 σ.1 Q 44 [some (vl (lN n)), none, some (vr 231 0), some (vi (nI b)), some (vl (lN (nmC w))), none, none, some (vi ((nI (b + v.length)) + nI 1)), some (vi ((nI (c :: u).length - nI 1) + (-1))), some (vi (((((lN (nmC w)).toUInt64 >>> (((nI 6) * (nI (c :: u).length - nI 1)).toInt64.toUInt64 &&& Int64.toUInt64 63)).toInt64) &&& (lN 63)).toInt32))] [] (setI (wrT σ 231 b v) 231 0 ((nI (b + v.length)).toNatClampNeg) (vp_nar .char (((((nI 48) + (((((lN (nmC w)).toUInt64 >>> (((nI 6) * (nI (c :: u).length - nI 1)).toInt64.toUInt64 &&& Int64.toUInt64 63)).toInt64) &&& (lN 63)).toInt32)) - (nI 27)).toUInt32 % 65536).toInt32))))) ∧ (¬ (nI 26) < (((((lN (nmC w)).toUInt64 >>> (((nI 6) * (nI (c :: u).length - nI 1)).toInt64.toUInt64 &&& Int64.toUInt64 63)).toInt64) &&& (lN 63)).toInt32) → (vp_in (nI (b + v.length)) 11 ∧ Sat true (d + 1) 5 σ.1 Q 44 [some (vl (lN n)), none, some (vr 231 0), some (vi (nI b)), some (vl (lN (nmC w))), none, none, some (vi ((nI (b + v.length)) + nI 1)), some (vi ((nI (c :: u).length - nI 1) + (-1))), some (vi (((((lN (nmC w)).toUInt64 >>> (((nI 6) * (nI (c :: u).length - nI 1)).toInt64.toUInt64 &&& Int64.toUInt64 63)).toInt64) &&& (lN 63)).toInt32))] [] (setI (wrT σ 231 b v) 231 0 ((nI (b + v.length)).toNatClampNeg) (vp_nar .char (((((nI 97) + (((((lN (nmC w)).toUInt64 >>> (((nI 6) * (nI (c :: u).length - nI 1)).toInt64.toUInt64 &&& Int64.toUInt64 63)).toInt64) &&& (lN 63)).toInt32)) - (nI 1)).toUInt32 % 65536).toInt32))))))))
    have el : nI (c :: u).length - nI 1 = nI u.length := by
      rw [List.length_cons, subN (by omega)]
      rfl
    rw [el, mulN, wb_shr (by omega) (by omega), show lN 63 = lN (2 ^ 6 - 1) from rfl, fb_maskL, show nmC w / 2 ^ (6 * u.length) % 2 ^ 6 = sy c from hdig, l2i_n (by omega), addN, addN, addN, addm1, ix (by omega)]
    refine ⟨fun h => ?_, fun _ => ?_⟩
    · exact absurd ((ltN (a := u.length) (b := 0) (by omega) (by omega)).mp h) (by omega)
    have hin : vp_in (nI (b + v.length)) 11 := inb (by omega) (by omega)
    have hst : ∀ x, x = c → Sat true (d + 1) 5 σ.1 Q 44 [some (vl (lN n)), none, some (vr 231 0), some (vi (nI b)), some (vl (lN (nmC w))), none, none, some (vi (nI (b + v.length + 1))), some (vi (nI u.length - nI 1)), some (vi (nI (sy c)))] [] (setI (wrT σ 231 b v) 231 0 (b + v.length) (vp_nar .char ((nI x).toUInt32 % 65536).toInt32)) := by
      intro x hx
      have := ld_s hc
      rw [hx, i2c_n (by omega), nar_c (by omega), wrT_snoc]
      have ev : b + (v ++ [c]).length = b + v.length + 1 := by rw [List.length_append]; rfl
      rw [ev] at kq
      exact Sat_no 9 kq
    refine br_lt (by omega) (by omega) (fun h => ⟨hin, ?_⟩) (fun h => ⟨hin, ?_⟩)
    · rw [subN (a := 48 + sy c) (b := 27) (by omega)]
      refine hst _ ?_
      unfold sy at *
      rcases hc with ⟨q1, q2⟩ | ⟨q1, q2⟩
      · rw [if_pos q1] at *; omega
      · rw [if_neg (by omega)] at *; omega
    · rw [subN (a := 97 + sy c) (b := 1) (by omega)]
      refine hst _ ?_
      unfold sy at *
      rcases hc with ⟨q1, q2⟩ | ⟨q1, q2⟩
      · rw [if_pos q1] at *; omega
      · rw [if_neg (by omega)] at *; omega
theorem s_letters231 (d : Nat) (σ : Hp) {kk n b : Nat} (hk : kk ≤ 99) (hn : n < 36028797018963968) (hm : n % 128 = kk) {w : List Nat} (hg : gRest w) (h8 : w.length ≤ 8) (hb : b + (w ++ txNum kk).length ≤ 11) : ∀ (m i : Nat), i + m = w.length → ∀ Q : Option AV → Hp → Prop, Q (some (vi (nI (w ++ txNum kk).length))) (wrT σ 231 b (w ++ txNum kk)) → Sat true (d + 1) 5 σ.1 Q 9 [some (vl (lN n)), none, some (vr 231 0), some (vi (nI b)), some (vl (lN (nmC w))), none, some (vi (nI i)), none, none, none] [] σ := by
  have hlt := nmR_lt _ (gRest_rev hg)
  have h2 : nmC w < 64 ^ 8 := Nat.lt_of_lt_of_le hlt (Nat.pow_le_pow_right (by decide) (by rw [List.length_reverse]; exact h8))
  have hsh : ∀ i, i < 8 → (lg_cmp ((lN (nmC w)).toUInt64 >>> ((nI (6 * i)).toInt64.toUInt64 &&& Int64.toUInt64 63)).toInt64 (lN 0) = 0 ↔ w.length ≤ i) := by
    intro i hi
    rw [lg_cmp_eq, wb_shr (by omega) (by omega), fb_lN_inj (Nat.lt_of_le_of_lt (Nat.div_le_self _ _) (by omega)) (by omega), pw6]
    unfold nmC
    rw [nmR_div _ _ (gRest_rev hg)]
    constructor
    · intro h
      have : w.reverse.drop i = [] := nmR_inj _ [] (fun x hx => gRest_rev hg x (List.mem_of_mem_drop hx)) (fun x hx => by cases hx) h
      have := List.drop_eq_nil_iff.mp this
      rw [List.length_reverse] at this
      exact this
    · intro h
      rw [List.drop_eq_nil_of_le (by rw [List.length_reverse]; exact h)]
      rfl
  intro m
  induction m with
  | zero =>
    intro i hi Q hq
    have hi : i = w.length := hi
    subst hi
    have kq := s_spell231 d σ hk hn hm hg h8 hb w [] rfl Q hq
    rw [wrT_nil] at kq
    have kq := Sat_no (ls := [some (vl (lN n)), none, some (vr 231 0), some (vi (nI b)), some (vl (lN (nmC w))), none, some (vi (nI w.length)), some (vi (nI b)), some (vi (nI w.length - nI 1)), none]) 6 kq
    refine wp_ok (cut := [9, 44]) ma_5 rfl 17 _ _ _ _ ?_
    show (((nI 8) ≤ (nI w.length) → Sat true (d + 1) 5 σ.1 Q 44 [some (vl (lN n)), none, some (vr 231 0), some (vi (nI b)), some (vl (lN (nmC w))), none, some (vi (nI w.length)), some (vi (nI b)), some (vi ((nI w.length) - (nI 1))), none] [] σ) ∧ (¬ (nI 8) ≤ (nI w.length) → (((lg_cmp (((lN (nmC w)).toUInt64 >>> (((nI 6) * (nI w.length)).toInt64.toUInt64 &&& Int64.toUInt64 63)).toInt64) (lN 0)) = 0 → Sat true (d + 1) 5 σ.1 Q 44 [some (vl (lN n)), none, some (vr 231 0), some (vi (nI b)), some (vl (lN (nmC w))), none, some (vi (nI w.length)), some (vi (nI b)), some (vi ((nI w.length) - (nI 1))), none] [] σ) ∧ (¬ (lg_cmp (((lN (nmC w)).toUInt64 >>> (((nI 6) * (nI w.length)).toInt64.toUInt64 &&& Int64.toUInt64 63)).toInt64) (lN 0)) = 0 → Sat true (d + 1) 5 σ.1 Q 9 [some (vl (lN n)), none, some (vr 231 0), some (vi (nI b)), some (vl (lN (nmC w))), none, some (vi ((nI w.length) + nI 1)), none, none, none] [] σ))))
    refine br_le (by omega) (by omega) (fun _ => kq) (fun h => ?_)
    rw [mulN]
    exact ⟨fun _ => kq, fun q => absurd ((hsh _ h).mpr (Nat.le_refl _)) q⟩
  | succ m ih =>
    intro i hi Q hq
    have kq := ih (i + 1) (by omega) Q hq
    refine wp_ok (cut := [9, 44]) ma_5 rfl 17 _ _ _ _ ?_
    show (((nI 8) ≤ (nI i) → Sat true (d + 1) 5 σ.1 Q 44 [some (vl (lN n)), none, some (vr 231 0), some (vi (nI b)), some (vl (lN (nmC w))), none, some (vi (nI i)), some (vi (nI b)), some (vi ((nI i) - (nI 1))), none] [] σ) ∧ (¬ (nI 8) ≤ (nI i) → (((lg_cmp (((lN (nmC w)).toUInt64 >>> (((nI 6) * (nI i)).toInt64.toUInt64 &&& Int64.toUInt64 63)).toInt64) (lN 0)) = 0 → Sat true (d + 1) 5 σ.1 Q 44 [some (vl (lN n)), none, some (vr 231 0), some (vi (nI b)), some (vl (lN (nmC w))), none, some (vi (nI i)), some (vi (nI b)), some (vi ((nI i) - (nI 1))), none] [] σ) ∧ (¬ (lg_cmp (((lN (nmC w)).toUInt64 >>> (((nI 6) * (nI i)).toInt64.toUInt64 &&& Int64.toUInt64 63)).toInt64) (lN 0)) = 0 → Sat true (d + 1) 5 σ.1 Q 9 [some (vl (lN n)), none, some (vr 231 0), some (vi (nI b)), some (vl (lN (nmC w))), none, some (vi ((nI i) + nI 1)), none, none, none] [] σ))))
    refine br_le (by omega) (by omega) (fun h => by omega) (fun h => ?_)
    rw [mulN, addN]
    exact ⟨fun q => absurd ((hsh _ h).mp q) (by omega), fun _ => kq⟩
theorem e_spell231 (d : Nat) (σ : Hp) {o : Option Anc} (ho : gAO o) {b : Nat} (hb : b + (txO o).length ≤ 11) : EI (d + 1) 5 [vl (lN (anO o)), vr 231 0, vi (nI b)] σ (nI (txO o).length) (wrT σ 231 b (txO o)) := by
  refine EI_of mt_5 (Nat.le_of_ble_eq_true rfl) fun Q hq => ?_
  have hlt := anO_b ho
  refine wp_ok (cut := [9]) ma_5 rfl 5 _ _ _ _ ?_
  show CalL true d 2 [vl (lN (anO o))] σ σ.1 (fun x2 s1 => Sat true (d + 1) 5 σ.1 Q 9 [some (vl (lN (anO o))), none, some (vr 231 0), some (vi (nI b)), some (vl x2), none, some (vi (nI 0)), none, none, none] [] s1)
  refine cal_l (e_nameOf d σ hlt) rfl ?_
  cases o with
  | none => exact s_letters231 d σ (kk := 0) (n := 0) (by omega) (by omega) rfl (w := []) (fun x hx => by cases hx) (by decide) hb 0 0 rfl Q hq
  | some x =>
    obtain ⟨w, k⟩ := x
    obtain ⟨g1, g2⟩ := ho _ rfl
    obtain ⟨n1, n2, n3⟩ := gName_r g1
    dsimp only at g2 n1 n2 n3
    have e : anO (some (w, k)) / 128 = nmC w := by show (nmC w * 128 + k) / 128 = nmC w; omega
    rw [e]
    exact s_letters231 d σ (kk := k) (n := anO (some (w, k))) g2 hlt (by show (nmC w * 128 + k) % 128 = k; omega) n1 n3 hb w.length 0 (by omega) Q hq
end
section
/-! put, wipe, fault: the class and the model -/
def byt (N i : Nat) : Nat := N / 2 ^ (8 * i) % 256
def pkN (N : Nat) : Nat → Nat → Nat
  | 0, _ => 8
  | k + 1, i => if N / 2 ^ (8 * i) = 0 then i else if 33 ≤ byt N i ∧ byt N i ≤ 126 then pkN N k (i + 1) else 0
def pkM (N : Nat) : Nat := pkN N 8 0
theorem pkN_f {N : Nat} (hN : N < 2 ^ 64) : ∀ (k i : Nat), i + k = 8 → pkN N k i ≠ 0 → i ≤ pkN N k i ∧ pkN N k i ≤ 8 ∧ N / 2 ^ (8 * pkN N k i) = 0 ∧ ∀ j, i ≤ j → j < pkN N k i → 33 ≤ byt N j ∧ byt N j ≤ 126 := by
  intro k
  induction k with
  | zero =>
    intro i hi h
    have hi : i = 8 := hi
    subst hi
    exact ⟨Nat.le_refl _, Nat.le_refl _, Nat.div_eq_of_lt hN, fun j h1 h2 => by have h2 : j < 8 := h2; omega⟩
  | succ k ih =>
    intro i hi h
    unfold pkN at h ⊢
    by_cases h0 : N / 2 ^ (8 * i) = 0
    · rw [if_pos h0] at h ⊢
      exact ⟨Nat.le_refl _, by omega, h0, fun j h1 h2 => by omega⟩
    · rw [if_neg h0] at h ⊢
      by_cases h1 : 33 ≤ byt N i ∧ byt N i ≤ 126
      · rw [if_pos h1] at h ⊢
        obtain ⟨a1, a2, a3, a4⟩ := ih (i + 1) (by omega) h
        refine ⟨by omega, a2, a3, fun j j1 j2 => ?_⟩
        by_cases e : j = i
        · rw [e]; exact h1
        · exact a4 j (by omega) j2
      · rw [if_neg h1] at h
        exact absurd rfl h
theorem pkM_f {N : Nat} (hN : N < 2 ^ 64) (h : pkM N ≠ 0) : pkM N ≤ 8 ∧ N < 2 ^ 63 ∧ ∀ j, j < pkM N → 33 ≤ byt N j ∧ byt N j ≤ 126 := by
  obtain ⟨a1, a2, a3, a4⟩ := pkN_f hN 8 0 rfl h
  refine ⟨a2, ?_, fun j hj => a4 j (Nat.zero_le _) hj⟩
  have hm : pkM N = pkN N 8 0 := rfl
  obtain ⟨m, em⟩ : ∃ m, pkN N 8 0 = m + 1 := ⟨pkN N 8 0 - 1, by omega⟩
  rw [em] at a3 a2 a4
  have b := a4 m (Nat.zero_le _) (by omega)
  unfold byt at b
  have e : 2 ^ (8 * (m + 1)) = 2 ^ (8 * m) * 256 := by rw [show 8 * (m + 1) = 8 * m + 8 by omega, Nat.pow_add]
  rw [e, ← Nat.div_div_eq_div_mul] at a3
  have c : N / 2 ^ (8 * m) < 127 := by omega
  have c2 : N < 127 * 2 ^ (8 * m) := (Nat.div_lt_iff_lt_mul (Nat.two_pow_pos _)).mp c
  have c3 : 2 ^ (8 * m) ≤ 2 ^ (8 * 7) := Nat.pow_le_pow_right (by decide) (by omega)
  omega
theorem byt_lt (N i : Nat) : byt N i < 256 := Nat.mod_lt _ (by decide)
theorem by_u {N i : Nat} (hN : N < 2 ^ 64) (hi : i < 8) : ((lN N).toUInt64 >>> ((nI (8 * i)).toInt64.toUInt64 &&& Int64.toUInt64 63)).toInt64 = lN (N / 2 ^ (8 * i)) := wb_shr hN (by omega)
theorem by_m (n : Nat) : lN n &&& lN 255 = lN (n % 256) := fb_maskL n 8
theorem sshr {a k : Nat} (hk : k < 64) (h : a < 2 ^ 63) : lN a >>> ((nI k).toInt64 &&& 63) = lN (a / 2 ^ k) := by
  rw [wb_c k hk]
  have hd : a / 2 ^ k ≤ a := Nat.div_le_self _ _
  apply Int64.toInt_inj.mp
  have hD : ((lN k).toBitVec.smod 64).toNat = k := by
    rw [wb_tb, wb_sm k hk, BitVec.toNat_ofNat, Nat.mod_eq_of_lt (by omega)]
  have e : (lN a >>> lN k).toInt = (lN a).toInt >>> k := by
    have := BitVec.toInt_sshiftRight (x := (lN a).toBitVec) (n := ((lN k).toBitVec.smod 64).toNat)
    rw [hD] at this
    show ((lN a).toBitVec.sshiftRight' ((lN k).toBitVec.smod 64)).toInt = _
    rw [BitVec.sshiftRight_eq', hD]
    exact this
  rw [e, Int.shiftRight_eq_div_pow, pk_lT h, pk_lT (by omega)]
  rfl
theorem e_chars (d : Nat) (σ : Hp) {N : Nat} (hN : N < 2 ^ 64) : EI d 98 [vl (lN N)] σ (nI (pkM N)) σ := by
  have loop : ∀ (k i : Nat), i + k = 8 → ∀ Q : Option AV → Hp → Prop, Q (some (vi (nI (pkN N k i)))) σ → Sat true d 98 σ.1 Q 2 [some (vl (lN N)), none, some (vi (nI i)), none, none, none, none] [] σ := by
    intro k
    induction k with
    | zero =>
      intro i hi Q hq
      have hi : i = 8 := hi
      subst hi
      refine wp_ok (cut := [2]) ma_98 rfl 27 _ _ _ _ ?_
      show (((nI 8) ≤ (nI 8) → (Q (some (vi (nI 8))) σ ∧ σ.1 = σ.1)) ∧ (¬ (nI 8) ≤ (nI 8) → ((¬ (lg_cmp (((lN N).toUInt64 >>> (((nI 8) * (nI 8)).toInt64.toUInt64 &&& Int64.toUInt64 63)).toInt64) (lN 0)) = 0 → (((lg_cmp ((((lN N).toUInt64 >>> (((nI 8) * (nI 8)).toInt64.toUInt64 &&& Int64.toUInt64 63)).toInt64) &&& (lN 255)) (lN 33)) < 0 → (Q (some (vi (nI 0))) σ ∧ σ.1 = σ.1)) ∧ (¬ (lg_cmp ((((lN N).toUInt64 >>> (((nI 8) * (nI 8)).toInt64.toUInt64 &&& Int64.toUInt64 63)).toInt64) &&& (lN 255)) (lN 33)) < 0 → (((lg_cmp ((((lN N).toUInt64 >>> (((nI 8) * (nI 8)).toInt64.toUInt64 &&& Int64.toUInt64 63)).toInt64) &&& (lN 255)) (lN 126)) ≤ 0 → Sat true d 98 σ.1 Q 2 [some (vl (lN N)), none, some (vi ((nI 8) + nI 1)), some (vl (((lN N).toUInt64 >>> (((nI 8) * (nI 8)).toInt64.toUInt64 &&& Int64.toUInt64 63)).toInt64)), none, some (vl ((((lN N).toUInt64 >>> (((nI 8) * (nI 8)).toInt64.toUInt64 &&& Int64.toUInt64 63)).toInt64) &&& (lN 255))), none] [] σ) ∧ (¬ (lg_cmp ((((lN N).toUInt64 >>> (((nI 8) * (nI 8)).toInt64.toUInt64 &&& Int64.toUInt64 63)).toInt64) &&& (lN 255)) (lN 126)) ≤ 0 → (Q (some (vi (nI 0))) σ ∧ σ.1 = σ.1)))))) ∧ ((lg_cmp (((lN N).toUInt64 >>> (((nI 8) * (nI 8)).toInt64.toUInt64 &&& Int64.toUInt64 63)).toInt64) (lN 0)) = 0 → (Q (some (vi (nI 8))) σ ∧ σ.1 = σ.1)))))
      exact ⟨fun _ => ⟨hq, rfl⟩, fun h => absurd (by decide) h⟩
    | succ k ih =>
      intro i hi Q hq
      unfold pkN at hq
      have hd : N / 2 ^ (8 * i) ≤ N := Nat.div_le_self _ _
      have hb := byt_lt N i
      refine wp_ok (cut := [2]) ma_98 rfl 27 _ _ _ _ ?_
      show (((nI 8) ≤ (nI i) → (Q (some (vi (nI 8))) σ ∧ σ.1 = σ.1)) ∧ (¬ (nI 8) ≤ (nI i) → ((¬ (lg_cmp (((lN N).toUInt64 >>> (((nI 8) * (nI i)).toInt64.toUInt64 &&& Int64.toUInt64 63)).toInt64) (lN 0)) = 0 → (((lg_cmp ((((lN N).toUInt64 >>> (((nI 8) * (nI i)).toInt64.toUInt64 &&& Int64.toUInt64 63)).toInt64) &&& (lN 255)) (lN 33)) < 0 → (Q (some (vi (nI 0))) σ ∧ σ.1 = σ.1)) ∧ (¬ (lg_cmp ((((lN N).toUInt64 >>> (((nI 8) * (nI i)).toInt64.toUInt64 &&& Int64.toUInt64 63)).toInt64) &&& (lN 255)) (lN 33)) < 0 → (((lg_cmp ((((lN N).toUInt64 >>> (((nI 8) * (nI i)).toInt64.toUInt64 &&& Int64.toUInt64 63)).toInt64) &&& (lN 255)) (lN 126)) ≤ 0 → Sat true d 98 σ.1 Q 2 [some (vl (lN N)), none, some (vi ((nI i) + nI 1)), some (vl (((lN N).toUInt64 >>> (((nI 8) * (nI i)).toInt64.toUInt64 &&& Int64.toUInt64 63)).toInt64)), none, some (vl ((((lN N).toUInt64 >>> (((nI 8) * (nI i)).toInt64.toUInt64 &&& Int64.toUInt64 63)).toInt64) &&& (lN 255))), none] [] σ) ∧ (¬ (lg_cmp ((((lN N).toUInt64 >>> (((nI 8) * (nI i)).toInt64.toUInt64 &&& Int64.toUInt64 63)).toInt64) &&& (lN 255)) (lN 126)) ≤ 0 → (Q (some (vi (nI 0))) σ ∧ σ.1 = σ.1)))))) ∧ ((lg_cmp (((lN N).toUInt64 >>> (((nI 8) * (nI i)).toInt64.toUInt64 &&& Int64.toUInt64 63)).toInt64) (lN 0)) = 0 → (Q (some (vi (nI i))) σ ∧ σ.1 = σ.1)))))
      rw [mulN, by_u hN (by omega), by_m, addN]
      refine br_le (by omega) (by omega) (fun h => by omega) (fun _ => ?_)
      show (¬ lg_cmp (lN (N / 2 ^ (8 * i))) (lN 0) = 0 → (lg_cmp (lN (byt N i)) (lN 33) < 0 → _) ∧ (¬ lg_cmp (lN (byt N i)) (lN 33) < 0 → (lg_cmp (lN (byt N i)) (lN 126) ≤ 0 → _) ∧ (¬ lg_cmp (lN (byt N i)) (lN 126) ≤ 0 → _))) ∧ (lg_cmp (lN (N / 2 ^ (8 * i))) (lN 0) = 0 → _)
      rw [lg_cmp_eq, lg_cmp_lt, lg_cmp_le]
      have e0 : lN (N / 2 ^ (8 * i)) = lN 0 ↔ N / 2 ^ (8 * i) = 0 := by
        constructor
        · intro h
          have := congrArg (fun x : Int64 => x.toBitVec.toNat) h
          rw [wb_tn (by omega), wb_tn (by omega)] at this
          exact this
        · intro h; rw [h]
      have e1 : lN (byt N i) < lN 33 ↔ byt N i < 33 := by
        rw [Int64.lt_iff_toInt_lt, pk_lT (by omega), pk_lT (by omega)]; omega
      have e2 : lN (byt N i) ≤ lN 126 ↔ byt N i ≤ 126 := by
        rw [Int64.le_iff_toInt_le, pk_lT (by omega), pk_lT (by omega)]; omega
      rw [e0, e1, e2]
      refine ⟨fun h => ?_, fun h => ?_⟩
      · rw [if_neg h] at hq
        refine ⟨fun g => ?_, fun g => ⟨fun g2 => ?_, fun g2 => ?_⟩⟩
        · rw [if_neg (by omega)] at hq
          exact ⟨hq, rfl⟩
        · rw [if_pos (by omega)] at hq
          exact Sat_no 3 (Sat_no 5 (ih (i + 1) (by omega) Q hq))
        · rw [if_neg (by omega)] at hq
          exact ⟨hq, rfl⟩
      · rw [if_pos h] at hq
        exact ⟨hq, rfl⟩
  refine EI_of mt_98 (Nat.le_of_ble_eq_true rfl) fun Q hq => ?_
  refine wp_ok (cut := [2]) ma_98 rfl 2 _ _ _ _ ?_
  show Sat true d 98 σ.1 Q 2 [some (vl (lN N)), none, some (vi (nI 0)), none, none, none, none] [] σ
  exact loop 8 0 rfl Q hq
def putS (t : Nat → Nat) (n N : Nat) (k : Nat) : Nat := if k < n then t k else byt N (pkM N - 1 - (k - n))
def putK (n N : Nat) : Prop := pkM N ≠ 0 ∧ n + pkM N ≤ 160
def putV (n N : Nat) : Int32 := if pkM N = 0 then (-2) else if 160 < n + pkM N then (-4) else nI (n + pkM N)
/-- the pad of the class, of the model -/
def PdC (σ : Hp) (n : Nat) (t : Nat → Nat) : Prop := PadC σ n t ∧ hI σ 1 0 1 = nI n
def putP (P : Hp → Nat → (Nat → Nat) → Prop) (n N : Nat) (t : Nat → Nat) (h : Hp) : Prop := (putK n N ∧ P h (n + pkM N) (putS t n N)) ∨ (¬ putK n N ∧ P h n t)
theorem e_put (d : Nat) {σ : Hp} {n : Nat} {t : Nat → Nat} (hp : PdC σ n t) {N : Nat} (hN : N < 2 ^ 64) : PI (d + 1) 69 [vr 1 0, vl (lN N)] σ (putV n N) (fun h => putP PdC n N t h ∧ Fr (fun f _ => f = 1 ∨ f = 2) σ h ∧ ∀ k, k ≠ 1 → hI h 1 0 k = hI σ 1 0 k) := by
  obtain ⟨⟨hn, hc⟩, hl⟩ := hp
  have loop : pkM N ≠ 0 → n + pkM N ≤ 160 → ∀ Q : Option AV → Hp → Prop, (∀ h, PdC h (n + pkM N) (putS t n N) ∧ Fr (fun f _ => f = 1 ∨ f = 2) σ h ∧ (∀ k, k ≠ 1 → hI h 1 0 k = hI σ 1 0 k) → Q (some (vi (nI (n + pkM N)))) h) → ∀ (j i : Nat) (h : Hp), i + j = pkM N → hI h 1 0 1 = nI (n + i) → (∀ k, k < n + i → hI h 2 0 k = nI (putS t n N k)) → Fr (fun f _ => f = 1 ∨ f = 2) σ h → (∀ k, k ≠ 1 → hI h 1 0 k = hI σ 1 0 k) → Sat true (d + 1) 69 σ.1 Q 32 [some (vr 1 0), some (vl (lN N)), none, none, some (vi (nI j - nI 1))] [] h := by
    intro hm0 hm Q hq j
    obtain ⟨f1, f2, f3⟩ := pkM_f hN hm0
    induction j with
    | zero =>
      intro i h hi h1 h2 h3 h4
      have hi : i = pkM N := hi
      subst hi
      refine wp_ok (cut := [32]) ma_69 rfl 24 _ _ _ _ ?_
      show (((nI 0 - nI 1) < 0 → (Q (some (vi (hI h 1 0 1))) h ∧ h.1 = σ.1)) ∧ (¬ (nI 0 - nI 1) < 0 → (vp_in (hI h 1 0 1) 160 ∧ Sat true (d + 1) 69 σ.1 Q 32 [some (vr 1 0), some (vl (lN N)), none, none, some (vi ((nI 0 - nI 1) + (-1)))] [] (setI (setI h 2 0 ((hI h 1 0 1).toNatClampNeg) (vp_nar .char (((((((lN N).toUInt64 >>> (((nI 8) * (nI 0 - nI 1)).toInt64.toUInt64 &&& Int64.toUInt64 63)).toInt64) &&& (lN 255)).toInt32).toUInt32 % 65536).toInt32))) 1 0 1 ((hI h 1 0 1) + (nI 1))))))
      refine ⟨fun _ => ?_, fun g => absurd (by decide) g⟩
      rw [h1]
      refine ⟨hq h ⟨⟨⟨hm, fun k hk => ⟨h2 k hk, ?_⟩⟩, h1⟩, h3, h4⟩, h3.1⟩
      unfold putS
      split
      · rename_i q; exact (hc k q).2
      · have := f3 (pkM N - 1 - (k - n)) (by omega)
        omega
    | succ j ih =>
      intro i h hi h1 h2 h3 h4
      have ej : nI (j + 1) - nI 1 = nI j := by rw [subN (by omega)]; rfl
      have hb := byt_lt N j
      have kq := ih (i + 1) (setI (setI h 2 0 (n + i) (nI (byt N j))) 1 0 1 (nI (n + i + 1))) (by omega) (hI_s _ _ _ _ _) (fun k hk => ?_) ((h3.sI (Or.inr rfl) _ _).sI (Or.inl rfl) _ _) (fun k hk => ?_)
      · refine wp_ok (cut := [32]) ma_69 rfl 24 _ _ _ _ ?_
        show (((nI (j + 1) - nI 1) < 0 → (Q (some (vi (hI h 1 0 1))) h ∧ h.1 = σ.1)) ∧ (¬ (nI (j + 1) - nI 1) < 0 → (vp_in (hI h 1 0 1) 160 ∧ Sat true (d + 1) 69 σ.1 Q 32 [some (vr 1 0), some (vl (lN N)), none, none, some (vi ((nI (j + 1) - nI 1) + (-1)))] [] (setI (setI h 2 0 ((hI h 1 0 1).toNatClampNeg) (vp_nar .char (((((((lN N).toUInt64 >>> (((nI 8) * (nI (j + 1) - nI 1)).toInt64.toUInt64 &&& Int64.toUInt64 63)).toInt64) &&& (lN 255)).toInt32).toUInt32 % 65536).toInt32))) 1 0 1 ((hI h 1 0 1) + (nI 1))))))
        rw [ej]
        refine ⟨fun g => absurd ((ltN (a := j) (b := 0) (by omega) (by omega)).mp g) (by omega), fun _ => ?_⟩
        rw [h1, mulN, by_u hN (by omega), by_m, addN, addm1, ix (by omega)]
        show _ ∧ Sat true (d + 1) 69 σ.1 Q 32 _ [] (setI (setI h 2 0 (n + i) (vp_nar .char ((lN (byt N j)).toInt32.toUInt32 % 65536).toInt32)) 1 0 1 (nI (n + i + 1)))
        rw [l2i_n (by omega), i2c_n (by omega), nar_c (by omega)]
        exact ⟨inb (by omega) (by omega), kq⟩
      · show hI (setI h 2 0 (n + i) _) 2 0 k = _
        by_cases e : k = n + i
        · subst e
          rw [hI_s]
          unfold putS
          rw [if_neg (by omega), show pkM N - 1 - (n + i - n) = j by omega]
        · rw [hI_k _ _ _ _ e]
          exact h2 k (by omega)
      · rw [hI_k _ _ _ _ hk]
        exact h4 k hk
  refine PI_of mt_69 (Nat.le_of_ble_eq_true rfl) fun Q hq => ?_
  refine wp_ok (cut := [32]) ma_69 rfl 15 _ _ _ _ ?_
  show CalI true d 98 [vl (lN N)] σ σ.1 (fun x2 s1 => ((¬ x2 = 0 → ((((hI s1 1 0 1) + x2) ≤ (nI 160) → Sat true (d + 1) 69 σ.1 Q 32 [some (vr 1 0), some (vl (lN N)), none, some (vi x2), some (vi (x2 - (nI 1)))] [] s1) ∧ (¬ ((hI s1 1 0 1) + x2) ≤ (nI 160) → (Q (some (vi (-4))) s1 ∧ s1.1 = σ.1)))) ∧ (x2 = 0 → (Q (some (vi (-2))) s1 ∧ s1.1 = σ.1))))
  refine cal_i (e_chars d σ hN) rfl ?_
  have hm8 : pkM N ≤ 8 := by
    by_cases e : pkM N = 0
    · omega
    · exact (pkM_f hN e).1
  have keep : ¬ putK n N → Q (some (vi (putV n N))) σ := fun q => hq σ ⟨Or.inr ⟨q, ⟨hn, hc⟩, hl⟩, Fr.rfl' _ _, fun _ _ => rfl⟩
  refine br_ne (b := 0) (by omega) (by omega) (fun h0 => ?_) (fun h0 => ?_)
  · rw [hl, addN]
    refine br_le (by omega) (by omega) (fun h1 => ?_) (fun h1 => ?_)
    · refine Sat_no 3 (loop h0 h1 Q (fun h ph => ?_) (pkM N) 0 σ (by omega) hl (fun k hk => ?_) (Fr.rfl' _ _) (fun _ _ => rfl))
      · have := hq h ⟨Or.inl ⟨⟨h0, h1⟩, ph.1⟩, ph.2⟩
        unfold putV at this
        rw [if_neg h0, if_neg (by omega)] at this
        exact this
      · unfold putS
        rw [if_pos (by omega)]
        exact (hc k (by omega)).1
    · have := keep (fun q => by have := q.2; omega)
      unfold putV at this
      rw [if_neg h0, if_pos h1] at this
      exact ⟨this, rfl⟩
  · have := keep (fun q => q.1 h0)
    unfold putV at this
    rw [if_pos h0] at this
    exact ⟨this, rfl⟩
end
section
/-! the model's put; wipe and fault on both sides -/
theorem m_put (d : Nat) {σ : Hp} {n : Nat} {t : Nat → Nat} (hp : PadM σ n t) {N : Nat} (hN : N < 2 ^ 64) : PI (d + 1) 113 [vr 233 0, vl (lN N)] σ (putV n N) (fun h => putP PadM n N t h ∧ Fr (fun f _ => f = 233 ∨ f = 234) σ h ∧ ∀ k, k ≠ 1 → hI h 233 0 k = hI σ 233 0 k) := by
  obtain ⟨hn, hl, hc⟩ := hp
  have loop2 : pkM N ≠ 0 → n + pkM N ≤ 160 → ∀ Q : Option AV → Hp → Prop, (∀ h, PadM h (n + pkM N) (putS t n N) ∧ Fr (fun f _ => f = 233 ∨ f = 234) σ h ∧ (∀ k, k ≠ 1 → hI h 233 0 k = hI σ 233 0 k) → Q (some (vi (nI (n + pkM N)))) h) → ∀ (j i : Nat) (h : Hp), i + j = pkM N → (∀ k, k < n + i → hI h 234 0 k = nI (putS t n N k)) → Fr (fun f _ => f = 233 ∨ f = 234) σ h → (∀ k, hI h 233 0 k = hI σ 233 0 k) → Sat true (d + 1) 113 σ.1 Q 87 [some (vr 233 0), some (vl (lN N)), none, some (vi (nI (pkM N))), none, none, some (vi (nI i))] [] h := by
    intro hm0 hm Q hq j
    obtain ⟨f1, f2, f3⟩ := pkM_f hN hm0
    induction j with
    | zero =>
      intro i h hi h2 h3 h4
      have hi : i = pkM N := hi
      subst hi
      refine wp_ok (cut := [87]) ma_113 rfl 24 _ _ _ _ ?_
      show (((nI (pkM N)) ≤ (nI (pkM N)) → (Q (some (vi ((hI h 233 0 1) + (nI (pkM N))))) (setI h 233 0 1 ((hI h 233 0 1) + (nI (pkM N)))) ∧ h.1 = σ.1)) ∧ (¬ (nI (pkM N)) ≤ (nI (pkM N)) → (vp_in ((hI h 233 0 1) + (nI (pkM N))) 160 ∧ Sat true (d + 1) 113 σ.1 Q 87 [some (vr 233 0), some (vl (lN N)), none, some (vi (nI (pkM N))), none, none, some (vi ((nI (pkM N)) + nI 1))] [] (setI h 234 0 (((hI h 233 0 1) + (nI (pkM N))).toNatClampNeg) ((((lN N) >>> (((nI 8) * (((nI (pkM N)) - (nI 1)) - (nI (pkM N)))).toInt64 &&& 63)) &&& (lN 255)).toInt32)))))
      refine ⟨fun _ => ?_, fun g => absurd (Int32.le_refl _) g⟩
      rw [h4 1, hl, addN]
      refine ⟨hq _ ⟨⟨hm, hI_s _ _ _ _ _, fun k hk => ⟨h2 k hk, ?_⟩⟩, h3.sI (Or.inl rfl) _ _, fun k hk => by rw [hI_k _ _ _ _ hk]; exact h4 k⟩, h3.1⟩
      unfold putS
      split
      · rename_i q; exact (hc k q).2
      · have := f3 (pkM N - 1 - (k - n)) (by omega)
        omega
    | succ j ih =>
      intro i h hi h2 h3 h4
      have hb := byt_lt N j
      have kq := ih (i + 1) (setI h 234 0 (n + i) (nI (byt N j))) (by omega) (fun k hk => ?_) (h3.sI (Or.inr rfl) _ _) h4
      · refine wp_ok (cut := [87]) ma_113 rfl 24 _ _ _ _ ?_
        show (((nI (pkM N)) ≤ (nI i) → (Q (some (vi ((hI h 233 0 1) + (nI (pkM N))))) (setI h 233 0 1 ((hI h 233 0 1) + (nI (pkM N)))) ∧ h.1 = σ.1)) ∧ (¬ (nI (pkM N)) ≤ (nI i) → (vp_in ((hI h 233 0 1) + (nI i)) 160 ∧ Sat true (d + 1) 113 σ.1 Q 87 [some (vr 233 0), some (vl (lN N)), none, some (vi (nI (pkM N))), none, none, some (vi ((nI i) + nI 1))] [] (setI h 234 0 (((hI h 233 0 1) + (nI i)).toNatClampNeg) ((((lN N) >>> (((nI 8) * (((nI (pkM N)) - (nI 1)) - (nI i))).toInt64 &&& 63)) &&& (lN 255)).toInt32)))))
        refine br_le (by omega) (by omega) (fun g => by omega) (fun _ => ?_)
        rw [h4 1, hl, addN, addN, subN (by omega), subN (by omega), mulN, sshr (by omega) f2, by_m, ix (by omega), show pkM N - 1 - i = j by omega]
        refine ⟨inb (by omega) (by omega), ?_⟩
        rw [show N / 2 ^ (8 * j) % 256 = byt N j from rfl, l2i_n (by omega)]
        exact kq
      · by_cases e : k = n + i
        · subst e
          rw [hI_s]
          unfold putS
          rw [if_neg (by omega), show pkM N - 1 - (n + i - n) = j by omega]
        · rw [hI_k _ _ _ _ e]
          exact h2 k (by omega)
  have hm8 : pkM N ≤ 8 := by
    by_cases e : pkM N = 0
    · omega
    · exact (pkM_f hN e).1
  have lz : ∀ x, x < 2 ^ 64 → (lN x = lN 0 ↔ x = 0) := by
    intro x hx
    constructor
    · intro h
      have := congrArg (fun x : Int64 => x.toBitVec.toNat) h
      rw [wb_tn (by omega), wb_tn (by omega)] at this
      exact this
    · intro h; rw [h]
  -- behind the first loop
  have tail : ∀ (Q : Option AV → Hp → Prop) (i : Nat), i ≤ 8 → (∀ h, putP PadM n N t h ∧ Fr (fun f _ => f = 233 ∨ f = 234) σ h ∧ (∀ k, k ≠ 1 → hI h 233 0 k = hI σ 233 0 k) → Q (some (vi (putV n N))) h) → (pkM N = if i = 0 ∨ N / 2 ^ (8 * i) ≠ 0 then 0 else i) → Sat true (d + 1) 113 σ.1 Q 55 [some (vr 233 0), some (vl (lN N)), none, some (vi (nI i)), some (vl (lN (N / 2 ^ (8 * i)))), none, none] [] σ := by
    intro Q i hi hq hm
    have keep : ¬ putK n N → Q (some (vi (putV n N))) σ := fun q => hq σ ⟨Or.inr ⟨q, hn, hl, hc⟩, Fr.rfl' _ _, fun _ _ => rfl⟩
    have hd : N / 2 ^ (8 * i) ≤ N := Nat.div_le_self _ _
    refine wp_ok (cut := [87]) ma_113 rfl 14 _ _ _ _ ?_
    show (((nI i) = 0 → (Q (some (vi (-2))) σ ∧ σ.1 = σ.1)) ∧ (¬ (nI i) = 0 → (((lg_cmp (lN (N / 2 ^ (8 * i))) (lN 0)) = 0 → ((((hI σ 233 0 1) + (nI i)) ≤ (nI 160) → Sat true (d + 1) 113 σ.1 Q 87 [some (vr 233 0), some (vl (lN N)), none, some (vi (nI i)), some (vl (lN (N / 2 ^ (8 * i)))), none, some (vi (nI 0))] [] σ) ∧ (¬ ((hI σ 233 0 1) + (nI i)) ≤ (nI 160) → (Q (some (vi (-4))) σ ∧ σ.1 = σ.1)))) ∧ (¬ (lg_cmp (lN (N / 2 ^ (8 * i))) (lN 0)) = 0 → (Q (some (vi (-2))) σ ∧ σ.1 = σ.1)))))
    refine br_eq (b := 0) (by omega) (by omega) (fun h0 => ?_) (fun h0 => ?_)
    · rw [if_pos (Or.inl h0)] at hm
      have := keep (fun q => q.1 hm)
      unfold putV at this
      rw [if_pos hm] at this
      exact ⟨this, rfl⟩
    · rw [lg_cmp_eq, lz _ (by omega)]
      refine ⟨fun h1 => ?_, fun h1 => ?_⟩
      · rw [if_neg (fun q => by rcases q with q | q; exact h0 q; exact q h1)] at hm
        rw [hl, addN]
        refine br_le (by omega) (by omega) (fun h2 => ?_) (fun h2 => ?_)
        · subst hm
          refine Sat_no 4 (loop2 h0 h2 Q (fun h ph => ?_) (pkM N) 0 σ (by omega) (fun k hk => ?_) (Fr.rfl' _ _) (fun _ => rfl))
          · have := hq h ⟨Or.inl ⟨⟨h0, h2⟩, ph.1⟩, ph.2⟩
            unfold putV at this
            rw [if_neg h0, if_neg (by omega)] at this
            exact this
          · unfold putS
            rw [if_pos (by omega)]
            exact (hc k (by omega)).1
        · have := keep (fun q => by have := q.2; omega)
          unfold putV at this
          rw [if_neg (by omega), if_pos (by omega)] at this
          exact ⟨this, rfl⟩
      · rw [if_pos (Or.inr h1)] at hm
        have := keep (fun q => q.1 hm)
        unfold putV at this
        rw [if_pos hm] at this
        exact ⟨this, rfl⟩
  have loop1 : ∀ Q : Option AV → Hp → Prop, (∀ h, putP PadM n N t h ∧ Fr (fun f _ => f = 233 ∨ f = 234) σ h ∧ (∀ k, k ≠ 1 → hI h 233 0 k = hI σ 233 0 k) → Q (some (vi (putV n N))) h) → ∀ (k i : Nat), i + k = 8 → pkM N = pkN N k i → Sat true (d + 1) 113 σ.1 Q 5 [some (vr 233 0), some (vl (lN N)), none, some (vi (nI i)), some (vl (lN (N / 2 ^ (8 * i)))), none, none] [] σ := by
    intro Q hq k
    induction k with
    | zero =>
      intro i hi hm
      have hi : i = 8 := hi
      subst hi
      have kq := tail Q 8 (by omega) hq (by rw [hm, if_neg (fun q => by rcases q with q | q; cases q; exact q (Nat.div_eq_of_lt hN))]; rfl)
      refine wp_ok (cut := [5, 55]) ma_113 rfl 23 _ _ _ _ ?_
      show (((nI 8) ≤ (nI 8) → Sat true (d + 1) 113 σ.1 Q 55 [some (vr 233 0), some (vl (lN N)), none, some (vi (nI 8)), some (vl (lN (N / 2 ^ (8 * 8)))), none, none] [] σ) ∧ (¬ (nI 8) ≤ (nI 8) → (((lg_cmp ((lN (N / 2 ^ (8 * 8))) &&& (lN 255)) (lN 0)) = 0 → Sat true (d + 1) 113 σ.1 Q 55 [some (vr 233 0), some (vl (lN N)), none, some (vi (nI 8)), some (vl (lN (N / 2 ^ (8 * 8)))), none, none] [] σ) ∧ (¬ (lg_cmp ((lN (N / 2 ^ (8 * 8))) &&& (lN 255)) (lN 0)) = 0 → CalI true d 108 [vi (((lN (N / 2 ^ (8 * 8))) &&& (lN 255)).toInt32), vi (nI 33), vi (nI 126)] σ σ.1 (fun x2 s1 => ((¬ x2 = 0 → Sat true (d + 1) 113 σ.1 Q 5 [some (vr 233 0), some (vl (lN N)), none, some (vi ((nI 8) + nI 1)), some (vl (((lN (N / 2 ^ (8 * 8))).toUInt64 >>> ((nI 8).toInt64.toUInt64 &&& Int64.toUInt64 63)).toInt64)), none, none] [] s1) ∧ (x2 = 0 → (Q (some (vi (-2))) s1 ∧ s1.1 = σ.1))))))))
      exact ⟨fun _ => kq, fun h => absurd (by decide) h⟩
    | succ k ih =>
      intro i hi hm
      unfold pkN at hm
      have hd : N / 2 ^ (8 * i) ≤ N := Nat.div_le_self _ _
      have hb := byt_lt N i
      have hb2 : byt N i = N / 2 ^ (8 * i) % 256 := rfl
      refine wp_ok (cut := [5, 55]) ma_113 rfl 23 _ _ _ _ ?_
      show (((nI 8) ≤ (nI i) → Sat true (d + 1) 113 σ.1 Q 55 [some (vr 233 0), some (vl (lN N)), none, some (vi (nI i)), some (vl (lN (N / 2 ^ (8 * i)))), none, none] [] σ) ∧ (¬ (nI 8) ≤ (nI i) → (((lg_cmp ((lN (N / 2 ^ (8 * i))) &&& (lN 255)) (lN 0)) = 0 → Sat true (d + 1) 113 σ.1 Q 55 [some (vr 233 0), some (vl (lN N)), none, some (vi (nI i)), some (vl (lN (N / 2 ^ (8 * i)))), none, none] [] σ) ∧ (¬ (lg_cmp ((lN (N / 2 ^ (8 * i))) &&& (lN 255)) (lN 0)) = 0 → CalI true d 108 [vi (((lN (N / 2 ^ (8 * i))) &&& (lN 255)).toInt32), vi (nI 33), vi (nI 126)] σ σ.1 (fun x2 s1 => ((¬ x2 = 0 → Sat true (d + 1) 113 σ.1 Q 5 [some (vr 233 0), some (vl (lN N)), none, some (vi ((nI i) + nI 1)), some (vl (((lN (N / 2 ^ (8 * i))).toUInt64 >>> ((nI 8).toInt64.toUInt64 &&& Int64.toUInt64 63)).toInt64)), none, none] [] s1) ∧ (x2 = 0 → (Q (some (vi (-2))) s1 ∧ s1.1 = σ.1))))))))
      rw [by_m, ← hb2, lg_cmp_eq, lz _ (by omega), addN, wb_shr (by omega) (by omega), Nat.div_div_eq_div_mul, ← Nat.pow_add, show 8 * i + 8 = 8 * (i + 1) by omega, l2i_n (by omega)]
      refine br_le (by omega) (by omega) (fun h => by omega) (fun _ => ⟨fun h0 => ?_, fun h0 => ?_⟩)
      · refine tail Q i (by omega) hq ?_
        by_cases e : N / 2 ^ (8 * i) = 0
        · rw [if_pos e] at hm
          by_cases e2 : i = 0
          · rw [if_pos (Or.inl e2), hm, e2]
          · rw [if_neg (fun q => by rcases q with q | q; exact e2 q; exact q e), hm]
        · rw [if_neg e, if_neg (by omega)] at hm
          rw [if_pos (Or.inr e), hm]
      · rw [if_neg (by omega)] at hm
        refine cal_i (m_in d σ (by omega) (by omega) (by omega)) rfl ?_
        refine brN (fun h => ?_) (fun h => ?_)
        · have h := of_decide_eq_true h
          rw [if_pos h] at hm
          exact ih (i + 1) (by omega) hm
        · have h := of_decide_eq_false h
          rw [if_neg h] at hm
          have := hq σ ⟨Or.inr ⟨fun q => q.1 hm, hn, hl, hc⟩, Fr.rfl' _ _, fun _ _ => rfl⟩
          unfold putV at this
          rw [if_pos hm] at this
          exact ⟨this, rfl⟩
  refine PI_of mt_113 (Nat.le_of_ble_eq_true rfl) fun Q hq => ?_
  refine wp_ok (cut := [5]) ma_113 rfl 4 _ _ _ _ ?_
  show Sat true (d + 1) 113 σ.1 Q 5 [some (vr 233 0), some (vl (lN N)), none, some (vi (nI 0)), some (vl (lN N)), none, none] [] σ
  have := loop1 Q hq 8 0 rfl rfl
  rw [show N / 2 ^ (8 * 0) = N by rw [Nat.mul_zero, Nat.pow_zero, Nat.div_one]] at this
  exact this
theorem e_wipe (d : Nat) {σ : Hp} {n : Nat} {t : Nat → Nat} (hp : PdC σ n t) : EI d 70 [vr 1 0] σ (nI n) (setI σ 1 0 1 (nI 0)) := by
  refine EI_of mt_70 (Nat.le_of_ble_eq_true rfl) fun Q hq => ?_
  refine wp_ok (cut := []) ma_70 rfl 8 _ _ _ _ ?_
  show (Q (some (vi (hI σ 1 0 1))) (setI σ 1 0 1 (nI 0)) ∧ σ.1 = σ.1)
  rw [hp.2]
  exact ⟨hq, rfl⟩
theorem m_wipe (d : Nat) {σ : Hp} {n : Nat} {t : Nat → Nat} (hp : PadM σ n t) : EI d 114 [vr 233 0] σ (nI n) (setI σ 233 0 1 (nI 0)) := by
  refine EI_of mt_114 (Nat.le_of_ble_eq_true rfl) fun Q hq => ?_
  refine wp_ok (cut := []) ma_114 rfl 8 _ _ _ _ ?_
  show (Q (some (vi (hI σ 233 0 1))) (setI σ 233 0 1 (nI 0)) ∧ σ.1 = σ.1)
  rw [hp.2.1]
  exact ⟨hq, rfl⟩
def faultV (t : Nat → Nat) (n : Nat) (x : Int32) : Int32 := if x = 0 then fI (pageF t n) else if x = nI 1 then fI (redF t n) else (-2)
theorem rh_fr (σ : Hp) (n a : Nat) : Fr (fun f _ => f = 5) σ (rh σ n a) := (((Fr.rfl' (fun f _ => f = 5) σ).sR rfl _ _).sI rfl _ _).sI rfl _ _
theorem mr_fr (σ : Hp) (a : Nat) (g : Nat → Int32) : Fr (fun f _ => f = 233 ∨ f = 237) σ (mr σ a g) := ((Fr.rfl' _ σ).aI (Or.inr rfl) _).sI (Or.inl rfl) _ _
theorem e_fault (d : Nat) {σ : Hp} {n : Nat} {t : Nat → Nat} (hp : PdC σ n t) (x : Int32) : PI (d + 6) 71 [vr 1 0, vi x] σ (faultV t n x) (fun h => Fr (fun f _ => f = 5) σ h) := by
  refine PI_of mt_71 (Nat.le_of_ble_eq_true rfl) fun Q hq => ?_
  obtain ⟨h1, h2⟩ := hp
  unfold faultV at hq
  refine wp_ok (cut := []) ma_71 rfl 16 _ _ _ _ ?_
  show ((x = 0 → ((¬ x = 0 → CalI true (d + 5) 30 [vr 5 0, vr 2 0, vi (hI σ 1 0 1)] σ σ.1 (fun x2 s1 => (Q (some (vi x2)) s1 ∧ s1.1 = σ.1))) ∧ (x = 0 → CalI true (d + 5) 29 [vr 5 0, vr 2 0, vi (hI σ 1 0 1)] σ σ.1 (fun x4 s3 => (Q (some (vi x4)) s3 ∧ s3.1 = σ.1))))) ∧ (¬ x = 0 → ((x = (nI 1) → ((¬ x = 0 → CalI true (d + 5) 30 [vr 5 0, vr 2 0, vi (hI σ 1 0 1)] σ σ.1 (fun x6 s5 => (Q (some (vi x6)) s5 ∧ s5.1 = σ.1))) ∧ (x = 0 → CalI true (d + 5) 29 [vr 5 0, vr 2 0, vi (hI σ 1 0 1)] σ σ.1 (fun x8 s7 => (Q (some (vi x8)) s7 ∧ s7.1 = σ.1))))) ∧ (¬ x = (nI 1) → (Q (some (vi (-2))) σ ∧ σ.1 = σ.1)))))
  rw [h2]
  have c1 : PI (d + 5) 29 [vr 5 0, vr 2 0, vi (nI n)] σ (fI (pageF t n)) (fun h => RdH σ n h) := e_pageFault d h1
  have c2 : PI (d + 5) 30 [vr 5 0, vr 2 0, vi (nI n)] σ (fI (redF t n)) (fun h => RdH σ n h) := e_redirectFault (d + 1) h1
  refine ⟨fun h0 => ⟨fun g => absurd h0 g, fun _ => ?_⟩, fun h0 => ⟨fun g0 => ⟨fun _ => ?_, fun g => absurd g h0⟩, fun g0 => ?_⟩⟩
  · rw [if_pos h0] at hq
    refine cp_i c1 rfl fun h ph e => ⟨hq h ?_, e⟩
    obtain ⟨a, rfl⟩ := ph
    exact rh_fr σ n a
  · rw [if_neg h0, if_pos g0] at hq
    refine cp_i c2 rfl fun h ph e => ⟨hq h ?_, e⟩
    obtain ⟨a, rfl⟩ := ph
    exact rh_fr σ n a
  · rw [if_neg h0, if_neg g0] at hq
    exact ⟨hq σ (Fr.rfl' _ _), rfl⟩
theorem wb_of32' (x : Int32) : ∃ n, n < 2 ^ 32 ∧ x = nI n := ⟨x.toBitVec.toNat, x.toBitVec.isLt, Int32.toBitVec_inj.mp (by show _ = BitVec.ofNat 32 _; simp)⟩
theorem mr_self (σ : Hp) : ∃ a, σ = mr σ a (hI σ 237 0) := by
  obtain ⟨a, _, ha⟩ := wb_of32' (hI σ 233 0 6)
  refine ⟨a, ?_⟩
  unfold mr
  rw [arrI_self, ← ha, setI_self]
theorem m_page (d : Nat) {σ : Hp} {n : Nat} {t : Nat → Nat} (hp : PadM σ n t) : ∃ h, EI (d + 8) 129 [vr 233 0] σ (fI (pageF t n)) h ∧ Fr (fun f _ => f = 233 ∨ f = 237) σ h ∧ ∀ k, k ≠ 6 → hI h 233 0 k = hI σ 233 0 k := by
  obtain ⟨a, ha⟩ := mr_self σ
  obtain ⟨a', g', k⟩ := m_faultOfPage d hp a (hI σ 237 0)
  rw [← ha, ← pageF_eq] at k
  exact ⟨_, k, mr_fr σ a' g', fun j hj => hI_k _ _ _ _ hj⟩
theorem m_turn (d : Nat) {σ : Hp} {n : Nat} {t : Nat → Nat} (hp : PadM σ n t) : ∃ h, EI (d + 6) 131 [vr 233 0] σ (fI (redF t n)) h ∧ (redF t n = none → RowP (hI h 238 0) 0 (t 0 - 65) (plTx t n 0) ∧ RowP (hI h 238 0) 14 (t (redB t n) - 65) (plTx t n (redB t n))) ∧ Fr (fun f _ => f = 233 ∨ f = 237 ∨ f = 238) σ h ∧ ∀ k, k ≠ 6 → hI h 233 0 k = hI σ 233 0 k := by
  obtain ⟨a, ha⟩ := mr_self σ
  obtain ⟨a', u', g', r, k⟩ := m_faultOfRedirect d hp a (hI σ 237 0) (hI σ 238 0)
  rw [arrI_self, ← ha, ← redF_eq] at k
  rw [← redF_eq] at r
  have e : hI (mr (arrI σ 238 0 u') a' g') 238 0 = u' := by
    unfold mr
    rw [hI_f _ _ _ (Or.inl (by decide)), hI_af _ _ (Or.inl (by decide)), hI_a]
  refine ⟨_, k, fun q => by rw [e]; exact r q, ?_, fun j hj => hI_k _ _ _ _ hj⟩
  exact ((((Fr.rfl' (fun f _ => f = 233 ∨ f = 237 ∨ f = 238) σ).aI (Or.inr (Or.inr rfl)) u').aI (Or.inr (Or.inl rfl)) g').sI (Or.inl rfl) 6 (nI a'))
theorem m_fault (d : Nat) {σ : Hp} {n : Nat} {t : Nat → Nat} (hp : PadM σ n t) (x : Int32) : PI (d + 9) 132 [vr 233 0, vi x] σ (faultV t n x) (fun h => Fr (fun f _ => f = 233 ∨ f = 237 ∨ f = 238) σ h ∧ ∀ k, k ≠ 6 → hI h 233 0 k = hI σ 233 0 k) := by
  refine PI_of mt_132 (Nat.le_of_ble_eq_true rfl) fun Q hq => ?_
  unfold faultV at hq
  obtain ⟨h1, k1, f1, g1⟩ := m_page d hp
  obtain ⟨h2, k2, _, f2, g2⟩ := m_turn (d + 2) hp
  refine wp_ok (cut := []) ma_132 rfl 9 _ _ _ _ ?_
  show ((¬ x = 0 → ((¬ x = (nI 1) → (Q (some (vi (-2))) σ ∧ σ.1 = σ.1)) ∧ (x = (nI 1) → CalI true (d + 8) 131 [vr 233 0] σ σ.1 (fun x2 s1 => (Q (some (vi x2)) s1 ∧ s1.1 = σ.1))))) ∧ (x = 0 → CalI true (d + 8) 129 [vr 233 0] σ σ.1 (fun x4 s3 => (Q (some (vi x4)) s3 ∧ s3.1 = σ.1))))
  refine ⟨fun h0 => ⟨fun g0 => ?_, fun g0 => ?_⟩, fun h0 => ?_⟩
  · rw [if_neg h0, if_neg g0] at hq
    exact ⟨hq σ ⟨Fr.rfl' _ _, fun _ _ => rfl⟩, rfl⟩
  · rw [if_neg h0, if_pos g0] at hq
    exact cal_i k2 rfl ⟨hq h2 ⟨f2, g2⟩, f2.1⟩
  · rw [if_pos h0] at hq
    exact cal_i k1 rfl ⟨hq h1 ⟨f1.mo fun f p s => s.elim Or.inl fun q => Or.inr (Or.inl q), g1⟩, f1.1⟩
end
section
/-! what a page's lines give: kinds, includes, sections, links; the class's Outline -/
theorem hI_sL (h : Hp) (f p k : Nat) (x : Int64) : hI (setL h f p k x) = hI h := rfl
theorem hL_sI (h : Hp) (f p k : Nat) (x : Int32) : hL (setI h f p k x) = hL h := rfl
def All {α : Type} (l : List α) (P : Nat → α → Prop) : Prop := ∀ j x, l[j]? = some x → P j x
theorem All_snoc {α : Type} {l : List α} {P P' : Nat → α → Prop} {y : α} (h : All l P) (m : ∀ j x, j < l.length → P j x → P' j x) (e : P' l.length y) : All (l ++ [y]) P' := by
  intro j x hx
  by_cases q : j < l.length
  · rw [List.getElem?_append_left q] at hx
    exact m j x q (h j x hx)
  · rw [List.getElem?_append_right (by omega)] at hx
    obtain ⟨q2, hx⟩ := List.getElem?_eq_some_iff.mp hx
    have q2 : j - l.length < 1 := q2
    have e2 : j = l.length := by omega
    subst e2
    have e3 : l.length - l.length = 0 := Nat.sub_self _
    have hx : [y][l.length - l.length] = x := hx
    simp only [e3, List.getElem_cons_zero] at hx
    rw [← hx]
    exact e
theorem All_nil {α : Type} {P : Nat → α → Prop} : All ([] : List α) P := fun j x h => by cases h
theorem All_lt {α : Type} {l : List α} {j : Nat} {x : α} (h : l[j]? = some x) : j < l.length := (List.getElem?_eq_some_iff.mp h).1
theorem All_mo {α : Type} {l : List α} {P P' : Nat → α → Prop} (h : All l P) (m : ∀ j x, j < l.length → P j x → P' j x) : All l P' := fun j x hx => m j x (All_lt hx) (h j x hx)
def dgF (s : Nat) (w : List Nat) : Nat := w.foldl (fun s c => (31 * s + c) % 1000003) s
def dg (s : Nat) (w : List Nat) : Nat := dgF ((31 * s + 59) % 1000003) w
theorem dgF_lt : ∀ (w : List Nat) (s : Nat), s < 1000003 → dgF s w < 1000003 := by
  intro w
  induction w with
  | nil => intro s h; exact h
  | cons c w ih => intro s _; exact ih _ (Nat.mod_lt _ (by decide))
theorem dg_lt (s : Nat) (w : List Nat) : dg s w < 1000003 := dgF_lt _ _ (Nat.mod_lt _ (by decide))
def isInc (l : Line) : Bool := match l with
  | .inr (.inl _) => true
  | _ => false
def stI (n : Nat) (l : Line) : Nat := match l with
  | .inr (.inl _) => n + 1
  | _ => n
def stM (m : Int32) (l : Line) : Int32 := match l with
  | .inr (.inl (p, _)) => m ||| bit p
  | _ => m
def grow (sc : List (Nat × Nat)) (w : List Nat) : List (Nat × Nat) := match sc.getLast? with
  | none => sc
  | some s => sc.dropLast ++ [(s.1 + 1, dg s.2 w)]
def stS (sc : List (Nat × Nat)) (l : Line) : List (Nat × Nat) := match l with
  | .inl _ => sc ++ [(0, 7)]
  | l => grow sc (txLine l)
def nInc (ls : List Line) : Nat := ls.foldl stI 0
def mInc (ls : List Line) : Int32 := ls.foldl stM (nI 0)
def secs (ls : List Line) : List (Nat × Nat) := ls.foldl stS []
theorem grow_nil (w : List Nat) : grow [] w = [] := rfl
theorem grow_sn (a : List (Nat × Nat)) (s : Nat × Nat) (w : List Nat) : grow (a ++ [s]) w = a ++ [(s.1 + 1, dg s.2 w)] := by
  have h1 : (a ++ [s]).getLast? = some s := by simp
  have h2 : (a ++ [s]).dropLast = a := by simp
  unfold grow
  rw [h1]
  show (a ++ [s]).dropLast ++ _ = _
  rw [h2]
/-- bounds: lines, sections, links of a text of n signs -/
theorem txName_len {w : List Nat} (h : gName w) : 1 ≤ w.length := (gName_r h).2.1
theorem txEl_len {e : Elem} (h : gEl e) : 1 ≤ (txEl e).length := by
  rcases e with w | ⟨l, a⟩
  · exact txName_len h
  · show 1 ≤ (91 :: _).length
    rw [List.length_cons]; omega
theorem txEls_len : ∀ {es : List Elem}, es ≠ [] → (∀ e ∈ es, gEl e) → 1 ≤ (txEls es).length := by
  intro es hn hg
  cases es with
  | nil => exact absurd rfl hn
  | cons e r =>
    have := txEl_len (hg e List.mem_cons_self)
    cases r with
    | nil => exact this
    | cons f r =>
      show 1 ≤ (txEl e ++ 44 :: txEls (f :: r)).length
      rw [List.length_append]; omega
theorem txLine_len {l : Line} (h : gLine l) : 1 ≤ (txLine l).length := by
  rcases l with ⟨v, w⟩ | ⟨p, s⟩ | es
  · show 1 ≤ (List.replicate v 61 ++ w).length
    rw [List.length_append]
    have := txName_len h.2.2
    omega
  · cases s <;> exact Nat.le_of_ble_eq_true rfl
  · exact txEls_len h.1 h.2
theorem txPg_cons (l : Line) {r : List Line} (h : r ≠ []) : txPg (l :: r) = txLine l ++ 59 :: txPg r := by
  cases r with
  | nil => exact absurd rfl h
  | cons a b => rfl
theorem txPg_len : ∀ {ls : List Line}, gPg ls → 2 * ls.length ≤ (txPg ls).length + 1 := by
  intro ls
  induction ls with
  | nil => intro _; exact Nat.zero_le _
  | cons l r ih =>
    intro h
    have h1 := txLine_len (h l List.mem_cons_self)
    have h2 := ih fun x hx => h x (List.mem_cons_of_mem _ hx)
    cases r with
    | nil => show 2 * 1 ≤ (txLine l).length + 1; omega
    | cons a b =>
      have e1 : (txPg (l :: a :: b)).length = (txLine l).length + ((txPg (a :: b)).length + 1) := by
        rw [txPg_cons l (fun q => by cases q), List.length_append, List.length_cons]
      have e2 : (l :: a :: b).length = (a :: b).length + 1 := rfl
      omega
def KindC (σ : Hp) (p j : Nat) (l : Line) : Prop := match l with
  | .inl (v, w) => hI σ 22 p j = nI v ∧ hL σ 23 p j = lN (nmC w)
  | .inr (.inl (q, s)) => hI σ 22 p j = (-1) ∧ hI σ 24 p j = nI q ∧ hI σ 25 p j = nI (s.getD 0)
  | .inr (.inr _) => hI σ 22 p j = nI 0
def SecC (σ : Hp) (p j : Nat) (s : Nat × Nat) : Prop := hI σ 30 p j = nI s.1 ∧ hI σ 31 p j = nI s.2 ∧ s.2 < 1000003 ∧ s.1 < 1000
theorem remD {k : Nat} (h : k < 2147483648) : nI k - nI k / nI 1000003 * nI 1000003 = nI (k % 1000003) := pk_rem h (by decide) (by decide)
theorem s_grow (d : Nat) (h : Hp) {p s : Nat} {c : Int32} (hp : p < 12) (hs : s < 53) (fr to : Int32) (W : Nat) (hc : hI h 30 p s = c) : ∀ (w : List Nat) (a v x : Nat), small w → Tx (hI h 9 0) a w → a + w.length = x → x ≤ 1920 → v < 1000003 → dgF v w = W → ∀ Q : Option AV → Hp → Prop, Q none (setI (setI h 31 p s (nI W)) 30 p s (c + nI 1)) → Sat true d 27 h.1 Q 29 [some (vr 21 p), some (vr 9 0), some (vi fr), some (vi (nI x)), some (vi (nI s)), some (vi (nI v)), some (vi (nI a))] [] h := by
  intro w
  induction w with
  | nil =>
    intro a v x hw ht hx hN hv hW Q hq
    have hx : a = x := hx
    have hW : v = W := hW
    subst hx
    subst hW
    refine wp_ok (cut := [29]) ma_27 rfl 17 _ _ _ _ ?_
    show (((nI a) ≤ (nI a) → (p < 12 ∧ (p < 12 ∧ (vp_in (nI s) 53 ∧ (p < 12 ∧ (p < 12 ∧ (vp_in (nI s) 53 ∧ (p < 12 ∧ (vp_in (nI s) 53 ∧ (Q none (setI (setI h 31 p ((nI s).toNatClampNeg) (nI v)) 30 p ((nI s).toNatClampNeg) ((hI h 30 p ((nI s).toNatClampNeg)) + (nI 1))) ∧ h.1 = h.1)))))))))) ∧ (¬ (nI a) ≤ (nI a) → (vp_in (nI a) 1920 ∧ (¬ (nI 1000003) = 0 ∧ Sat true d 27 h.1 Q 29 [some (vr 21 p), some (vr 9 0), some (vi fr), some (vi (nI a)), some (vi (nI s)), some (vi ((((nI 31) * (nI v)) + (hI h 9 0 ((nI a).toNatClampNeg))) - (((nI 31) * (nI v)) + (hI h 9 0 ((nI a).toNatClampNeg))) / (nI 1000003) * (nI 1000003))), some (vi ((nI a) + nI 1))] [] h))))
    refine ⟨fun _ => ?_, fun g => absurd (Int32.le_refl _) g⟩
    rw [ix (by omega), hc]
    exact ⟨hp, hp, inb (by omega) (by omega), hp, hp, inb (by omega) (by omega), hp, inb (by omega) (by omega), hq, rfl⟩
  | cons y w ih =>
    intro a v x hw ht hx hN hv hW Q hq
    obtain ⟨t1, t2⟩ := ht
    rw [List.length_cons] at hx
    have hy : y < 128 := hw y List.mem_cons_self
    have kq := ih (a + 1) ((31 * v + y) % 1000003) x (fun z hz => hw z (List.mem_cons_of_mem _ hz)) t2 (by omega) hN (Nat.mod_lt _ (by decide)) hW Q hq
    refine wp_ok (cut := [29]) ma_27 rfl 17 _ _ _ _ ?_
    show (((nI x) ≤ (nI a) → (p < 12 ∧ (p < 12 ∧ (vp_in (nI s) 53 ∧ (p < 12 ∧ (p < 12 ∧ (vp_in (nI s) 53 ∧ (p < 12 ∧ (vp_in (nI s) 53 ∧ (Q none (setI (setI h 31 p ((nI s).toNatClampNeg) (nI v)) 30 p ((nI s).toNatClampNeg) ((hI h 30 p ((nI s).toNatClampNeg)) + (nI 1))) ∧ h.1 = h.1)))))))))) ∧ (¬ (nI x) ≤ (nI a) → (vp_in (nI a) 1920 ∧ (¬ (nI 1000003) = 0 ∧ Sat true d 27 h.1 Q 29 [some (vr 21 p), some (vr 9 0), some (vi fr), some (vi (nI x)), some (vi (nI s)), some (vi ((((nI 31) * (nI v)) + (hI h 9 0 ((nI a).toNatClampNeg))) - (((nI 31) * (nI v)) + (hI h 9 0 ((nI a).toNatClampNeg))) / (nI 1000003) * (nI 1000003))), some (vi ((nI a) + nI 1))] [] h))))
    refine br_le (by omega) (by omega) (fun g => by omega) (fun _ => ?_)
    rw [ix (by omega), t1, mulN, addN, remD (by omega), addN]
    exact ⟨inb (by omega) (by omega), by decide, kq⟩
theorem e_growSection (d : Nat) (h : Hp) {p s g a x : Nat} {w : List Nat} {c : Int32} (hp : p < 12) (hs : s < 53) (h13 : hI h 21 p 13 = nI (s + 1)) (hg : hI h 31 p s = nI g) (hg2 : g < 1000003) (hc : hI h 30 p s = c) (hw : small w) (ht : Tx (hI h 9 0) a w) (hx : x = a + w.length) (hN : x ≤ 1920) : EV d 27 [vr 21 p, vr 9 0, vi (nI a), vi (nI x)] h (setI (setI h 31 p s (nI (dg g w))) 30 p s (c + nI 1)) := by
  refine EV_of mt_27 (Nat.le_of_ble_eq_true rfl) fun Q hq => ?_
  refine wp_ok (cut := [29]) ma_27 rfl 18 _ _ _ _ ?_
  show (p < 12 ∧ (p < 12 ∧ (p < 12 ∧ (vp_in ((hI h 21 p 13) - (nI 1)) 53 ∧ (¬ (nI 1000003) = 0 ∧ Sat true d 27 h.1 Q 29 [some (vr 21 p), some (vr 9 0), some (vi (nI a)), some (vi (nI x)), some (vi ((hI h 21 p 13) - (nI 1))), some (vi ((((nI 31) * (hI h 31 p (((hI h 21 p 13) - (nI 1)).toNatClampNeg))) + (nI 59)) - (((nI 31) * (hI h 31 p (((hI h 21 p 13) - (nI 1)).toNatClampNeg))) + (nI 59)) / (nI 1000003) * (nI 1000003))), some (vi (nI a))] [] h)))))
  rw [h13, subN (by omega), show s + 1 - 1 = s by omega, ix (by omega), hg, mulN, addN, remD (by omega)]
  exact ⟨hp, hp, hp, inb (by omega) (by omega), by decide, s_grow d h hp hs (nI a) (nI x) (dg g w) hc w a _ x hw ht hx.symm hN (Nat.mod_lt _ (by decide)) rfl Q hq⟩
set_option maxRecDepth 4000 in
theorem s_eqs (d : Nat) (h : Hp) {p j s o x : Nat} {w : List Nat} (hp : p < 12) (hj : j < 80) (hs : s < 53) (h1 : hI h 21 p 1 = nI j) (h13 : hI h 21 p 13 = nI s) (hw : gName w) {V : Nat} : ∀ (v a : Nat), a + v = o + V → V ≤ 3 → o ≤ a → Tx (hI h 9 0) a (List.replicate v 61 ++ w) → x = a + v + w.length → x ≤ 1920 → ∀ Q : Option AV → Hp → Prop, Q none (setI (setI (setI (setL (setI h 22 p j (nI V)) 23 p j (lN (nmC w))) 30 p s (nI 0)) 31 p s (nI 7)) 21 p 13 (nI (s + 1))) → Sat true (d + 1) 24 h.1 Q 3 [some (vr 21 p), some (vr 9 0), some (vi (nI o)), some (vi (nI x)), some (vi (nI a))] [] h := by
  intro v
  induction v with
  | zero =>
    intro a ha hV hoa ht hx hN Q hq
    have ht : Tx (hI h 9 0) a w := ht
    obtain ⟨n1, n2, n3⟩ := gName_r hw
    obtain ⟨c, r, rfl, hc, _⟩ := hw
    have t1 := ht.1
    obtain ⟨c1, c2⟩ := hc
    rw [List.length_cons] at hx
    have hw' : gName (c :: r) := ⟨c, r, rfl, ⟨c1, c2⟩, (gRest_c n1).2, by rw [List.length_cons] at n3; omega⟩
    refine wp_ok (cut := [3]) ma_24 rfl 48 _ _ _ _ ?_
    show (((nI x) ≤ (nI a) → (p < 12 ∧ (p < 12 ∧ (p < 12 ∧ (vp_in (hI h 21 p 1) 80 ∧ (p < 12 ∧ (p < 12 ∧ CalL true d 0 [vr 9 0, vi (nI a), vi (nI x)] (setI h 22 p ((hI h 21 p 1).toNatClampNeg) ((nI a) - (nI o))) h.1 (fun x2 s1 => (p < 12 ∧ (vp_in (hI h 21 p 1) 80 ∧ (p < 12 ∧ (((nI 53) ≤ (hI s1 21 p 13) → (Q none (setL s1 23 p ((hI h 21 p 1).toNatClampNeg) x2) ∧ s1.1 = h.1)) ∧ (¬ (nI 53) ≤ (hI s1 21 p 13) → (p < 12 ∧ (p < 12 ∧ (p < 12 ∧ (vp_in (hI s1 21 p 13) 53 ∧ (p < 12 ∧ (p < 12 ∧ (p < 12 ∧ (vp_in (hI s1 21 p 13) 53 ∧ (p < 12 ∧ (p < 12 ∧ (Q none (setI (setI (setI (setL s1 23 p ((hI h 21 p 1).toNatClampNeg) x2) 30 p ((hI s1 21 p 13).toNatClampNeg) (nI 0)) 31 p ((hI s1 21 p 13).toNatClampNeg) (nI 7)) 21 p 13 ((hI s1 21 p 13) + (nI 1))) ∧ s1.1 = h.1)))))))))))))))))))))))) ∧ (¬ (nI x) ≤ (nI a) → (vp_in (nI a) 1920 ∧ ((¬ (hI h 9 0 ((nI a).toNatClampNeg)) = (nI 61) → (p < 12 ∧ (p < 12 ∧ (p < 12 ∧ (vp_in (hI h 21 p 1) 80 ∧ (p < 12 ∧ (p < 12 ∧ CalL true d 0 [vr 9 0, vi (nI a), vi (nI x)] (setI h 22 p ((hI h 21 p 1).toNatClampNeg) ((nI a) - (nI o))) h.1 (fun x4 s3 => (p < 12 ∧ (vp_in (hI h 21 p 1) 80 ∧ (p < 12 ∧ (((nI 53) ≤ (hI s3 21 p 13) → (Q none (setL s3 23 p ((hI h 21 p 1).toNatClampNeg) x4) ∧ s3.1 = h.1)) ∧ (¬ (nI 53) ≤ (hI s3 21 p 13) → (p < 12 ∧ (p < 12 ∧ (p < 12 ∧ (vp_in (hI s3 21 p 13) 53 ∧ (p < 12 ∧ (p < 12 ∧ (p < 12 ∧ (vp_in (hI s3 21 p 13) 53 ∧ (p < 12 ∧ (p < 12 ∧ (Q none (setI (setI (setI (setL s3 23 p ((hI h 21 p 1).toNatClampNeg) x4) 30 p ((hI s3 21 p 13).toNatClampNeg) (nI 0)) 31 p ((hI s3 21 p 13).toNatClampNeg) (nI 7)) 21 p 13 ((hI s3 21 p 13) + (nI 1))) ∧ s3.1 = h.1)))))))))))))))))))))))) ∧ ((hI h 9 0 ((nI a).toNatClampNeg)) = (nI 61) → Sat true (d + 1) 24 h.1 Q 3 [some (vr 21 p), some (vr 9 0), some (vi (nI o)), some (vi (nI x)), some (vi ((nI a) + nI 1))] [] h)))))
    refine br_le (by omega) (by omega) (fun g => by omega) (fun _ => ?_)
    rw [ix (by omega), t1]
    refine ⟨inb (by omega) (by omega), br_ne (by omega) (by omega) (fun _ => ?_) (fun g => by omega)⟩
    rw [h1, ix (by omega), subN (by omega), show a - o = V by omega]
    refine ⟨hp, hp, hp, inb (by omega) (by omega), hp, hp, ?_⟩
    have e21 : hI (setI h 22 p j (nI V)) 21 p 1 = nI j := h1
    have t9 : Tx (hI (setI h 22 p j (nI V)) 9 0) a (c :: r) := ht
    refine cal_l (e_nameIn9 d hw' t9 (by rw [List.length_cons]; omega) hN) rfl ?_
    have g1 : hI (setI h 22 p j (nI V)) 21 p 13 = nI s := h13
    have g2 : hI (setL (setI h 22 p j (nI V)) 23 p j (lN (nmC (c :: r)))) 21 p 13 = nI s := h13
    have g3 : hI (setI (setI (setL (setI h 22 p j (nI V)) 23 p j (lN (nmC (c :: r)))) 30 p s (nI 0)) 31 p s (nI 7)) 21 p 13 = nI s := h13
    simp only [hp, true_and]
    rw [g1]
    refine ⟨inb (by omega) (by omega), br_le (by omega) (by omega) (fun g => by omega) (fun _ => ?_)⟩
    rw [ix (by omega), addN]
    exact ⟨inb (by omega) (by omega), inb (by omega) (by omega), hq, rfl⟩
  | succ v ih =>
    intro a ha hV hoa ht hx hN Q hq
    obtain ⟨t1, t2⟩ := (show hI h 9 0 a = nI 61 ∧ Tx (hI h 9 0) (a + 1) (List.replicate v 61 ++ w) from ht)
    have kq := ih (a + 1) (by omega) hV (by omega) t2 (by omega) hN Q hq
    refine wp_ok (cut := [3]) ma_24 rfl 48 _ _ _ _ ?_
    show (((nI x) ≤ (nI a) → (p < 12 ∧ (p < 12 ∧ (p < 12 ∧ (vp_in (hI h 21 p 1) 80 ∧ (p < 12 ∧ (p < 12 ∧ CalL true d 0 [vr 9 0, vi (nI a), vi (nI x)] (setI h 22 p ((hI h 21 p 1).toNatClampNeg) ((nI a) - (nI o))) h.1 (fun x2 s1 => (p < 12 ∧ (vp_in (hI h 21 p 1) 80 ∧ (p < 12 ∧ (((nI 53) ≤ (hI s1 21 p 13) → (Q none (setL s1 23 p ((hI h 21 p 1).toNatClampNeg) x2) ∧ s1.1 = h.1)) ∧ (¬ (nI 53) ≤ (hI s1 21 p 13) → (p < 12 ∧ (p < 12 ∧ (p < 12 ∧ (vp_in (hI s1 21 p 13) 53 ∧ (p < 12 ∧ (p < 12 ∧ (p < 12 ∧ (vp_in (hI s1 21 p 13) 53 ∧ (p < 12 ∧ (p < 12 ∧ (Q none (setI (setI (setI (setL s1 23 p ((hI h 21 p 1).toNatClampNeg) x2) 30 p ((hI s1 21 p 13).toNatClampNeg) (nI 0)) 31 p ((hI s1 21 p 13).toNatClampNeg) (nI 7)) 21 p 13 ((hI s1 21 p 13) + (nI 1))) ∧ s1.1 = h.1)))))))))))))))))))))))) ∧ (¬ (nI x) ≤ (nI a) → (vp_in (nI a) 1920 ∧ ((¬ (hI h 9 0 ((nI a).toNatClampNeg)) = (nI 61) → (p < 12 ∧ (p < 12 ∧ (p < 12 ∧ (vp_in (hI h 21 p 1) 80 ∧ (p < 12 ∧ (p < 12 ∧ CalL true d 0 [vr 9 0, vi (nI a), vi (nI x)] (setI h 22 p ((hI h 21 p 1).toNatClampNeg) ((nI a) - (nI o))) h.1 (fun x4 s3 => (p < 12 ∧ (vp_in (hI h 21 p 1) 80 ∧ (p < 12 ∧ (((nI 53) ≤ (hI s3 21 p 13) → (Q none (setL s3 23 p ((hI h 21 p 1).toNatClampNeg) x4) ∧ s3.1 = h.1)) ∧ (¬ (nI 53) ≤ (hI s3 21 p 13) → (p < 12 ∧ (p < 12 ∧ (p < 12 ∧ (vp_in (hI s3 21 p 13) 53 ∧ (p < 12 ∧ (p < 12 ∧ (p < 12 ∧ (vp_in (hI s3 21 p 13) 53 ∧ (p < 12 ∧ (p < 12 ∧ (Q none (setI (setI (setI (setL s3 23 p ((hI h 21 p 1).toNatClampNeg) x4) 30 p ((hI s3 21 p 13).toNatClampNeg) (nI 0)) 31 p ((hI s3 21 p 13).toNatClampNeg) (nI 7)) 21 p 13 ((hI s3 21 p 13) + (nI 1))) ∧ s3.1 = h.1)))))))))))))))))))))))) ∧ ((hI h 9 0 ((nI a).toNatClampNeg)) = (nI 61) → Sat true (d + 1) 24 h.1 Q 3 [some (vr 21 p), some (vr 9 0), some (vi (nI o)), some (vi (nI x)), some (vi ((nI a) + nI 1))] [] h)))))
    refine br_le (by omega) (by omega) (fun g => by omega) (fun _ => ?_)
    rw [ix (by omega), t1, addN]
    exact ⟨inb (by omega) (by omega), fun g => absurd rfl g, fun _ => kq⟩
theorem e_addHeading (d : Nat) (h : Hp) {p j s o x v : Nat} {w : List Nat} (hp : p < 12) (hj : j < 80) (hs : s < 53) (h1 : hI h 21 p 1 = nI j) (h13 : hI h 21 p 13 = nI s) (hw : gName w) (hv : v ≤ 3) (ht : Tx (hI h 9 0) o (List.replicate v 61 ++ w)) (hx : x = o + v + w.length) (hN : x ≤ 1920) : EV (d + 1) 24 [vr 21 p, vr 9 0, vi (nI o), vi (nI x)] h (setI (setI (setI (setL (setI h 22 p j (nI v)) 23 p j (lN (nmC w))) 30 p s (nI 0)) 31 p s (nI 7)) 21 p 13 (nI (s + 1))) := by
  refine EV_of mt_24 (Nat.le_of_ble_eq_true rfl) fun Q hq => ?_
  refine wp_ok (cut := [3]) ma_24 rfl 2 _ _ _ _ ?_
  show Sat true (d + 1) 24 h.1 Q 3 [some (vr 21 p), some (vr 9 0), some (vi (nI o)), some (vi (nI x)), some (vi (nI o))] [] h
  exact s_eqs d h hp hj hs h1 h13 hw v o rfl hv (Nat.le_refl _) ht hx hN Q hq
set_option maxRecDepth 4000 in
theorem e_addInclude (d : Nat) (h : Hp) {p j k o x q : Nat} {s : Option Nat} (hp : p < 12) (hj : j < 80) (h1 : hI h 21 p 1 = nI j) (h6 : hI h 21 p 6 = nI k) (hq12 : q < 12) (hs : ∀ y, s = some y → y ≤ 2) (ht : Tx (hI h 9 0) o (txInc q s)) (hx : x = o + (txInc q s).length) (hN : x ≤ 1920) : EV d 25 [vr 21 p, vr 9 0, vi (nI o), vi (nI x)] h (setI (setI (setI (setI (setI h 22 p j (-1)) 24 p j (nI q)) 25 p j (nI (s.getD 0))) 21 p 6 (nI (k + 1))) 21 p 7 (hI h 21 p 7 ||| bit q)) := by
  refine EV_of mt_25 (Nat.le_of_ble_eq_true rfl) fun Q hq => ?_
  have t1 : hI h 9 0 (o + 1) = nI (65 + q) := by
    cases s with
    | none => exact ht.2.1
    | some y => exact ht.2.1
  refine wp_ok (cut := []) ma_25 rfl 66 _ _ _ _ ?_
  show ((((nI x) - (nI o)) ≤ (nI 4) → (p < 12 ∧ (p < 12 ∧ (p < 12 ∧ (vp_in (hI h 21 p 1) 80 ∧ (p < 12 ∧ (p < 12 ∧ ((((nI x) - (nI o)) ≤ (nI 1) → (p < 12 ∧ (p < 12 ∧ (vp_in (hI h 21 p 1) 80 ∧ (p < 12 ∧ (p < 12 ∧ (((nI 0) = 0 → (p < 12 ∧ (vp_in (hI h 21 p 1) 80 ∧ (p < 12 ∧ (p < 12 ∧ (p < 12 ∧ (p < 12 ∧ (p < 12 ∧ (p < 12 ∧ (vp_in (hI (setI (setI (setI (setI h 22 p ((hI h 21 p 1).toNatClampNeg) (-1)) 24 p ((hI h 21 p 1).toNatClampNeg) (hI h 21 p 0)) 25 p ((hI h 21 p 1).toNatClampNeg) (nI 0)) 21 p 6 ((hI h 21 p 6) + (nI 1))) 21 p 1) 80 ∧ (p < 12 ∧ (Q none (setI (setI (setI (setI (setI h 22 p ((hI h 21 p 1).toNatClampNeg) (-1)) 24 p ((hI h 21 p 1).toNatClampNeg) (hI h 21 p 0)) 25 p ((hI h 21 p 1).toNatClampNeg) (nI 0)) 21 p 6 ((hI h 21 p 6) + (nI 1))) 21 p 7 ((hI (setI (setI (setI (setI h 22 p ((hI h 21 p 1).toNatClampNeg) (-1)) 24 p ((hI h 21 p 1).toNatClampNeg) (hI h 21 p 0)) 25 p ((hI h 21 p 1).toNatClampNeg) (nI 0)) 21 p 6 ((hI h 21 p 6) + (nI 1))) 21 p 7) ||| ((nI 1) <<< ((hI (setI (setI h 22 p ((hI h 21 p 1).toNatClampNeg) (-1)) 24 p ((hI h 21 p 1).toNatClampNeg) (hI h 21 p 0)) 24 p ((hI (setI (setI (setI (setI h 22 p ((hI h 21 p 1).toNatClampNeg) (-1)) 24 p ((hI h 21 p 1).toNatClampNeg) (hI h 21 p 0)) 25 p ((hI h 21 p 1).toNatClampNeg) (nI 0)) 21 p 6 ((hI h 21 p 6) + (nI 1))) 21 p 1).toNatClampNeg)) &&& 31)))) ∧ h.1 = h.1)))))))))))) ∧ (¬ (nI 0) = 0 → (vp_in ((nI o) + (nI 3)) 1920 ∧ (p < 12 ∧ (vp_in (hI h 21 p 1) 80 ∧ (p < 12 ∧ (p < 12 ∧ (p < 12 ∧ (p < 12 ∧ (p < 12 ∧ (p < 12 ∧ (vp_in (hI (setI (setI (setI (setI h 22 p ((hI h 21 p 1).toNatClampNeg) (-1)) 24 p ((hI h 21 p 1).toNatClampNeg) (hI h 21 p 0)) 25 p ((hI h 21 p 1).toNatClampNeg) ((hI h 9 0 (((nI o) + (nI 3)).toNatClampNeg)) - (nI 48))) 21 p 6 ((hI h 21 p 6) + (nI 1))) 21 p 1) 80 ∧ (p < 12 ∧ (Q none (setI (setI (setI (setI (setI h 22 p ((hI h 21 p 1).toNatClampNeg) (-1)) 24 p ((hI h 21 p 1).toNatClampNeg) (hI h 21 p 0)) 25 p ((hI h 21 p 1).toNatClampNeg) ((hI h 9 0 (((nI o) + (nI 3)).toNatClampNeg)) - (nI 48))) 21 p 6 ((hI h 21 p 6) + (nI 1))) 21 p 7 ((hI (setI (setI (setI (setI h 22 p ((hI h 21 p 1).toNatClampNeg) (-1)) 24 p ((hI h 21 p 1).toNatClampNeg) (hI h 21 p 0)) 25 p ((hI h 21 p 1).toNatClampNeg) ((hI h 9 0 (((nI o) + (nI 3)).toNatClampNeg)) - (nI 48))) 21 p 6 ((hI h 21 p 6) + (nI 1))) 21 p 7) ||| ((nI 1) <<< ((hI (setI (setI h 22 p ((hI h 21 p 1).toNatClampNeg) (-1)) 24 p ((hI h 21 p 1).toNatClampNeg) (hI h 21 p 0)) 24 p ((hI (setI (setI (setI (setI h 22 p ((hI h 21 p 1).toNatClampNeg) (-1)) 24 p ((hI h 21 p 1).toNatClampNeg) (hI h 21 p 0)) 25 p ((hI h 21 p 1).toNatClampNeg) ((hI h 9 0 (((nI o) + (nI 3)).toNatClampNeg)) - (nI 48))) 21 p 6 ((hI h 21 p 6) + (nI 1))) 21 p 1).toNatClampNeg)) &&& 31)))) ∧ h.1 = h.1)))))))))))))))))))) ∧ (¬ ((nI x) - (nI o)) ≤ (nI 1) → (vp_in ((nI o) + (nI 1)) 1920 ∧ (p < 12 ∧ (vp_in (hI h 21 p 1) 80 ∧ (p < 12 ∧ (p < 12 ∧ (((nI 0) = 0 → (p < 12 ∧ (vp_in (hI h 21 p 1) 80 ∧ (p < 12 ∧ (p < 12 ∧ (p < 12 ∧ (p < 12 ∧ (p < 12 ∧ (p < 12 ∧ (vp_in (hI (setI (setI (setI (setI h 22 p ((hI h 21 p 1).toNatClampNeg) (-1)) 24 p ((hI h 21 p 1).toNatClampNeg) ((hI h 9 0 (((nI o) + (nI 1)).toNatClampNeg)) - (nI 65))) 25 p ((hI h 21 p 1).toNatClampNeg) (nI 0)) 21 p 6 ((hI h 21 p 6) + (nI 1))) 21 p 1) 80 ∧ (p < 12 ∧ (Q none (setI (setI (setI (setI (setI h 22 p ((hI h 21 p 1).toNatClampNeg) (-1)) 24 p ((hI h 21 p 1).toNatClampNeg) ((hI h 9 0 (((nI o) + (nI 1)).toNatClampNeg)) - (nI 65))) 25 p ((hI h 21 p 1).toNatClampNeg) (nI 0)) 21 p 6 ((hI h 21 p 6) + (nI 1))) 21 p 7 ((hI (setI (setI (setI (setI h 22 p ((hI h 21 p 1).toNatClampNeg) (-1)) 24 p ((hI h 21 p 1).toNatClampNeg) ((hI h 9 0 (((nI o) + (nI 1)).toNatClampNeg)) - (nI 65))) 25 p ((hI h 21 p 1).toNatClampNeg) (nI 0)) 21 p 6 ((hI h 21 p 6) + (nI 1))) 21 p 7) ||| ((nI 1) <<< ((hI (setI (setI h 22 p ((hI h 21 p 1).toNatClampNeg) (-1)) 24 p ((hI h 21 p 1).toNatClampNeg) ((hI h 9 0 (((nI o) + (nI 1)).toNatClampNeg)) - (nI 65))) 24 p ((hI (setI (setI (setI (setI h 22 p ((hI h 21 p 1).toNatClampNeg) (-1)) 24 p ((hI h 21 p 1).toNatClampNeg) ((hI h 9 0 (((nI o) + (nI 1)).toNatClampNeg)) - (nI 65))) 25 p ((hI h 21 p 1).toNatClampNeg) (nI 0)) 21 p 6 ((hI h 21 p 6) + (nI 1))) 21 p 1).toNatClampNeg)) &&& 31)))) ∧ h.1 = h.1)))))))))))) ∧ (¬ (nI 0) = 0 → (vp_in ((nI o) + (nI 3)) 1920 ∧ (p < 12 ∧ (vp_in (hI h 21 p 1) 80 ∧ (p < 12 ∧ (p < 12 ∧ (p < 12 ∧ (p < 12 ∧ (p < 12 ∧ (p < 12 ∧ (vp_in (hI (setI (setI (setI (setI h 22 p ((hI h 21 p 1).toNatClampNeg) (-1)) 24 p ((hI h 21 p 1).toNatClampNeg) ((hI h 9 0 (((nI o) + (nI 1)).toNatClampNeg)) - (nI 65))) 25 p ((hI h 21 p 1).toNatClampNeg) ((hI h 9 0 (((nI o) + (nI 3)).toNatClampNeg)) - (nI 48))) 21 p 6 ((hI h 21 p 6) + (nI 1))) 21 p 1) 80 ∧ (p < 12 ∧ (Q none (setI (setI (setI (setI (setI h 22 p ((hI h 21 p 1).toNatClampNeg) (-1)) 24 p ((hI h 21 p 1).toNatClampNeg) ((hI h 9 0 (((nI o) + (nI 1)).toNatClampNeg)) - (nI 65))) 25 p ((hI h 21 p 1).toNatClampNeg) ((hI h 9 0 (((nI o) + (nI 3)).toNatClampNeg)) - (nI 48))) 21 p 6 ((hI h 21 p 6) + (nI 1))) 21 p 7 ((hI (setI (setI (setI (setI h 22 p ((hI h 21 p 1).toNatClampNeg) (-1)) 24 p ((hI h 21 p 1).toNatClampNeg) ((hI h 9 0 (((nI o) + (nI 1)).toNatClampNeg)) - (nI 65))) 25 p ((hI h 21 p 1).toNatClampNeg) ((hI h 9 0 (((nI o) + (nI 3)).toNatClampNeg)) - (nI 48))) 21 p 6 ((hI h 21 p 6) + (nI 1))) 21 p 7) ||| ((nI 1) <<< ((hI (setI (setI h 22 p ((hI h 21 p 1).toNatClampNeg) (-1)) 24 p ((hI h 21 p 1).toNatClampNeg) ((hI h 9 0 (((nI o) + (nI 1)).toNatClampNeg)) - (nI 65))) 24 p ((hI (setI (setI (setI (setI h 22 p ((hI h 21 p 1).toNatClampNeg) (-1)) 24 p ((hI h 21 p 1).toNatClampNeg) ((hI h 9 0 (((nI o) + (nI 1)).toNatClampNeg)) - (nI 65))) 25 p ((hI h 21 p 1).toNatClampNeg) ((hI h 9 0 (((nI o) + (nI 3)).toNatClampNeg)) - (nI 48))) 21 p 6 ((hI h 21 p 6) + (nI 1))) 21 p 1).toNatClampNeg)) &&& 31)))) ∧ h.1 = h.1)))))))))))))))))))))))))))) ∧ (¬ ((nI x) - (nI o)) ≤ (nI 4) → (p < 12 ∧ (p < 12 ∧ (p < 12 ∧ (vp_in (hI h 21 p 1) 80 ∧ (p < 12 ∧ (p < 12 ∧ ((((nI x) - (nI o)) ≤ (nI 1) → (p < 12 ∧ (p < 12 ∧ (vp_in (hI h 21 p 1) 80 ∧ (p < 12 ∧ (p < 12 ∧ (((nI 1) = 0 → (p < 12 ∧ (vp_in (hI h 21 p 1) 80 ∧ (p < 12 ∧ (p < 12 ∧ (p < 12 ∧ (p < 12 ∧ (p < 12 ∧ (p < 12 ∧ (vp_in (hI (setI (setI (setI (setI h 22 p ((hI h 21 p 1).toNatClampNeg) (-1)) 24 p ((hI h 21 p 1).toNatClampNeg) (hI h 21 p 0)) 25 p ((hI h 21 p 1).toNatClampNeg) (nI 0)) 21 p 6 ((hI h 21 p 6) + (nI 1))) 21 p 1) 80 ∧ (p < 12 ∧ (Q none (setI (setI (setI (setI (setI h 22 p ((hI h 21 p 1).toNatClampNeg) (-1)) 24 p ((hI h 21 p 1).toNatClampNeg) (hI h 21 p 0)) 25 p ((hI h 21 p 1).toNatClampNeg) (nI 0)) 21 p 6 ((hI h 21 p 6) + (nI 1))) 21 p 7 ((hI (setI (setI (setI (setI h 22 p ((hI h 21 p 1).toNatClampNeg) (-1)) 24 p ((hI h 21 p 1).toNatClampNeg) (hI h 21 p 0)) 25 p ((hI h 21 p 1).toNatClampNeg) (nI 0)) 21 p 6 ((hI h 21 p 6) + (nI 1))) 21 p 7) ||| ((nI 1) <<< ((hI (setI (setI h 22 p ((hI h 21 p 1).toNatClampNeg) (-1)) 24 p ((hI h 21 p 1).toNatClampNeg) (hI h 21 p 0)) 24 p ((hI (setI (setI (setI (setI h 22 p ((hI h 21 p 1).toNatClampNeg) (-1)) 24 p ((hI h 21 p 1).toNatClampNeg) (hI h 21 p 0)) 25 p ((hI h 21 p 1).toNatClampNeg) (nI 0)) 21 p 6 ((hI h 21 p 6) + (nI 1))) 21 p 1).toNatClampNeg)) &&& 31)))) ∧ h.1 = h.1)))))))))))) ∧ (¬ (nI 1) = 0 → (vp_in ((nI o) + (nI 3)) 1920 ∧ (p < 12 ∧ (vp_in (hI h 21 p 1) 80 ∧ (p < 12 ∧ (p < 12 ∧ (p < 12 ∧ (p < 12 ∧ (p < 12 ∧ (p < 12 ∧ (vp_in (hI (setI (setI (setI (setI h 22 p ((hI h 21 p 1).toNatClampNeg) (-1)) 24 p ((hI h 21 p 1).toNatClampNeg) (hI h 21 p 0)) 25 p ((hI h 21 p 1).toNatClampNeg) ((hI h 9 0 (((nI o) + (nI 3)).toNatClampNeg)) - (nI 48))) 21 p 6 ((hI h 21 p 6) + (nI 1))) 21 p 1) 80 ∧ (p < 12 ∧ (Q none (setI (setI (setI (setI (setI h 22 p ((hI h 21 p 1).toNatClampNeg) (-1)) 24 p ((hI h 21 p 1).toNatClampNeg) (hI h 21 p 0)) 25 p ((hI h 21 p 1).toNatClampNeg) ((hI h 9 0 (((nI o) + (nI 3)).toNatClampNeg)) - (nI 48))) 21 p 6 ((hI h 21 p 6) + (nI 1))) 21 p 7 ((hI (setI (setI (setI (setI h 22 p ((hI h 21 p 1).toNatClampNeg) (-1)) 24 p ((hI h 21 p 1).toNatClampNeg) (hI h 21 p 0)) 25 p ((hI h 21 p 1).toNatClampNeg) ((hI h 9 0 (((nI o) + (nI 3)).toNatClampNeg)) - (nI 48))) 21 p 6 ((hI h 21 p 6) + (nI 1))) 21 p 7) ||| ((nI 1) <<< ((hI (setI (setI h 22 p ((hI h 21 p 1).toNatClampNeg) (-1)) 24 p ((hI h 21 p 1).toNatClampNeg) (hI h 21 p 0)) 24 p ((hI (setI (setI (setI (setI h 22 p ((hI h 21 p 1).toNatClampNeg) (-1)) 24 p ((hI h 21 p 1).toNatClampNeg) (hI h 21 p 0)) 25 p ((hI h 21 p 1).toNatClampNeg) ((hI h 9 0 (((nI o) + (nI 3)).toNatClampNeg)) - (nI 48))) 21 p 6 ((hI h 21 p 6) + (nI 1))) 21 p 1).toNatClampNeg)) &&& 31)))) ∧ h.1 = h.1)))))))))))))))))))) ∧ (¬ ((nI x) - (nI o)) ≤ (nI 1) → (vp_in ((nI o) + (nI 1)) 1920 ∧ (p < 12 ∧ (vp_in (hI h 21 p 1) 80 ∧ (p < 12 ∧ (p < 12 ∧ (((nI 1) = 0 → (p < 12 ∧ (vp_in (hI h 21 p 1) 80 ∧ (p < 12 ∧ (p < 12 ∧ (p < 12 ∧ (p < 12 ∧ (p < 12 ∧ (p < 12 ∧ (vp_in (hI (setI (setI (setI (setI h 22 p ((hI h 21 p 1).toNatClampNeg) (-1)) 24 p ((hI h 21 p 1).toNatClampNeg) ((hI h 9 0 (((nI o) + (nI 1)).toNatClampNeg)) - (nI 65))) 25 p ((hI h 21 p 1).toNatClampNeg) (nI 0)) 21 p 6 ((hI h 21 p 6) + (nI 1))) 21 p 1) 80 ∧ (p < 12 ∧ (Q none (setI (setI (setI (setI (setI h 22 p ((hI h 21 p 1).toNatClampNeg) (-1)) 24 p ((hI h 21 p 1).toNatClampNeg) ((hI h 9 0 (((nI o) + (nI 1)).toNatClampNeg)) - (nI 65))) 25 p ((hI h 21 p 1).toNatClampNeg) (nI 0)) 21 p 6 ((hI h 21 p 6) + (nI 1))) 21 p 7 ((hI (setI (setI (setI (setI h 22 p ((hI h 21 p 1).toNatClampNeg) (-1)) 24 p ((hI h 21 p 1).toNatClampNeg) ((hI h 9 0 (((nI o) + (nI 1)).toNatClampNeg)) - (nI 65))) 25 p ((hI h 21 p 1).toNatClampNeg) (nI 0)) 21 p 6 ((hI h 21 p 6) + (nI 1))) 21 p 7) ||| ((nI 1) <<< ((hI (setI (setI h 22 p ((hI h 21 p 1).toNatClampNeg) (-1)) 24 p ((hI h 21 p 1).toNatClampNeg) ((hI h 9 0 (((nI o) + (nI 1)).toNatClampNeg)) - (nI 65))) 24 p ((hI (setI (setI (setI (setI h 22 p ((hI h 21 p 1).toNatClampNeg) (-1)) 24 p ((hI h 21 p 1).toNatClampNeg) ((hI h 9 0 (((nI o) + (nI 1)).toNatClampNeg)) - (nI 65))) 25 p ((hI h 21 p 1).toNatClampNeg) (nI 0)) 21 p 6 ((hI h 21 p 6) + (nI 1))) 21 p 1).toNatClampNeg)) &&& 31)))) ∧ h.1 = h.1)))))))))))) ∧ (¬ (nI 1) = 0 → (vp_in ((nI o) + (nI 3)) 1920 ∧ (p < 12 ∧ (vp_in (hI h 21 p 1) 80 ∧ (p < 12 ∧ (p < 12 ∧ (p < 12 ∧ (p < 12 ∧ (p < 12 ∧ (p < 12 ∧ (vp_in (hI (setI (setI (setI (setI h 22 p ((hI h 21 p 1).toNatClampNeg) (-1)) 24 p ((hI h 21 p 1).toNatClampNeg) ((hI h 9 0 (((nI o) + (nI 1)).toNatClampNeg)) - (nI 65))) 25 p ((hI h 21 p 1).toNatClampNeg) ((hI h 9 0 (((nI o) + (nI 3)).toNatClampNeg)) - (nI 48))) 21 p 6 ((hI h 21 p 6) + (nI 1))) 21 p 1) 80 ∧ (p < 12 ∧ (Q none (setI (setI (setI (setI (setI h 22 p ((hI h 21 p 1).toNatClampNeg) (-1)) 24 p ((hI h 21 p 1).toNatClampNeg) ((hI h 9 0 (((nI o) + (nI 1)).toNatClampNeg)) - (nI 65))) 25 p ((hI h 21 p 1).toNatClampNeg) ((hI h 9 0 (((nI o) + (nI 3)).toNatClampNeg)) - (nI 48))) 21 p 6 ((hI h 21 p 6) + (nI 1))) 21 p 7 ((hI (setI (setI (setI (setI h 22 p ((hI h 21 p 1).toNatClampNeg) (-1)) 24 p ((hI h 21 p 1).toNatClampNeg) ((hI h 9 0 (((nI o) + (nI 1)).toNatClampNeg)) - (nI 65))) 25 p ((hI h 21 p 1).toNatClampNeg) ((hI h 9 0 (((nI o) + (nI 3)).toNatClampNeg)) - (nI 48))) 21 p 6 ((hI h 21 p 6) + (nI 1))) 21 p 7) ||| ((nI 1) <<< ((hI (setI (setI h 22 p ((hI h 21 p 1).toNatClampNeg) (-1)) 24 p ((hI h 21 p 1).toNatClampNeg) ((hI h 9 0 (((nI o) + (nI 1)).toNatClampNeg)) - (nI 65))) 24 p ((hI (setI (setI (setI (setI h 22 p ((hI h 21 p 1).toNatClampNeg) (-1)) 24 p ((hI h 21 p 1).toNatClampNeg) ((hI h 9 0 (((nI o) + (nI 1)).toNatClampNeg)) - (nI 65))) 25 p ((hI h 21 p 1).toNatClampNeg) ((hI h 9 0 (((nI o) + (nI 3)).toNatClampNeg)) - (nI 48))) 21 p 6 ((hI h 21 p 6) + (nI 1))) 21 p 1).toNatClampNeg)) &&& 31)))) ∧ h.1 = h.1)))))))))))))))))))))))))))))
  have e1 : nI x - nI o = nI (x - o) := subN (by omega)
  have e2 : nI (65 + q) - nI 65 = nI q := by rw [subN (by omega)]; congr 1; omega
  have i1 : vp_in (nI j) 80 := inb (by omega) (by omega)
  cases s with
  | none =>
    have hx : x = o + 3 := hx
    have e3 : x - o = 3 := by omega
    have i2 : vp_in (nI (o + 1)) 1920 := inb (by omega) (by omega)
    simp (disch := omega) only [true_and, and_true, hI_s, hI_k, hI_f, hI_sL, hL_sI, hL_s, hL_k, hL_f, addN, ix, hp, h1, h6, e1, e3, t1, e2, i1, i2]
    refine ⟨fun _ => ⟨fun g => absurd g (by decide), fun _ => ⟨fun _ => hq, fun g => absurd rfl g⟩⟩, fun g => absurd (by decide) g⟩
  | some y =>
    have hx : x = o + 5 := hx
    have e3 : x - o = 5 := by omega
    have t3 : hI h 9 0 (o + 3) = nI (48 + y) := ht.2.2.2.1
    have hy := hs y rfl
    have e4 : nI (48 + y) - nI 48 = nI y := by rw [subN (by omega)]; congr 1; omega
    have i2 : vp_in (nI (o + 1)) 1920 := inb (by omega) (by omega)
    have i3 : vp_in (nI (o + 3)) 1920 := inb (by omega) (by omega)
    simp (disch := omega) only [true_and, and_true, hI_s, hI_k, hI_f, hI_sL, hL_sI, hL_s, hL_k, hL_f, addN, ix, hp, h1, h6, e1, e3, t1, e2, i1, i2, i3, t3, e4]
    refine ⟨fun g => absurd g (by decide), fun _ => ⟨fun g => absurd g (by decide), fun _ => ⟨fun g => absurd g (by decide), fun _ => hq⟩⟩⟩
end
section
/-! the class's links of a page -/
abbrev Lk : Type := Nat × Option Anc × Nat × Nat
def lkEl (own at_ : Nat) (e : Elem) : List Lk := match e with
  | .inl _ => []
  | .inr (l, a) => [(l.getD own, a, at_ + 1, at_ + 1 + (txLink l a).length)]
def lkEls (own : Nat) : Nat → List Elem → List Lk
  | _, [] => []
  | at_, e :: r => lkEl own at_ e ++ lkEls own (at_ + (txEl e).length + 1) r
def lkLine (own at_ : Nat) (l : Line) : List Lk := match l with
  | .inr (.inr es) => lkEls own at_ es
  | _ => []
def lkPg (own : Nat) : Nat → List Line → List Lk
  | _, [] => []
  | at_, l :: r => lkLine own at_ l ++ lkPg own (at_ + (txLine l).length + 1) r
def LinkC (σ : Hp) (p j : Nat) (k : Lk) : Prop := hI σ 26 p j = nI k.1 ∧ hL σ 27 p j = lN (anO k.2.1) ∧ hI σ 28 p j = nI k.2.2.1 ∧ hI σ 29 p j = nI k.2.2.2
def LF (p f i : Nat) : Prop := (f = 21 ∨ (26 ≤ f ∧ f ≤ 29)) ∧ i = p
def LI (σ h : Hp) (p : Nat) (dn : List Lk) : Prop := hI h 21 p 8 = nI dn.length ∧ All dn (LinkC h p) ∧ (∀ k, k ≠ 8 → hI h 21 p k = hI σ 21 p k) ∧ Fr (LF p) σ h
theorem LI_tx {σ h : Hp} {p : Nat} {dn : List Lk} (hi : LI σ h p dn) : hI h 9 0 = hI σ 9 0 := (hi.2.2.2.2 9 0 (fun q => by rcases q.1 with e | e <;> omega)).1
def noBr (w : List Nat) : Prop := ∀ y ∈ w, y < 128 ∧ y ≠ 91 ∧ y ≠ 93
theorem txLink_nb {l : Option Nat} {a : Option Anc} (hl : ∀ p, l = some p → p < 12) (ha : gAO a) : noBr (txLink l a) := fun y hy => by
  rcases List.mem_append.mp hy with q | q
  · cases l with
    | none => cases q
    | some p =>
      have := hl p rfl
      rw [List.mem_singleton.mp q]
      omega
  · cases a with
    | none => cases q
    | some x =>
      rcases List.mem_cons.mp q with e | e
      · rw [e]; decide
      · have := txAnc_s (ha x rfl) y e
        omega
theorem gName_nb {w : List Nat} (h : gName w) : noBr w := fun y hy => by
  have := sm_rest (gName_r h).1 y hy
  omega
section
variable {σ : Hp} {p o x own : Nat} {full : List Lk} {Q : Option AV → Hp → Prop} {d : Nat}
theorem s_skip (hp : p < 12) (hx : x ≤ 1920) (hf : full.length ≤ 40) (hQ : ∀ h, LI σ h p full → Q none h) {h : Hp} {dn rest : List Lk} (hi : LI σ h p dn) (hr : full = dn ++ rest) (b : Nat) : ∀ (w : List Nat) (a : Nat), noBr w → Tx (hI σ 9 0) a w → a + w.length ≤ x → Sat true (d + 3) 26 σ.1 Q 6 [some (vr 21 p), some (vr 9 0), some (vi (nI o)), some (vi (nI x)), some (vi (nI b)), some (vi (nI (a + w.length)))] [] h → Sat true (d + 3) 26 σ.1 Q 6 [some (vr 21 p), some (vr 9 0), some (vi (nI o)), some (vi (nI x)), some (vi (nI b)), some (vi (nI a))] [] h := by
  intro w
  induction w with
  | nil => intro a _ _ _ k; exact k
  | cons c w ih =>
    intro a hn ht hl k
    obtain ⟨t1, t2⟩ := ht
    obtain ⟨c1, c2, c3⟩ := hn c List.mem_cons_self
    have el : a + (c :: w).length = a + 1 + w.length := by rw [List.length_cons]; omega
    rw [el] at k hl
    have k2 := ih (a + 1) (fun y hy => hn y (List.mem_cons_of_mem _ hy)) t2 hl k
    have hd : dn.length ≤ 40 := by rw [hr, List.length_append] at hf; omega
    have h8 := hi.1
    have t1' : hI h 9 0 a = nI c := by rw [LI_tx hi]; exact t1
    have i1 : vp_in (nI a) 1920 := inb (by omega) (by omega)
    refine wp_ok (cut := [6, 48]) ma_26 rfl 19 _ _ _ _ ?_
    show (((nI x) ≤ (nI a) → (Q none h ∧ h.1 = σ.1)) ∧ (¬ (nI x) ≤ (nI a) → (p < 12 ∧ (((nI 40) ≤ (hI h 21 p 8) → (Q none h ∧ h.1 = σ.1)) ∧ (¬ (nI 40) ≤ (hI h 21 p 8) → (vp_in (nI a) 1920 ∧ ((¬ (hI h 9 0 ((nI a).toNatClampNeg)) = (nI 91) → (vp_in (nI a) 1920 ∧ ((¬ (hI h 9 0 ((nI a).toNatClampNeg)) = (nI 93) → Sat true (d + 3) 26 σ.1 Q 6 [some (vr 21 p), some (vr 9 0), some (vi (nI o)), some (vi (nI x)), some (vi (nI b)), some (vi ((nI a) + nI 1))] [] h) ∧ ((hI h 9 0 ((nI a).toNatClampNeg)) = (nI 93) → Sat true (d + 3) 26 σ.1 Q 48 [some (vr 21 p), some (vr 9 0), some (vi (nI o)), some (vi (nI x)), some (vi (nI b)), some (vi (nI a))] [] h)))) ∧ ((hI h 9 0 ((nI a).toNatClampNeg)) = (nI 91) → Sat true (d + 3) 26 σ.1 Q 6 [some (vr 21 p), some (vr 9 0), some (vi (nI o)), some (vi (nI x)), some (vi ((nI a) + (nI 1))), some (vi ((nI a) + nI 1))] [] h))))))))
    refine br_le (by omega) (by omega) (fun g => by omega) (fun _ => ⟨hp, ?_⟩)
    rw [h8]
    refine br_le (by omega) (by omega) (fun g => ?_) (fun _ => ?_)
    · have e : rest = [] := by
        have : full.length = dn.length + rest.length := by rw [hr, List.length_append]
        exact List.eq_nil_of_length_eq_zero (by omega)
      rw [e, List.append_nil] at hr
      rw [← hr] at hi
      exact ⟨hQ h hi, hi.2.2.2.1⟩
    · rw [ix (by omega), t1', addN]
      exact ⟨i1, br_ne (by omega) (by omega) (fun _ => ⟨i1, br_ne (by omega) (by omega) (fun _ => k2) (fun g => absurd g c3)⟩) (fun g => absurd g c2)⟩
set_option maxRecDepth 4000 in
theorem s_close (hp : p < 12) (hx : x ≤ 1920) (h0 : hI σ 21 p 0 = nI p) {h : Hp} {dn : List Lk} (hi : LI σ h p dn) (hd : dn.length < 40) {l : Option Nat} {c : Option Anc} (hl : ∀ q, l = some q → q < 12) (hc : gAO c) (hn : l = none → c ≠ none) {b a : Nat} (ht : Tx (hI σ 9 0) b (txLink l c)) (ha : a = b + (txLink l c).length) (hax : a < x) (k : ∀ h', LI σ h' p (dn ++ [(l.getD p, c, b, a)]) → Sat true (d + 3) 26 σ.1 Q 6 [some (vr 21 p), some (vr 9 0), some (vi (nI o)), some (vi (nI x)), some (vi (nI b)), some (vi (nI (a + 1)))] [] h') : Sat true (d + 3) 26 σ.1 Q 48 [some (vr 21 p), some (vr 9 0), some (vi (nI o)), some (vi (nI x)), some (vi (nI b)), some (vi (nI a))] [] h := by
  have hT : hI h 9 0 = hI σ 9 0 := LI_tx hi
  have h8 := hi.1
  have h0' : hI h 21 p 0 = nI p := by rw [hi.2.2.1 0 (by decide)]; exact h0
  have i1 : vp_in (nI b) 1920 := inb (by omega) (by omega)
  have i2 : vp_in (nI dn.length) 40 := inb (by omega) (by omega)
  have hlen : l = none → 1 ≤ (txLink l c).length := by
    intro e
    subst e
    cases c with
    | none => exact absurd rfl (hn rfl)
    | some z => show 1 ≤ (35 :: txAnc z).length; rw [List.length_cons]; omega
  have tail : ∀ v : Int32, v = nI (l.getD p) → CalL true (d + 2) 3 [vr 9 0, vi (nI b), vi (nI a)] (setI h 26 p dn.length v) σ.1 (fun x1 s1 => (vp_in (nI dn.length) 40 ∧ (vp_in (hI s1 21 p 8) 40 ∧ (vp_in (hI s1 21 p 8) 40 ∧ Sat true (d + 3) 26 σ.1 Q 6 [some (vr 21 p), some (vr 9 0), some (vi (nI o)), some (vi (nI x)), some (vi (nI b)), some (vi (nI (a + 1)))] [] (setI (setI (setI (setL s1 27 p dn.length x1) 28 p (hI s1 21 p 8).toNatClampNeg (nI b)) 29 p (hI s1 21 p 8).toNatClampNeg (nI a)) 21 p 8 (hI s1 21 p 8 + nI 1)))))) := by
    intro v hv
    have t9 : Tx (hI (setI h 26 p dn.length v) 9 0) b (txLink l c) := by
      rw [hI_f _ _ _ (Or.inl (by decide)), hT]
      exact ht
    refine cal_l (e_placeAnchor9 d hl hc t9 ha (by omega)) (hi.2.2.2.1) ?_
    have e8 : hI (setI h 26 p dn.length v) 21 p 8 = nI dn.length := by rw [hI_f _ _ _ (Or.inl (by decide))]; exact h8
    rw [e8, ix (by omega), addN]
    refine ⟨i2, i2, i2, k _ ⟨?_, ?_, fun j hj => ?_, ?_⟩⟩
    · rw [hI_s, List.length_append]; rfl
    · refine All_snoc hi.2.1 (fun j y hj q => ?_) ?_
      · obtain ⟨q1, q2, q3, q4⟩ := q
        refine ⟨?_, ?_, ?_, ?_⟩
        · simp (disch := omega) only [hI_s, hI_k, hI_f, hI_sL, hL_sI, hL_s, hL_k, hL_f]
          exact q1
        · simp (disch := omega) only [hI_s, hI_k, hI_f, hI_sL, hL_sI, hL_s, hL_k, hL_f]
          exact q2
        · simp (disch := omega) only [hI_s, hI_k, hI_f, hI_sL, hL_sI, hL_s, hL_k, hL_f]
          exact q3
        · simp (disch := omega) only [hI_s, hI_k, hI_f, hI_sL, hL_sI, hL_s, hL_k, hL_f]
          exact q4
      · refine ⟨?_, ?_, ?_, ?_⟩
        · simp (disch := omega) only [hI_s, hI_k, hI_f, hI_sL, hL_sI, hL_s, hL_k, hL_f]
          exact hv
        · simp (disch := omega) only [hI_s, hI_k, hI_f, hI_sL, hL_sI, hL_s, hL_k, hL_f]
        · simp (disch := omega) only [hI_s, hI_k, hI_f, hI_sL, hL_sI, hL_s, hL_k, hL_f]
        · simp (disch := omega) only [hI_s, hI_k, hI_f, hI_sL, hL_sI, hL_s, hL_k, hL_f]
    · simp (disch := omega) only [hI_s, hI_k, hI_f, hI_sL, hL_sI, hL_s, hL_k, hL_f]
      exact hi.2.2.1 j hj
    · exact ((((hi.2.2.2.sI (f := 26) ⟨Or.inr (by omega), rfl⟩ _ _).sL (f := 27) ⟨Or.inr (by omega), rfl⟩ _ _).sI (f := 28) ⟨Or.inr (by omega), rfl⟩ _ _).sI (f := 29) ⟨Or.inr (by omega), rfl⟩ _ _).sI (f := 21) ⟨Or.inl rfl, rfl⟩ _ _
  refine wp_ok (cut := [6]) ma_26 rfl 44 _ _ _ _ ?_
  show (p < 12 ∧ (p < 12 ∧ (vp_in (nI b) 1920 ∧ ((¬ (hI h 9 0 ((nI b).toNatClampNeg)) = (nI 35) → (vp_in (nI b) 1920 ∧ (p < 12 ∧ (vp_in (hI h 21 p 8) 40 ∧ (p < 12 ∧ (p < 12 ∧ CalL true (d + 2) 3 [vr 9 0, vi (nI b), vi (nI a)] (setI h 26 p ((hI h 21 p 8).toNatClampNeg) ((hI h 9 0 ((nI b).toNatClampNeg)) - (nI 65))) σ.1 (fun x2 s1 => (p < 12 ∧ (vp_in (hI h 21 p 8) 40 ∧ (p < 12 ∧ (p < 12 ∧ (p < 12 ∧ (vp_in (hI s1 21 p 8) 40 ∧ (p < 12 ∧ (p < 12 ∧ (p < 12 ∧ (vp_in (hI s1 21 p 8) 40 ∧ (p < 12 ∧ (p < 12 ∧ Sat true (d + 3) 26 σ.1 Q 6 [some (vr 21 p), some (vr 9 0), some (vi (nI o)), some (vi (nI x)), some (vi (nI b)), some (vi ((nI a) + nI 1))] [] (setI (setI (setI (setL s1 27 p ((hI h 21 p 8).toNatClampNeg) x2) 28 p ((hI s1 21 p 8).toNatClampNeg) (nI b)) 29 p ((hI s1 21 p 8).toNatClampNeg) (nI a)) 21 p 8 ((hI s1 21 p 8) + (nI 1)))))))))))))))))))))) ∧ ((hI h 9 0 ((nI b).toNatClampNeg)) = (nI 35) → (p < 12 ∧ (p < 12 ∧ (vp_in (hI h 21 p 8) 40 ∧ (p < 12 ∧ (p < 12 ∧ CalL true (d + 2) 3 [vr 9 0, vi (nI b), vi (nI a)] (setI h 26 p ((hI h 21 p 8).toNatClampNeg) (hI h 21 p 0)) σ.1 (fun x4 s3 => (p < 12 ∧ (vp_in (hI h 21 p 8) 40 ∧ (p < 12 ∧ (p < 12 ∧ (p < 12 ∧ (vp_in (hI s3 21 p 8) 40 ∧ (p < 12 ∧ (p < 12 ∧ (p < 12 ∧ (vp_in (hI s3 21 p 8) 40 ∧ (p < 12 ∧ (p < 12 ∧ Sat true (d + 3) 26 σ.1 Q 6 [some (vr 21 p), some (vr 9 0), some (vi (nI o)), some (vi (nI x)), some (vi (nI b)), some (vi ((nI a) + nI 1))] [] (setI (setI (setI (setL s3 27 p ((hI h 21 p 8).toNatClampNeg) x4) 28 p ((hI s3 21 p 8).toNatClampNeg) (nI b)) 29 p ((hI s3 21 p 8).toNatClampNeg) (nI a)) 21 p 8 ((hI s3 21 p 8) + (nI 1))))))))))))))))))))))))))
  simp only [hp, true_and]
  rw [h8, ix (by omega), ix (by omega), addN, hT, h0']
  cases l with
  | none =>
    have t1 : hI σ 9 0 b = nI 35 := by
      cases c with
      | none => exact absurd rfl (hn rfl)
      | some z => exact ht.1
    rw [t1]
    exact ⟨i1, fun g => absurd rfl g, fun _ => ⟨i2, tail _ rfl⟩⟩
  | some q =>
    have hq := hl q rfl
    have t1 : hI σ 9 0 b = nI (65 + q) := ht.1
    rw [t1, subN (by omega)]
    refine ⟨i1, br_ne (by omega) (by omega) (fun _ => ⟨i1, i2, tail _ ?_⟩) (fun g => by omega)⟩
    rw [show 65 + q - 65 = q by omega]
    rfl
theorem s_els (hp : p < 12) (hx : x ≤ 1920) (h0 : hI σ 21 p 0 = nI p) (hf : full.length ≤ 40) (hQ : ∀ h, LI σ h p full → Q none h) : ∀ (es : List Elem) (a b : Nat) (h : Hp) (dn rest : List Lk), (∀ e ∈ es, gEl e) → Tx (hI σ 9 0) a (txEls es) → a + (txEls es).length ≤ x → LI σ h p dn → full = dn ++ (lkEls p a es ++ rest) → (∀ h' b', LI σ h' p (dn ++ lkEls p a es) → Sat true (d + 3) 26 σ.1 Q 6 [some (vr 21 p), some (vr 9 0), some (vi (nI o)), some (vi (nI x)), some (vi (nI b')), some (vi (nI (a + (txEls es).length)))] [] h') → Sat true (d + 3) 26 σ.1 Q 6 [some (vr 21 p), some (vr 9 0), some (vi (nI o)), some (vi (nI x)), some (vi (nI b)), some (vi (nI a))] [] h := by
  intro es
  induction es with
  | nil =>
    intro a b h dn rest _ _ _ hi _ k
    exact k h b (by rw [show lkEls p a [] = [] from rfl, List.append_nil]; exact hi)
  | cons e r ih =>
    intro a b h dn rest hg ht hl hi hfu k
    have ge := hg e List.mem_cons_self
    have gr : ∀ y ∈ r, gEl y := fun y hy => hg y (List.mem_cons_of_mem _ hy)
    -- the element itself
    have one : ∀ (h : Hp) (dn rest : List Lk) (b : Nat), Tx (hI σ 9 0) a (txEl e) → a + (txEl e).length ≤ x → LI σ h p dn → full = dn ++ (lkEl p a e ++ rest) → (∀ h' b', LI σ h' p (dn ++ lkEl p a e) → Sat true (d + 3) 26 σ.1 Q 6 [some (vr 21 p), some (vr 9 0), some (vi (nI o)), some (vi (nI x)), some (vi (nI b')), some (vi (nI (a + (txEl e).length)))] [] h') → Sat true (d + 3) 26 σ.1 Q 6 [some (vr 21 p), some (vr 9 0), some (vi (nI o)), some (vi (nI x)), some (vi (nI b)), some (vi (nI a))] [] h := by
      intro h dn rest b ht hl hi hfu k
      rcases e with w | ⟨l, c⟩
      · exact s_skip hp hx hf hQ hi hfu b w a (gName_nb ge) ht hl (k h b (by rw [show lkEl p a (.inl w) = [] from rfl, List.append_nil]; exact hi))
      · obtain ⟨g1, g2, g3⟩ := ge
        obtain ⟨t1, t2⟩ := ht
        obtain ⟨t3, t4, _⟩ := Tx_app.mp t2
        have e5 : (txEl (.inr (l, c))).length = (txLink l c).length + 2 := by
          show (91 :: (txLink l c ++ [93])).length = _
          rw [List.length_cons, List.length_append]
          rfl
        rw [e5] at hl k
        have hdl : dn.length < 40 := by
          rw [hfu, List.length_append, List.length_append] at hf
          have : (lkEl p a (.inr (l, c))).length = 1 := rfl
          omega
        have hT : hI h 9 0 = hI σ 9 0 := LI_tx hi
        have h8 := hi.1
        -- the closing bracket
        have kc : Sat true (d + 3) 26 σ.1 Q 6 [some (vr 21 p), some (vr 9 0), some (vi (nI o)), some (vi (nI x)), some (vi (nI (a + 1))), some (vi (nI (a + 1 + (txLink l c).length)))] [] h := by
          have kk := s_close (d := d) (o := o) (Q := Q) hp hx h0 hi hdl g1 g2 g3 t3 rfl (by omega) (fun h' hi' => by
            have := k h' (a + 1) hi'
            rw [show a + ((txLink l c).length + 2) = a + 1 + (txLink l c).length + 1 by omega] at this
            exact this)
          have i1 : vp_in (nI (a + 1 + (txLink l c).length)) 1920 := inb (by omega) (by omega)
          refine wp_ok (cut := [6, 48]) ma_26 rfl 19 _ _ _ _ ?_
          show (((nI x) ≤ (nI (a + 1 + (txLink l c).length)) → (Q none h ∧ h.1 = σ.1)) ∧ (¬ (nI x) ≤ (nI (a + 1 + (txLink l c).length)) → (p < 12 ∧ (((nI 40) ≤ (hI h 21 p 8) → (Q none h ∧ h.1 = σ.1)) ∧ (¬ (nI 40) ≤ (hI h 21 p 8) → (vp_in (nI (a + 1 + (txLink l c).length)) 1920 ∧ ((¬ (hI h 9 0 ((nI (a + 1 + (txLink l c).length)).toNatClampNeg)) = (nI 91) → (vp_in (nI (a + 1 + (txLink l c).length)) 1920 ∧ ((¬ (hI h 9 0 ((nI (a + 1 + (txLink l c).length)).toNatClampNeg)) = (nI 93) → Sat true (d + 3) 26 σ.1 Q 6 [some (vr 21 p), some (vr 9 0), some (vi (nI o)), some (vi (nI x)), some (vi (nI (a + 1))), some (vi ((nI (a + 1 + (txLink l c).length)) + nI 1))] [] h) ∧ ((hI h 9 0 ((nI (a + 1 + (txLink l c).length)).toNatClampNeg)) = (nI 93) → Sat true (d + 3) 26 σ.1 Q 48 [some (vr 21 p), some (vr 9 0), some (vi (nI o)), some (vi (nI x)), some (vi (nI (a + 1))), some (vi (nI (a + 1 + (txLink l c).length)))] [] h)))) ∧ ((hI h 9 0 ((nI (a + 1 + (txLink l c).length)).toNatClampNeg)) = (nI 91) → Sat true (d + 3) 26 σ.1 Q 6 [some (vr 21 p), some (vr 9 0), some (vi (nI o)), some (vi (nI x)), some (vi ((nI (a + 1 + (txLink l c).length)) + (nI 1))), some (vi ((nI (a + 1 + (txLink l c).length)) + nI 1))] [] h))))))))
          refine br_le (by omega) (by omega) (fun g => by omega) (fun _ => ⟨hp, ?_⟩)
          rw [h8]
          refine br_le (by omega) (by omega) (fun g => by omega) (fun _ => ?_)
          rw [ix (by omega), hT, t4]
          exact ⟨i1, fun g => ⟨i1, fun g => absurd rfl g, fun _ => kk⟩, fun g => absurd g (by decide)⟩
        have ks := s_skip (d := d) (o := o) hp hx hf hQ hi hfu (a + 1) (txLink l c) (a + 1) (txLink_nb g1 g2) t3 (by omega) kc
        have i1 : vp_in (nI a) 1920 := inb (by omega) (by omega)
        refine wp_ok (cut := [6, 48]) ma_26 rfl 19 _ _ _ _ ?_
        show (((nI x) ≤ (nI a) → (Q none h ∧ h.1 = σ.1)) ∧ (¬ (nI x) ≤ (nI a) → (p < 12 ∧ (((nI 40) ≤ (hI h 21 p 8) → (Q none h ∧ h.1 = σ.1)) ∧ (¬ (nI 40) ≤ (hI h 21 p 8) → (vp_in (nI a) 1920 ∧ ((¬ (hI h 9 0 ((nI a).toNatClampNeg)) = (nI 91) → (vp_in (nI a) 1920 ∧ ((¬ (hI h 9 0 ((nI a).toNatClampNeg)) = (nI 93) → Sat true (d + 3) 26 σ.1 Q 6 [some (vr 21 p), some (vr 9 0), some (vi (nI o)), some (vi (nI x)), some (vi (nI b)), some (vi ((nI a) + nI 1))] [] h) ∧ ((hI h 9 0 ((nI a).toNatClampNeg)) = (nI 93) → Sat true (d + 3) 26 σ.1 Q 48 [some (vr 21 p), some (vr 9 0), some (vi (nI o)), some (vi (nI x)), some (vi (nI b)), some (vi (nI a))] [] h)))) ∧ ((hI h 9 0 ((nI a).toNatClampNeg)) = (nI 91) → Sat true (d + 3) 26 σ.1 Q 6 [some (vr 21 p), some (vr 9 0), some (vi (nI o)), some (vi (nI x)), some (vi ((nI a) + (nI 1))), some (vi ((nI a) + nI 1))] [] h))))))))
        refine br_le (by omega) (by omega) (fun g => by omega) (fun _ => ⟨hp, ?_⟩)
        rw [h8]
        refine br_le (by omega) (by omega) (fun g => by omega) (fun _ => ?_)
        rw [ix (by omega), hT, t1, addN]
        exact ⟨i1, fun g => absurd rfl g, fun _ => ks⟩
    cases r with
    | nil =>
      have e1 : lkEls p a [e] = lkEl p a e := List.append_nil _
      rw [e1] at hfu k
      exact one h dn rest b ht hl hi hfu k
    | cons f r' =>
      have ht : Tx (hI σ 9 0) a (txEl e ++ 44 :: txEls (f :: r')) := ht
      obtain ⟨t1, t2, t3⟩ := Tx_app.mp ht
      have e1 : (txEls (e :: f :: r')).length = (txEl e).length + (1 + (txEls (f :: r')).length) := by
        show (txEl e ++ 44 :: txEls (f :: r')).length = _
        rw [List.length_append, List.length_cons]
        omega
      have e2 : lkEls p a (e :: f :: r') = lkEl p a e ++ lkEls p (a + (txEl e).length + 1) (f :: r') := rfl
      rw [e1] at hl k
      rw [e2, List.append_assoc] at hfu
      rw [e2] at k
      refine one h dn _ b t1 (by omega) hi hfu (fun h' b' hi' => ?_)
      have hfu2 : full = (dn ++ lkEl p a e) ++ (lkEls p (a + (txEl e).length + 1) (f :: r') ++ rest) := by rw [hfu, List.append_assoc]
      refine s_skip (d := d) (o := o) hp hx hf hQ hi' hfu2 b' [44] (a + (txEl e).length) (fun y hy => by rw [List.mem_singleton.mp hy]; decide) ⟨t2, trivial⟩ (by show a + (txEl e).length + 1 ≤ x; omega) ?_
      refine ih (a + (txEl e).length + 1) b' h' (dn ++ lkEl p a e) rest gr t3 (by omega) hi' hfu2 (fun h2 b2 hi2 => ?_)
      rw [List.append_assoc] at hi2
      have := k h2 b2 hi2
      rw [show a + ((txEl e).length + (1 + (txEls (f :: r')).length)) = a + (txEl e).length + 1 + (txEls (f :: r')).length by omega] at this
      exact this
theorem txLine_nb {l : Line} (h : gLine l) (hn : ∀ es, l ≠ .inr (.inr es)) : noBr (txLine l) := by
  rcases l with ⟨v, w⟩ | ⟨q, s⟩ | es
  · intro y hy
    rcases List.mem_append.mp hy with e | e
    · rw [(List.mem_replicate.mp e).2]; decide
    · exact gName_nb h.2.2 y e
  · obtain ⟨h1, h2⟩ := h
    intro y hy
    cases s with
    | none =>
      have hy : y ∈ [123, 65 + q, 125] := hy
      simp only [List.mem_cons, List.not_mem_nil, or_false] at hy
      omega
    | some z =>
      have := h2 z rfl
      have hy : y ∈ [123, 65 + q, 43, 48 + z, 125] := hy
      simp only [List.mem_cons, List.not_mem_nil, or_false] at hy
      omega
  · exact absurd rfl (hn es)
theorem s_lines (hp : p < 12) (hx : x ≤ 1920) (h0 : hI σ 21 p 0 = nI p) (hf : full.length ≤ 40) (hQ : ∀ h, LI σ h p full → Q none h) : ∀ (ls : List Line) (a b : Nat) (h : Hp) (dn : List Lk), gPg ls → Tx (hI σ 9 0) a (txPg ls) → x = a + (txPg ls).length → LI σ h p dn → full = dn ++ lkPg p a ls → Sat true (d + 3) 26 σ.1 Q 6 [some (vr 21 p), some (vr 9 0), some (vi (nI o)), some (vi (nI x)), some (vi (nI b)), some (vi (nI a))] [] h := by
  intro ls
  have fin : ∀ (b : Nat) (h : Hp), LI σ h p full → Sat true (d + 3) 26 σ.1 Q 6 [some (vr 21 p), some (vr 9 0), some (vi (nI o)), some (vi (nI x)), some (vi (nI b)), some (vi (nI x))] [] h := by
    intro b h hi
    refine wp_ok (cut := [6, 48]) ma_26 rfl 19 _ _ _ _ ?_
    show (((nI x) ≤ (nI x) → (Q none h ∧ h.1 = σ.1)) ∧ (¬ (nI x) ≤ (nI x) → (p < 12 ∧ (((nI 40) ≤ (hI h 21 p 8) → (Q none h ∧ h.1 = σ.1)) ∧ (¬ (nI 40) ≤ (hI h 21 p 8) → (vp_in (nI x) 1920 ∧ ((¬ (hI h 9 0 ((nI x).toNatClampNeg)) = (nI 91) → (vp_in (nI x) 1920 ∧ ((¬ (hI h 9 0 ((nI x).toNatClampNeg)) = (nI 93) → Sat true (d + 3) 26 σ.1 Q 6 [some (vr 21 p), some (vr 9 0), some (vi (nI o)), some (vi (nI x)), some (vi (nI b)), some (vi ((nI x) + nI 1))] [] h) ∧ ((hI h 9 0 ((nI x).toNatClampNeg)) = (nI 93) → Sat true (d + 3) 26 σ.1 Q 48 [some (vr 21 p), some (vr 9 0), some (vi (nI o)), some (vi (nI x)), some (vi (nI b)), some (vi (nI x))] [] h)))) ∧ ((hI h 9 0 ((nI x).toNatClampNeg)) = (nI 91) → Sat true (d + 3) 26 σ.1 Q 6 [some (vr 21 p), some (vr 9 0), some (vi (nI o)), some (vi (nI x)), some (vi ((nI x) + (nI 1))), some (vi ((nI x) + nI 1))] [] h))))))))
    exact ⟨fun _ => ⟨hQ h hi, hi.2.2.2.1⟩, fun g => absurd (Int32.le_refl _) g⟩
  induction ls with
  | nil =>
    intro a b h dn _ _ hxa hi hfu
    have hxa : x = a := hxa
    rw [show lkPg p a [] = [] from rfl, List.append_nil] at hfu
    rw [← hfu] at hi
    rw [← hxa]
    exact fin b h hi
  | cons l r ih =>
    intro a b h dn hg ht hxa hi hfu
    have gl := hg l List.mem_cons_self
    have gr : gPg r := fun y hy => hg y (List.mem_cons_of_mem _ hy)
    have hfu : full = dn ++ (lkLine p a l ++ lkPg p (a + (txLine l).length + 1) r) := hfu
    have one : ∀ (rest : List Lk), Tx (hI σ 9 0) a (txLine l) → a + (txLine l).length ≤ x → full = dn ++ (lkLine p a l ++ rest) → (∀ h' b', LI σ h' p (dn ++ lkLine p a l) → Sat true (d + 3) 26 σ.1 Q 6 [some (vr 21 p), some (vr 9 0), some (vi (nI o)), some (vi (nI x)), some (vi (nI b')), some (vi (nI (a + (txLine l).length)))] [] h') → Sat true (d + 3) 26 σ.1 Q 6 [some (vr 21 p), some (vr 9 0), some (vi (nI o)), some (vi (nI x)), some (vi (nI b)), some (vi (nI a))] [] h := by
      intro rest ht hl hfu k
      rcases l with vw | qs | es
      · exact s_skip hp hx hf hQ hi hfu b _ a (txLine_nb gl (fun es q => by cases q)) ht hl (k h b (by rw [show lkLine p a (.inl vw) = [] from rfl, List.append_nil]; exact hi))
      · exact s_skip hp hx hf hQ hi hfu b _ a (txLine_nb gl (fun es q => by cases q)) ht hl (k h b (by rw [show lkLine p a (.inr (.inl qs)) = [] from rfl, List.append_nil]; exact hi))
      · exact s_els hp hx h0 hf hQ es a b h dn rest gl.2 ht hl hi hfu k
    cases r with
    | nil =>
      have hxa : x = a + (txLine l).length := hxa
      refine one [] ht (by omega) hfu (fun h' b' hi' => ?_)
      rw [← hxa]
      refine fin b' h' ?_
      rw [show lkPg p (a + (txLine l).length + 1) [] = [] from rfl, List.append_nil] at hfu
      rw [hfu]
      exact hi'
    | cons f r' =>
      have ht : Tx (hI σ 9 0) a (txLine l ++ 59 :: txPg (f :: r')) := ht
      obtain ⟨t1, t2, t3⟩ := Tx_app.mp ht
      have hxa : x = a + (txLine l ++ 59 :: txPg (f :: r')).length := hxa
      rw [List.length_append, List.length_cons] at hxa
      refine one _ t1 (by omega) hfu (fun h' b' hi' => ?_)
      have hfu2 : full = (dn ++ lkLine p a l) ++ lkPg p (a + (txLine l).length + 1) (f :: r') := by rw [hfu, List.append_assoc]
      refine s_skip (d := d) (o := o) hp hx hf hQ hi' hfu2 b' [59] (a + (txLine l).length) (fun y hy => by rw [List.mem_singleton.mp hy]; decide) ⟨t2, trivial⟩ (by show a + (txLine l).length + 1 ≤ x; omega) ?_
      exact ih (a + (txLine l).length + 1) b' h' (dn ++ lkLine p a l) gr t3 (by omega) hi' hfu2
end
end
section
/-! the class's Outline: a page read -/
def isHd (l : Line) : Nat := match l with
  | .inl _ => 1
  | _ => 0
def nHd : List Line → Nat
  | [] => 0
  | l :: r => isHd l + nHd r
theorem nil_or_sn {α : Type} (l : List α) : l = [] ∨ ∃ a s, l = a ++ [s] := by
  rcases List.eq_nil_or_concat l with e | ⟨a, s, e⟩
  · exact Or.inl e
  · exact Or.inr ⟨a, s, by rw [e, List.concat_eq_append]⟩
theorem grow_len (sc : List (Nat × Nat)) (w : List Nat) : (grow sc w).length = sc.length := by
  rcases nil_or_sn sc with e | ⟨a, s, e⟩
  · rw [e]; rfl
  · rw [e, grow_sn, List.length_append, List.length_append]; rfl
theorem stS_len (sc : List (Nat × Nat)) (l : Line) : (stS sc l).length = sc.length + isHd l := by
  rcases l with vw | qs | es
  · show (sc ++ [(0, 7)]).length = _; rw [List.length_append]; rfl
  · exact grow_len sc _
  · exact grow_len sc _
theorem secs_len : ∀ (ls : List Line) (sc : List (Nat × Nat)), (ls.foldl stS sc).length = sc.length + nHd ls := by
  intro ls
  induction ls with
  | nil => intro sc; rfl
  | cons l r ih =>
    intro sc
    rw [List.foldl_cons, ih, stS_len]
    show _ = sc.length + (isHd l + nHd r)
    omega
theorem nHd_b : ∀ {ls : List Line}, gPg ls → 3 * nHd ls ≤ (txPg ls).length + 1 := by
  intro ls
  induction ls with
  | nil => intro _; exact Nat.zero_le _
  | cons l r ih =>
    intro h
    have h1 := txLine_len (h l List.mem_cons_self)
    have h2 := ih fun x hx => h x (List.mem_cons_of_mem _ hx)
    have h3 : 3 * isHd l ≤ (txLine l).length + 1 := by
      rcases l with ⟨v, w⟩ | qs | es
      · show 3 * 1 ≤ (List.replicate v 61 ++ w).length + 1
        obtain ⟨g1, g2, g3⟩ := h _ List.mem_cons_self
        have := txName_len g3
        rw [List.length_append, List.length_replicate]
        omega
      · exact Nat.zero_le _
      · exact Nat.zero_le _
    cases r with
    | nil =>
      show 3 * (isHd l + 0) ≤ (txLine l).length + 1
      omega
    | cons a b =>
      have e1 : (txPg (l :: a :: b)).length = (txLine l).length + ((txPg (a :: b)).length + 1) := by
        rw [txPg_cons l (fun q => by cases q), List.length_append, List.length_cons]
      have e2 : nHd (l :: a :: b) = isHd l + nHd (a :: b) := rfl
      omega
theorem nHd_app (a b : List Line) : nHd (a ++ b) = nHd a + nHd b := by
  induction a with
  | nil => show nHd b = 0 + nHd b; omega
  | cons l r ih =>
    show isHd l + nHd (r ++ b) = (isHd l + nHd r) + nHd b
    omega
theorem secs_b : ∀ (ls : List Line) (sc : List (Nat × Nat)) (n : Nat), (∀ s ∈ sc, s.1 ≤ n ∧ s.2 < 1000003) → ∀ s ∈ ls.foldl stS sc, s.1 ≤ n + ls.length ∧ s.2 < 1000003 := by
  intro ls
  induction ls with
  | nil => intro sc n h s hs; exact h s hs
  | cons l r ih =>
    intro sc n h s hs
    have hg : ∀ w, ∀ s ∈ grow sc w, s.1 ≤ n + 1 ∧ s.2 < 1000003 := by
      intro w s hs
      rcases nil_or_sn sc with e | ⟨a, s', e⟩
      · rw [e] at hs; cases hs
      · rw [e, grow_sn] at hs
        rcases List.mem_append.mp hs with q | q
        · have := h s (by rw [e]; exact List.mem_append.mpr (Or.inl q)); omega
        · have := h s' (by rw [e]; exact List.mem_append.mpr (Or.inr List.mem_cons_self))
          rw [List.mem_singleton.mp q]
          exact ⟨by show s'.1 + 1 ≤ n + 1; omega, dg_lt _ _⟩
    have := ih (stS sc l) (n + 1) (fun s hs => by
      rcases l with vw | qs | es
      · rcases List.mem_append.mp hs with q | q
        · have := h s q; omega
        · rw [List.mem_singleton.mp q]; exact ⟨by show 0 ≤ n + 1; omega, by decide⟩
      · exact hg _ s hs
      · exact hg _ s hs) s hs
    rw [List.length_cons]
    omega
theorem secs_bd {ls : List Line} {s : Nat × Nat} (h : s ∈ secs ls) : s.1 ≤ ls.length ∧ s.2 < 1000003 := by
  have := secs_b ls [] 0 (fun s hs => by cases hs) s h
  omega
theorem fold_sn {α β : Type} (f : β → α → β) (b : β) (l : List α) (x : α) : (l ++ [x]).foldl f b = f (l.foldl f b) x := by rw [List.foldl_append]; rfl
def OutF (p f i : Nat) : Prop := (21 ≤ f ∧ f ≤ 31) ∧ i = p
def SecR (σ : Hp) (p j : Nat) (s : Nat × Nat) : Prop := hI σ 30 p j = nI s.1 ∧ hI σ 31 p j = nI s.2
def OI (h : Hp) (p : Nat) (dl : List Line) : Prop := hI h 21 p 0 = nI p ∧ hI h 21 p 1 = nI dl.length ∧ All dl (KindC h p) ∧ hI h 21 p 6 = nI (nInc dl) ∧ hI h 21 p 7 = mInc dl ∧ hI h 21 p 13 = nI (secs dl).length ∧ All (secs dl) (SecR h p)
theorem txLine_s {l : Line} (h : gLine l) : ∀ y ∈ txLine l, y < 128 ∧ y ≠ 59 := by
  rcases l with ⟨v, w⟩ | ⟨q, s⟩ | es
  · intro y hy
    rcases List.mem_append.mp hy with e | e
    · rw [(List.mem_replicate.mp e).2]; decide
    · have := sm_rest (gName_r h.2.2).1 y e; omega
  · obtain ⟨h1, h2⟩ := h
    intro y hy
    cases s with
    | none =>
      have hy : y ∈ [123, 65 + q, 125] := hy
      simp only [List.mem_cons, List.not_mem_nil, or_false] at hy
      omega
    | some z =>
      have := h2 z rfl
      have hy : y ∈ [123, 65 + q, 43, 48 + z, 125] := hy
      simp only [List.mem_cons, List.not_mem_nil, or_false] at hy
      omega
  · have el : ∀ e, gEl e → ∀ y ∈ txEl e, y < 128 ∧ y ≠ 59 := by
      intro e ge y hy
      rcases e with w | ⟨l, a⟩
      · have := sm_rest (gName_r ge).1 y hy; omega
      · rcases List.mem_cons.mp hy with q | q
        · rw [q]; decide
        · rcases List.mem_append.mp q with q | q
          · rcases List.mem_append.mp q with q | q
            · cases l with
              | none => cases q
              | some p =>
                have := ge.1 p rfl
                rw [List.mem_singleton.mp q]; omega
            · cases a with
              | none => cases q
              | some x =>
                rcases List.mem_cons.mp q with e | e
                · rw [e]; decide
                · have := txAnc_s (ge.2.1 x rfl) y e; omega
          · rw [List.mem_singleton.mp q]; decide
    obtain ⟨hn, hg⟩ := h
    clear hn
    show ∀ y ∈ txEls es, y < 128 ∧ y ≠ 59
    induction es with
    | nil => intro y hy; cases hy
    | cons e r ih =>
      intro y hy
      cases r with
      | nil => exact el e (hg e List.mem_cons_self) y hy
      | cons f r' =>
        have hy : y ∈ txEl e ++ 44 :: txEls (f :: r') := hy
        rcases List.mem_append.mp hy with q | q
        · exact el e (hg e List.mem_cons_self) y q
        · rcases List.mem_cons.mp q with q | q
          · rw [q]; decide
          · exact ih (fun x hx => hg x (List.mem_cons_of_mem _ hx)) y q
theorem KindC_cong {h h' : Hp} {p j : Nat} {l : Line} (a : hI h' 22 p j = hI h 22 p j) (b : hL h' 23 p j = hL h 23 p j) (c : hI h' 24 p j = hI h 24 p j) (e : hI h' 25 p j = hI h 25 p j) (k : KindC h p j l) : KindC h' p j l := by
  rcases l with ⟨v, w⟩ | ⟨q, s⟩ | es
  · exact ⟨a.trans k.1, b.trans k.2⟩
  · exact ⟨a.trans k.1, c.trans k.2.1, e.trans k.2.2⟩
  · exact a.trans k
/-- the first sign of a line -/
theorem first_p {es : List Elem} (h : gLine (.inr (.inr es))) : ∃ c r, txEls es = c :: r ∧ c ≠ 61 ∧ c ≠ 123 ∧ c < 128 := by
  obtain ⟨hn, hg⟩ := h
  have one : ∀ e, gEl e → ∃ c r, txEl e = c :: r ∧ c ≠ 61 ∧ c ≠ 123 ∧ c < 128 := by
    intro e ge
    rcases e with w | ⟨l, a⟩
    · obtain ⟨c, r, e, ⟨c1, c2⟩, _⟩ := ge
      exact ⟨c, r, e, by omega, by omega, by omega⟩
    · exact ⟨91, _, rfl, by decide, by decide, by decide⟩
  cases es with
  | nil => exact absurd rfl hn
  | cons e r =>
    obtain ⟨c, r1, h1, h2⟩ := one e (hg e List.mem_cons_self)
    cases r with
    | nil => exact ⟨c, r1, h1, h2⟩
    | cons f r' =>
      refine ⟨c, r1 ++ 44 :: txEls (f :: r'), ?_, h2⟩
      show txEl e ++ 44 :: txEls (f :: r') = _
      rw [h1]
      rfl
/-- behind addLine: one line more, but for the count -/
def OL (σ h : Hp) (p : Nat) (dl : List Line) (l : Line) : Prop := hI h 21 p 1 = nI dl.length ∧ OI (setI h 21 p 1 (nI (dl.length + 1))) p (dl ++ [l]) ∧ hI h 21 p 8 = hI σ 21 p 8 ∧ Fr (OutF p) σ h
theorem OL_of {σ h : Hp} {p : Nat} {dl : List Line} {l : Line} (h0 : hI h 21 p 0 = nI p) (h1 : hI h 21 p 1 = nI dl.length) (hk : All dl (KindC h p)) (hl : KindC h p dl.length l) (h6 : hI h 21 p 6 = nI (stI (nInc dl) l)) (h7 : hI h 21 p 7 = stM (mInc dl) l) (h13 : hI h 21 p 13 = nI (stS (secs dl) l).length) (hs : All (stS (secs dl) l) (SecR h p)) (h8 : hI h 21 p 8 = hI σ 21 p 8) (hf : Fr (OutF p) σ h) : OL σ h p dl l := by
  refine ⟨h1, ⟨?_, ?_, ?_, ?_, ?_, ?_, ?_⟩, h8, hf⟩
  · rw [hI_k _ _ _ _ (by decide)]; exact h0
  · rw [hI_s, List.length_append]; rfl
  · exact All_snoc hk (fun j x _ k => KindC_cong rfl rfl rfl rfl k) (KindC_cong (h := h) rfl rfl rfl rfl hl)
  · rw [hI_k _ _ _ _ (by decide), h6]; unfold nInc; rw [fold_sn]
  · rw [hI_k _ _ _ _ (by decide), h7]; unfold mInc; rw [fold_sn]
  · rw [hI_k _ _ _ _ (by decide), h13]; unfold secs; rw [fold_sn]
  · unfold secs
    rw [fold_sn]
    exact hs
theorem e_addLine (d : Nat) {σ : Hp} {p o x : Nat} {dl : List Line} {l : Line} (hp : p < 12) (hi : OI σ p dl) (hl : gLine l) (hj : dl.length < 80) (hs : (secs dl).length + isHd l ≤ 53) (hx : x = o + (txLine l).length) (hN : x ≤ 1920) (ht : Tx (hI σ 9 0) o (txLine l)) : PV (d + 2) 23 [vr 21 p, vr 9 0, vi (nI o), vi (nI x)] σ (fun h => OL σ h p dl l) := by
  obtain ⟨h0, h1, hk, h6, h7, h13, hsc⟩ := hi
  have hlen := txLine_len hl
  have i1 : vp_in (nI o) 1920 := inb (by omega) (by omega)
  refine PV_of mt_23 (Nat.le_of_ble_eq_true rfl) fun Q hq => ?_
  rcases l with ⟨v, w⟩ | l2
  · obtain ⟨g1, g2, g3⟩ := hl
    have hs : (secs dl).length + 1 ≤ 53 := hs
    have t1 : hI σ 9 0 o = nI 61 := by
      obtain ⟨v', rfl⟩ : ∃ v', v = v' + 1 := ⟨v - 1, by omega⟩
      exact ht.1
    have hx : x = o + (List.replicate v 61 ++ w).length := hx
    rw [List.length_append, List.length_replicate] at hx
    refine wp_ok (cut := []) ma_23 rfl 25 _ _ _ _ ?_
    show (vp_in (nI o) 1920 ∧ ((¬ (hI σ 9 0 ((nI o).toNatClampNeg)) = (nI 61) → (vp_in (nI o) 1920 ∧ ((¬ (hI σ 9 0 ((nI o).toNatClampNeg)) = (nI 123) → (p < 12 ∧ (p < 12 ∧ (p < 12 ∧ (vp_in (hI σ 21 p 1) 80 ∧ (p < 12 ∧ (((hI σ 21 p 13) ≤ 0 → (Q none (setI σ 22 p ((hI σ 21 p 1).toNatClampNeg) (nI 0)) ∧ σ.1 = σ.1)) ∧ (¬ (hI σ 21 p 13) ≤ 0 → (p < 12 ∧ CalV true (d + 1) 27 [vr 21 p, vr 9 0, vi (nI o), vi (nI x)] (setI σ 22 p ((hI σ 21 p 1).toNatClampNeg) (nI 0)) σ.1 (fun s1 => (Q none s1 ∧ s1.1 = σ.1))))))))))) ∧ ((hI σ 9 0 ((nI o).toNatClampNeg)) = (nI 123) → (p < 12 ∧ CalV true (d + 1) 25 [vr 21 p, vr 9 0, vi (nI o), vi (nI x)] σ σ.1 (fun s2 => (p < 12 ∧ (((hI s2 21 p 13) ≤ 0 → (Q none s2 ∧ s2.1 = σ.1)) ∧ (¬ (hI s2 21 p 13) ≤ 0 → (p < 12 ∧ CalV true (d + 1) 27 [vr 21 p, vr 9 0, vi (nI o), vi (nI x)] s2 σ.1 (fun s3 => (Q none s3 ∧ s3.1 = σ.1)))))))))))) ∧ ((hI σ 9 0 ((nI o).toNatClampNeg)) = (nI 61) → (p < 12 ∧ CalV true (d + 1) 24 [vr 21 p, vr 9 0, vi (nI o), vi (nI x)] σ σ.1 (fun s4 => (Q none s4 ∧ s4.1 = σ.1))))))
    rw [ix (by omega), t1]
    refine ⟨i1, fun g => absurd rfl g, fun _ => ⟨hp, ?_⟩⟩
    refine cal_v (e_addHeading d σ hp hj (by omega) h1 h13 g3 g2 ht (by omega) hN) rfl ⟨hq _ ?_, rfl⟩
    refine OL_of ?_ ?_ ?_ ?_ ?_ ?_ ?_ ?_ ?_ ?_
    · simp (disch := omega) only [hI_s, hI_k, hI_f, hI_sL, hL_sI, hL_s, hL_k, hL_f]
      exact h0
    · simp (disch := omega) only [hI_s, hI_k, hI_f, hI_sL, hL_sI, hL_s, hL_k, hL_f]
      exact h1
    · exact All_mo hk fun j y hj k => KindC_cong (by simp (disch := omega) only [hI_s, hI_k, hI_f, hI_sL, hL_sI, hL_s, hL_k, hL_f]) (by simp (disch := omega) only [hI_s, hI_k, hI_f, hI_sL, hL_sI, hL_s, hL_k, hL_f]) (by simp (disch := omega) only [hI_s, hI_k, hI_f, hI_sL, hL_sI, hL_s, hL_k, hL_f]) (by simp (disch := omega) only [hI_s, hI_k, hI_f, hI_sL, hL_sI, hL_s, hL_k, hL_f]) k
    · exact ⟨by simp (disch := omega) only [hI_s, hI_k, hI_f, hI_sL, hL_sI, hL_s, hL_k, hL_f], by simp (disch := omega) only [hI_s, hI_k, hI_f, hI_sL, hL_sI, hL_s, hL_k, hL_f]⟩
    · simp (disch := omega) only [hI_s, hI_k, hI_f, hI_sL, hL_sI, hL_s, hL_k, hL_f]
      exact h6
    · simp (disch := omega) only [hI_s, hI_k, hI_f, hI_sL, hL_sI, hL_s, hL_k, hL_f]
      exact h7
    · simp (disch := omega) only [hI_s, hI_k, hI_f, hI_sL, hL_sI, hL_s, hL_k, hL_f]
      rw [stS_len]
      rfl
    · refine All_snoc hsc (fun j y hj k => ⟨?_, ?_⟩) ⟨?_, ?_⟩
      · simp (disch := omega) only [hI_s, hI_k, hI_f, hI_sL, hL_sI, hL_s, hL_k, hL_f]
        exact k.1
      · simp (disch := omega) only [hI_s, hI_k, hI_f, hI_sL, hL_sI, hL_s, hL_k, hL_f]
        exact k.2
      · simp (disch := omega) only [hI_s, hI_k, hI_f, hI_sL, hL_sI, hL_s, hL_k, hL_f]
      · simp (disch := omega) only [hI_s, hI_k, hI_f, hI_sL, hL_sI, hL_s, hL_k, hL_f]
    · simp (disch := omega) only [hI_s, hI_k, hI_f, hI_sL, hL_sI, hL_s, hL_k, hL_f]
    · exact ((((((Fr.rfl' (OutF p) σ).sI (f := 22) ⟨by omega, rfl⟩ _ _).sL (f := 23) ⟨by omega, rfl⟩ _ _).sI (f := 30) ⟨by omega, rfl⟩ _ _).sI (f := 31) ⟨by omega, rfl⟩ _ _).sI (f := 21) ⟨by omega, rfl⟩ _ _)
  · -- what follows for a line that is no heading
    have sm : small (txLine (.inr l2)) := fun y hy => (txLine_s hl y hy).1
    have grw : ∀ h, hI h 21 p 0 = nI p → hI h 21 p 1 = nI dl.length → All dl (KindC h p) → KindC h p dl.length (.inr l2) → hI h 21 p 6 = nI (stI (nInc dl) (.inr l2)) → hI h 21 p 7 = stM (mInc dl) (.inr l2) → hI h 21 p 13 = hI σ 21 p 13 → hI h 30 p = hI σ 30 p → hI h 31 p = hI σ 31 p → hI h 21 p 8 = hI σ 21 p 8 → Fr (OutF p) σ h → Sat true (d + 2) 23 σ.1 Q 44 [some (vr 21 p), some (vr 9 0), some (vi (nI o)), some (vi (nI x))] [] h := by
      intro h a0 a1 ak al a6 a7 a13 a30 a31 a8 af
      have t9 : Tx (hI h 9 0) o (txLine (.inr l2)) := by
        rw [(af.2 9 0 (fun q => by have := q.1; omega)).1]
        exact ht
      have es : stS (secs dl) (.inr l2) = grow (secs dl) (txLine (.inr l2)) := by rcases l2 with _ | _ <;> rfl
      refine wp_ok (cut := []) ma_23 rfl 9 _ _ _ _ ?_
      show (p < 12 ∧ (((hI h 21 p 13) ≤ 0 → (Q none h ∧ h.1 = σ.1)) ∧ (¬ (hI h 21 p 13) ≤ 0 → (p < 12 ∧ CalV true (d + 1) 27 [vr 21 p, vr 9 0, vi (nI o), vi (nI x)] h σ.1 (fun s1 => (Q none s1 ∧ s1.1 = σ.1))))))
      rw [a13, h13]
      refine ⟨hp, ?_⟩
      have hs : (secs dl).length + 0 ≤ 53 := by rcases l2 with _ | _ <;> exact hs
      refine br_le (b := 0) (by omega) (by omega) (fun g => ⟨hq _ (OL_of a0 a1 ak al a6 a7 ?_ ?_ a8 af), af.1⟩) (fun g => ⟨hp, ?_⟩)
      · rw [stS_len, a13, h13]; rcases l2 with _ | _ <;> rfl
      · have e0 : secs dl = [] := List.eq_nil_of_length_eq_zero (by omega)
        rw [es, e0]
        exact All_nil
      · rcases nil_or_sn (secs dl) with e | ⟨a, s, e⟩
        · rw [e] at g; cases g
        · have hms : s ∈ secs dl := by rw [e]; exact List.mem_append.mpr (Or.inr List.mem_cons_self)
          have hb := secs_bd hms
          have hla : (secs dl).length = a.length + 1 := by rw [e, List.length_append]; rfl
          obtain ⟨s1, s2⟩ := hsc a.length s (by rw [e, List.getElem?_append_right (Nat.le_refl _), Nat.sub_self]; rfl)
          have gs := e_growSection (d + 1) h (g := s.2) (c := nI s.1) (w := txLine (.inr l2)) hp (show a.length < 53 by omega) (by rw [a13, h13, hla]) (by rw [a31]; exact s2) hb.2 (by rw [a30]; exact s1) sm t9 hx hN
          refine cal_v gs af.1 ⟨hq _ ?_, af.1⟩
          refine OL_of ?_ ?_ ?_ ?_ ?_ ?_ ?_ ?_ ?_ ?_
          · simp (disch := omega) only [hI_s, hI_k, hI_f, hI_sL, hL_sI, hL_s, hL_k, hL_f]
            exact a0
          · simp (disch := omega) only [hI_s, hI_k, hI_f, hI_sL, hL_sI, hL_s, hL_k, hL_f]
            exact a1
          · exact All_mo ak fun j y hj k => KindC_cong (by simp (disch := omega) only [hI_s, hI_k, hI_f, hI_sL, hL_sI, hL_s, hL_k, hL_f]) (by simp (disch := omega) only [hI_s, hI_k, hI_f, hI_sL, hL_sI, hL_s, hL_k, hL_f]) (by simp (disch := omega) only [hI_s, hI_k, hI_f, hI_sL, hL_sI, hL_s, hL_k, hL_f]) (by simp (disch := omega) only [hI_s, hI_k, hI_f, hI_sL, hL_sI, hL_s, hL_k, hL_f]) k
          · exact KindC_cong (by simp (disch := omega) only [hI_s, hI_k, hI_f, hI_sL, hL_sI, hL_s, hL_k, hL_f]) (by simp (disch := omega) only [hI_s, hI_k, hI_f, hI_sL, hL_sI, hL_s, hL_k, hL_f]) (by simp (disch := omega) only [hI_s, hI_k, hI_f, hI_sL, hL_sI, hL_s, hL_k, hL_f]) (by simp (disch := omega) only [hI_s, hI_k, hI_f, hI_sL, hL_sI, hL_s, hL_k, hL_f]) al
          · simp (disch := omega) only [hI_s, hI_k, hI_f, hI_sL, hL_sI, hL_s, hL_k, hL_f]
            exact a6
          · simp (disch := omega) only [hI_s, hI_k, hI_f, hI_sL, hL_sI, hL_s, hL_k, hL_f]
            exact a7
          · simp (disch := omega) only [hI_s, hI_k, hI_f, hI_sL, hL_sI, hL_s, hL_k, hL_f]
            rw [stS_len, a13, h13]
            rcases l2 with _ | _ <;> rfl
          · rw [es, e, grow_sn]
            refine All_snoc (P := SecR σ p) (fun j y hy => hsc j y (by rw [e, List.getElem?_append_left (All_lt hy)]; exact hy)) (fun j y hj k => ⟨?_, ?_⟩) ⟨?_, ?_⟩
            · simp (disch := omega) only [hI_s, hI_k, hI_f, hI_sL, hL_sI, hL_s, hL_k, hL_f]
              rw [a30]
              exact k.1
            · simp (disch := omega) only [hI_s, hI_k, hI_f, hI_sL, hL_sI, hL_s, hL_k, hL_f]
              rw [a31]
              exact k.2
            · simp (disch := omega) only [hI_s, hI_k, hI_f, hI_sL, hL_sI, hL_s, hL_k, hL_f]
              rw [addN]
            · simp (disch := omega) only [hI_s, hI_k, hI_f, hI_sL, hL_sI, hL_s, hL_k, hL_f]
          · simp (disch := omega) only [hI_s, hI_k, hI_f, hI_sL, hL_sI, hL_s, hL_k, hL_f]
            exact a8
          · exact (af.sI (f := 31) ⟨by omega, rfl⟩ _ _).sI (f := 30) ⟨by omega, rfl⟩ _ _
    rcases l2 with ⟨q, s⟩ | es
    · obtain ⟨g1, g2⟩ := hl
      have t1 : hI σ 9 0 o = nI 123 := by cases s <;> exact ht.1
      refine wp_ok (cut := [44]) ma_23 rfl 16 _ _ _ _ ?_
      show (vp_in (nI o) 1920 ∧ ((¬ (hI σ 9 0 ((nI o).toNatClampNeg)) = (nI 61) → (vp_in (nI o) 1920 ∧ ((¬ (hI σ 9 0 ((nI o).toNatClampNeg)) = (nI 123) → (p < 12 ∧ (p < 12 ∧ (p < 12 ∧ (vp_in (hI σ 21 p 1) 80 ∧ Sat true (d + 2) 23 σ.1 Q 44 [some (vr 21 p), some (vr 9 0), some (vi (nI o)), some (vi (nI x))] [] (setI σ 22 p ((hI σ 21 p 1).toNatClampNeg) (nI 0))))))) ∧ ((hI σ 9 0 ((nI o).toNatClampNeg)) = (nI 123) → (p < 12 ∧ CalV true (d + 1) 25 [vr 21 p, vr 9 0, vi (nI o), vi (nI x)] σ σ.1 (fun s1 => Sat true (d + 2) 23 σ.1 Q 44 [some (vr 21 p), some (vr 9 0), some (vi (nI o)), some (vi (nI x))] [] s1)))))) ∧ ((hI σ 9 0 ((nI o).toNatClampNeg)) = (nI 61) → (p < 12 ∧ CalV true (d + 1) 24 [vr 21 p, vr 9 0, vi (nI o), vi (nI x)] σ σ.1 (fun s2 => (Q none s2 ∧ s2.1 = σ.1))))))
      rw [ix (by omega), t1]
      refine ⟨i1, fun _ => ⟨i1, fun g => absurd rfl g, fun _ => ⟨hp, ?_⟩⟩, fun g => absurd g (by decide)⟩
      refine cal_v (e_addInclude (d + 1) σ hp hj h1 h6 g1 g2 ht hx hN) rfl ?_
      refine grw _ ?_ ?_ ?_ ?_ ?_ ?_ ?_ ?_ ?_ ?_ ?_
      · simp (disch := omega) only [hI_s, hI_k, hI_f, hI_sL, hL_sI, hL_s, hL_k, hL_f]
        exact h0
      · simp (disch := omega) only [hI_s, hI_k, hI_f, hI_sL, hL_sI, hL_s, hL_k, hL_f]
        exact h1
      · exact All_mo hk fun j y hj k => KindC_cong (by simp (disch := omega) only [hI_s, hI_k, hI_f, hI_sL, hL_sI, hL_s, hL_k, hL_f]) (by simp (disch := omega) only [hI_s, hI_k, hI_f, hI_sL, hL_sI, hL_s, hL_k, hL_f]) (by simp (disch := omega) only [hI_s, hI_k, hI_f, hI_sL, hL_sI, hL_s, hL_k, hL_f]) (by simp (disch := omega) only [hI_s, hI_k, hI_f, hI_sL, hL_sI, hL_s, hL_k, hL_f]) k
      · exact ⟨by simp (disch := omega) only [hI_s, hI_k, hI_f, hI_sL, hL_sI, hL_s, hL_k, hL_f], by simp (disch := omega) only [hI_s, hI_k, hI_f, hI_sL, hL_sI, hL_s, hL_k, hL_f], by simp (disch := omega) only [hI_s, hI_k, hI_f, hI_sL, hL_sI, hL_s, hL_k, hL_f]⟩
      · simp (disch := omega) only [hI_s, hI_k, hI_f, hI_sL, hL_sI, hL_s, hL_k, hL_f]
        rfl
      · simp (disch := omega) only [hI_s, hI_k, hI_f, hI_sL, hL_sI, hL_s, hL_k, hL_f]
        rw [h7]
        rfl
      · simp (disch := omega) only [hI_s, hI_k, hI_f, hI_sL, hL_sI, hL_s, hL_k, hL_f]
      · simp (disch := omega) only [hI_s, hI_k, hI_f, hI_sL, hL_sI, hL_s, hL_k, hL_f]
      · simp (disch := omega) only [hI_s, hI_k, hI_f, hI_sL, hL_sI, hL_s, hL_k, hL_f]
      · simp (disch := omega) only [hI_s, hI_k, hI_f, hI_sL, hL_sI, hL_s, hL_k, hL_f]
      · exact (((((Fr.rfl' (OutF p) σ).sI (f := 22) ⟨by omega, rfl⟩ _ _).sI (f := 24) ⟨by omega, rfl⟩ _ _).sI (f := 25) ⟨by omega, rfl⟩ _ _).sI (f := 21) ⟨by omega, rfl⟩ _ _).sI (f := 21) ⟨by omega, rfl⟩ _ _
    · obtain ⟨c, r, ec, c1, c2, c3⟩ := first_p hl
      have t1 : hI σ 9 0 o = nI c := by
        have ht : Tx (hI σ 9 0) o (txEls es) := ht
        rw [ec] at ht
        exact ht.1
      refine wp_ok (cut := [44]) ma_23 rfl 16 _ _ _ _ ?_
      show (vp_in (nI o) 1920 ∧ ((¬ (hI σ 9 0 ((nI o).toNatClampNeg)) = (nI 61) → (vp_in (nI o) 1920 ∧ ((¬ (hI σ 9 0 ((nI o).toNatClampNeg)) = (nI 123) → (p < 12 ∧ (p < 12 ∧ (p < 12 ∧ (vp_in (hI σ 21 p 1) 80 ∧ Sat true (d + 2) 23 σ.1 Q 44 [some (vr 21 p), some (vr 9 0), some (vi (nI o)), some (vi (nI x))] [] (setI σ 22 p ((hI σ 21 p 1).toNatClampNeg) (nI 0))))))) ∧ ((hI σ 9 0 ((nI o).toNatClampNeg)) = (nI 123) → (p < 12 ∧ CalV true (d + 1) 25 [vr 21 p, vr 9 0, vi (nI o), vi (nI x)] σ σ.1 (fun s1 => Sat true (d + 2) 23 σ.1 Q 44 [some (vr 21 p), some (vr 9 0), some (vi (nI o)), some (vi (nI x))] [] s1)))))) ∧ ((hI σ 9 0 ((nI o).toNatClampNeg)) = (nI 61) → (p < 12 ∧ CalV true (d + 1) 24 [vr 21 p, vr 9 0, vi (nI o), vi (nI x)] σ σ.1 (fun s2 => (Q none s2 ∧ s2.1 = σ.1))))))
      rw [ix (by omega), t1, h1, ix (by omega)]
      refine ⟨i1, br_ne (by omega) (by omega) (fun _ => ⟨i1, br_ne (by omega) (by omega) (fun _ => ⟨hp, hp, hp, inb (by omega) (by omega), ?_⟩) (fun g => absurd g c2)⟩) (fun g => absurd g c1)⟩
      refine grw _ ?_ ?_ ?_ ?_ ?_ ?_ ?_ ?_ ?_ ?_ ?_
      · simp (disch := omega) only [hI_s, hI_k, hI_f, hI_sL, hL_sI, hL_s, hL_k, hL_f]
        exact h0
      · simp (disch := omega) only [hI_s, hI_k, hI_f, hI_sL, hL_sI, hL_s, hL_k, hL_f]
        exact h1
      · exact All_mo hk fun j y hj k => KindC_cong (by simp (disch := omega) only [hI_s, hI_k, hI_f, hI_sL, hL_sI, hL_s, hL_k, hL_f]) (by simp (disch := omega) only [hI_s, hI_k, hI_f, hI_sL, hL_sI, hL_s, hL_k, hL_f]) (by simp (disch := omega) only [hI_s, hI_k, hI_f, hI_sL, hL_sI, hL_s, hL_k, hL_f]) (by simp (disch := omega) only [hI_s, hI_k, hI_f, hI_sL, hL_sI, hL_s, hL_k, hL_f]) k
      · show hI (setI σ 22 p dl.length (nI 0)) 22 p dl.length = nI 0
        simp (disch := omega) only [hI_s, hI_k, hI_f, hI_sL, hL_sI, hL_s, hL_k, hL_f]
      · simp (disch := omega) only [hI_s, hI_k, hI_f, hI_sL, hL_sI, hL_s, hL_k, hL_f]
        exact h6
      · simp (disch := omega) only [hI_s, hI_k, hI_f, hI_sL, hL_sI, hL_s, hL_k, hL_f]
        exact h7
      · simp (disch := omega) only [hI_s, hI_k, hI_f, hI_sL, hL_sI, hL_s, hL_k, hL_f]
      · simp (disch := omega) only [hI_s, hI_k, hI_f, hI_sL, hL_sI, hL_s, hL_k, hL_f]
      · simp (disch := omega) only [hI_s, hI_k, hI_f, hI_sL, hL_sI, hL_s, hL_k, hL_f]
      · simp (disch := omega) only [hI_s, hI_k, hI_f, hI_sL, hL_sI, hL_s, hL_k, hL_f]
      · exact (Fr.rfl' (OutF p) σ).sI (f := 22) ⟨by omega, rfl⟩ _ _
end
