section
/-- a private method of a class that the tables say can be made, by its rows of tables_1 -/
def lw_okq (q : MethodName × Nat) : Prop := (q.1.cls ≠ "java/lang/invoke/MethodHandle" ∧ q.1.cls ≠ "java/lang/invoke/VarHandle") ∧ Cond.instantiable q.1.cls q.2 ∈ tables_1 ∧ Cond.privateMethod q.1 ∈ tables_1 ∧ Cond.instanceMethod q.1 ∈ tables_1
theorem lw_p0 : lw_okq (⟨"ThreeVoices$Reader", "readToken", "()V"⟩, 7) := ⟨⟨by decide +kernel, by decide +kernel⟩, List.mem_of_getElem? (i := 103) (by decide +kernel), List.mem_of_getElem? (i := 232) (by decide +kernel), List.mem_of_getElem? (i := 233) (by decide +kernel)⟩
theorem lw_p1 : lw_okq (⟨"ThreeVoices$Reader", "readWord", "()V"⟩, 7) := ⟨⟨by decide +kernel, by decide +kernel⟩, List.mem_of_getElem? (i := 103) (by decide +kernel), List.mem_of_getElem? (i := 243) (by decide +kernel), List.mem_of_getElem? (i := 244) (by decide +kernel)⟩
theorem lw_p2 : lw_okq (⟨"ThreeVoices$Reader", "readDigits", "()V"⟩, 7) := ⟨⟨by decide +kernel, by decide +kernel⟩, List.mem_of_getElem? (i := 103) (by decide +kernel), List.mem_of_getElem? (i := 250) (by decide +kernel), List.mem_of_getElem? (i := 251) (by decide +kernel)⟩
theorem lw_p3 : lw_okq (⟨"ThreeVoices$Reader", "readItem", "()Z"⟩, 7) := ⟨⟨by decide +kernel, by decide +kernel⟩, List.mem_of_getElem? (i := 103) (by decide +kernel), List.mem_of_getElem? (i := 257) (by decide +kernel), List.mem_of_getElem? (i := 258) (by decide +kernel)⟩
theorem lw_p4 : lw_okq (⟨"ThreeVoices$Reader", "isWord", "(Ljava/lang/String;)Z"⟩, 7) := ⟨⟨by decide +kernel, by decide +kernel⟩, List.mem_of_getElem? (i := 103) (by decide +kernel), List.mem_of_getElem? (i := 262) (by decide +kernel), List.mem_of_getElem? (i := 263) (by decide +kernel)⟩
theorem lw_p5 : lw_okq (⟨"ThreeVoices$Reader", "readPerson", "()Z"⟩, 7) := ⟨⟨by decide +kernel, by decide +kernel⟩, List.mem_of_getElem? (i := 103) (by decide +kernel), List.mem_of_getElem? (i := 314) (by decide +kernel), List.mem_of_getElem? (i := 315) (by decide +kernel)⟩
theorem lw_p6 : lw_okq (⟨"ThreeVoices$Reader", "readNumber", "(II)Z"⟩, 7) := ⟨⟨by decide +kernel, by decide +kernel⟩, List.mem_of_getElem? (i := 103) (by decide +kernel), List.mem_of_getElem? (i := 318) (by decide +kernel), List.mem_of_getElem? (i := 319) (by decide +kernel)⟩
theorem lw_p7 : lw_okq (⟨"ThreeVoices$Reader", "readStop", "()Z"⟩, 7) := ⟨⟨by decide +kernel, by decide +kernel⟩, List.mem_of_getElem? (i := 103) (by decide +kernel), List.mem_of_getElem? (i := 322) (by decide +kernel), List.mem_of_getElem? (i := 323) (by decide +kernel)⟩
theorem lw_p8 : lw_okq (⟨"ThreeVoices$Reader", "sortOfWord", "()I"⟩, 7) := ⟨⟨by decide +kernel, by decide +kernel⟩, List.mem_of_getElem? (i := 103) (by decide +kernel), List.mem_of_getElem? (i := 330) (by decide +kernel), List.mem_of_getElem? (i := 331) (by decide +kernel)⟩
theorem lw_p9 : lw_okq (⟨"ThreeVoices$Reader", "readEvent", "(I)Z"⟩, 7) := ⟨⟨by decide +kernel, by decide +kernel⟩, List.mem_of_getElem? (i := 103) (by decide +kernel), List.mem_of_getElem? (i := 339) (by decide +kernel), List.mem_of_getElem? (i := 340) (by decide +kernel)⟩
theorem lw_p10 : lw_okq (⟨"ThreeVoices", "tellStory", "(II)V"⟩, 11) := ⟨⟨by decide +kernel, by decide +kernel⟩, List.mem_of_getElem? (i := 16) (by decide +kernel), List.mem_of_getElem? (i := 404) (by decide +kernel), List.mem_of_getElem? (i := 405) (by decide +kernel)⟩
theorem lw_p11 : lw_okq (⟨"ThreeVoices$Story", "think", "(I)V"⟩, 8) := ⟨⟨by decide +kernel, by decide +kernel⟩, List.mem_of_getElem? (i := 138) (by decide +kernel), List.mem_of_getElem? (i := 419) (by decide +kernel), List.mem_of_getElem? (i := 420) (by decide +kernel)⟩
theorem lw_p12 : lw_okq (⟨"ThreeVoices$Story", "say", "(II)V"⟩, 8) := ⟨⟨by decide +kernel, by decide +kernel⟩, List.mem_of_getElem? (i := 138) (by decide +kernel), List.mem_of_getElem? (i := 423) (by decide +kernel), List.mem_of_getElem? (i := 424) (by decide +kernel)⟩
theorem lw_p13 : lw_okq (⟨"ThreeVoices$Story", "leastThird", "(II)I"⟩, 8) := ⟨⟨by decide +kernel, by decide +kernel⟩, List.mem_of_getElem? (i := 138) (by decide +kernel), List.mem_of_getElem? (i := 431) (by decide +kernel), List.mem_of_getElem? (i := 432) (by decide +kernel)⟩
theorem lw_p14 : lw_okq (⟨"ThreeVoices", "fewestAgainst", "(I)I"⟩, 11) := ⟨⟨by decide +kernel, by decide +kernel⟩, List.mem_of_getElem? (i := 16) (by decide +kernel), List.mem_of_getElem? (i := 451) (by decide +kernel), List.mem_of_getElem? (i := 452) (by decide +kernel)⟩
theorem lw_p15 : lw_okq (⟨"ThreeVoices", "isLawWith", "(II)Z"⟩, 11) := ⟨⟨by decide +kernel, by decide +kernel⟩, List.mem_of_getElem? (i := 16) (by decide +kernel), List.mem_of_getElem? (i := 461) (by decide +kernel), List.mem_of_getElem? (i := 462) (by decide +kernel)⟩
def lw_privs_1 : List (MethodName × Nat) := [(⟨"ThreeVoices$Reader", "readToken", "()V"⟩, 7), (⟨"ThreeVoices$Reader", "readWord", "()V"⟩, 7), (⟨"ThreeVoices$Reader", "readDigits", "()V"⟩, 7), (⟨"ThreeVoices$Reader", "readItem", "()Z"⟩, 7), (⟨"ThreeVoices$Reader", "isWord", "(Ljava/lang/String;)Z"⟩, 7), (⟨"ThreeVoices$Reader", "readPerson", "()Z"⟩, 7), (⟨"ThreeVoices$Reader", "readNumber", "(II)Z"⟩, 7), (⟨"ThreeVoices$Reader", "readStop", "()Z"⟩, 7), (⟨"ThreeVoices$Reader", "sortOfWord", "()I"⟩, 7), (⟨"ThreeVoices$Reader", "readEvent", "(I)Z"⟩, 7), (⟨"ThreeVoices", "tellStory", "(II)V"⟩, 11), (⟨"ThreeVoices$Story", "think", "(I)V"⟩, 8), (⟨"ThreeVoices$Story", "say", "(II)V"⟩, 8), (⟨"ThreeVoices$Story", "leastThird", "(II)I"⟩, 8), (⟨"ThreeVoices", "fewestAgainst", "(I)I"⟩, 11), (⟨"ThreeVoices", "isLawWith", "(II)Z"⟩, 11)]
theorem lw_r1 : ∀ q ∈ lw_privs_1, lw_okq q := List.forall_mem_cons.mpr ⟨lw_p0, List.forall_mem_cons.mpr ⟨lw_p1, List.forall_mem_cons.mpr ⟨lw_p2, List.forall_mem_cons.mpr ⟨lw_p3, List.forall_mem_cons.mpr ⟨lw_p4, List.forall_mem_cons.mpr ⟨lw_p5, List.forall_mem_cons.mpr ⟨lw_p6, List.forall_mem_cons.mpr ⟨lw_p7, List.forall_mem_cons.mpr ⟨lw_p8, List.forall_mem_cons.mpr ⟨lw_p9, List.forall_mem_cons.mpr ⟨lw_p10, List.forall_mem_cons.mpr ⟨lw_p11, List.forall_mem_cons.mpr ⟨lw_p12, List.forall_mem_cons.mpr ⟨lw_p13, List.forall_mem_cons.mpr ⟨lw_p14, List.forall_mem_cons.mpr ⟨lw_p15, fun _ h => absurd h List.not_mem_nil⟩⟩⟩⟩⟩⟩⟩⟩⟩⟩⟩⟩⟩⟩⟩⟩
theorem lw_p16 : lw_okq (⟨"ThreeVoices", "maybesThatCarry", "(I)I"⟩, 11) := ⟨⟨by decide +kernel, by decide +kernel⟩, List.mem_of_getElem? (i := 16) (by decide +kernel), List.mem_of_getElem? (i := 477) (by decide +kernel), List.mem_of_getElem? (i := 478) (by decide +kernel)⟩
theorem lw_p17 : lw_okq (⟨"ThreeVoices", "fewestChosen", "(IIZ)I"⟩, 11) := ⟨⟨by decide +kernel, by decide +kernel⟩, List.mem_of_getElem? (i := 16) (by decide +kernel), List.mem_of_getElem? (i := 488) (by decide +kernel), List.mem_of_getElem? (i := 489) (by decide +kernel)⟩
theorem lw_p18 : lw_okq (⟨"ThreeVoices", "tellAhead", "(II)V"⟩, 11) := ⟨⟨by decide +kernel, by decide +kernel⟩, List.mem_of_getElem? (i := 16) (by decide +kernel), List.mem_of_getElem? (i := 492) (by decide +kernel), List.mem_of_getElem? (i := 493) (by decide +kernel)⟩
theorem lw_p19 : lw_okq (⟨"ThreeVoices", "isLawIf", "(IZI)Z"⟩, 11) := ⟨⟨by decide +kernel, by decide +kernel⟩, List.mem_of_getElem? (i := 16) (by decide +kernel), List.mem_of_getElem? (i := 500) (by decide +kernel), List.mem_of_getElem? (i := 501) (by decide +kernel)⟩
theorem lw_p20 : lw_okq (⟨"ThreeVoices", "isLawByTurns", "(II)Z"⟩, 11) := ⟨⟨by decide +kernel, by decide +kernel⟩, List.mem_of_getElem? (i := 16) (by decide +kernel), List.mem_of_getElem? (i := 522) (by decide +kernel), List.mem_of_getElem? (i := 523) (by decide +kernel)⟩
theorem lw_p21 : lw_okq (⟨"ThreeVoices", "isReachedBy", "(III)Z"⟩, 11) := ⟨⟨by decide +kernel, by decide +kernel⟩, List.mem_of_getElem? (i := 16) (by decide +kernel), List.mem_of_getElem? (i := 526) (by decide +kernel), List.mem_of_getElem? (i := 527) (by decide +kernel)⟩
theorem lw_p22 : lw_okq (⟨"ThreeVoices", "thingsHadAt", "(III)I"⟩, 11) := ⟨⟨by decide +kernel, by decide +kernel⟩, List.mem_of_getElem? (i := 16) (by decide +kernel), List.mem_of_getElem? (i := 534) (by decide +kernel), List.mem_of_getElem? (i := 535) (by decide +kernel)⟩
theorem lw_p23 : lw_okq (⟨"ThreeVoices", "markHeard", "(I)I"⟩, 11) := ⟨⟨by decide +kernel, by decide +kernel⟩, List.mem_of_getElem? (i := 16) (by decide +kernel), List.mem_of_getElem? (i := 565) (by decide +kernel), List.mem_of_getElem? (i := 566) (by decide +kernel)⟩
theorem lw_p24 : lw_okq (⟨"ThreeVoices", "markSaying", "(I)I"⟩, 11) := ⟨⟨by decide +kernel, by decide +kernel⟩, List.mem_of_getElem? (i := 16) (by decide +kernel), List.mem_of_getElem? (i := 570) (by decide +kernel), List.mem_of_getElem? (i := 571) (by decide +kernel)⟩
theorem lw_p25 : lw_okq (⟨"ThreeVoices", "markOwn", "(I)I"⟩, 11) := ⟨⟨by decide +kernel, by decide +kernel⟩, List.mem_of_getElem? (i := 16) (by decide +kernel), List.mem_of_getElem? (i := 574) (by decide +kernel), List.mem_of_getElem? (i := 575) (by decide +kernel)⟩
theorem lw_p26 : lw_okq (⟨"ThreeVoices", "markSong", "(II)I"⟩, 11) := ⟨⟨by decide +kernel, by decide +kernel⟩, List.mem_of_getElem? (i := 16) (by decide +kernel), List.mem_of_getElem? (i := 579) (by decide +kernel), List.mem_of_getElem? (i := 580) (by decide +kernel)⟩
theorem lw_p27 : lw_okq (⟨"ThreeVoices", "markHum", "(I)I"⟩, 11) := ⟨⟨by decide +kernel, by decide +kernel⟩, List.mem_of_getElem? (i := 16) (by decide +kernel), List.mem_of_getElem? (i := 584) (by decide +kernel), List.mem_of_getElem? (i := 585) (by decide +kernel)⟩
theorem lw_p28 : lw_okq (⟨"ThreeVoices", "markWritten", "(I)I"⟩, 11) := ⟨⟨by decide +kernel, by decide +kernel⟩, List.mem_of_getElem? (i := 16) (by decide +kernel), List.mem_of_getElem? (i := 589) (by decide +kernel), List.mem_of_getElem? (i := 590) (by decide +kernel)⟩
theorem lw_p29 : lw_okq (⟨"ThreeVoicesModel", "next", "()V"⟩, 31) := ⟨⟨by decide +kernel, by decide +kernel⟩, List.mem_of_getElem? (i := 610) (by decide +kernel), List.mem_of_getElem? (i := 727) (by decide +kernel), List.mem_of_getElem? (i := 728) (by decide +kernel)⟩
theorem lw_p30 : lw_okq (⟨"ThreeVoicesModel", "here", "()I"⟩, 31) := ⟨⟨by decide +kernel, by decide +kernel⟩, List.mem_of_getElem? (i := 610) (by decide +kernel), List.mem_of_getElem? (i := 731) (by decide +kernel), List.mem_of_getElem? (i := 732) (by decide +kernel)⟩
theorem lw_p31 : lw_okq (⟨"ThreeVoicesModel", "readItem", "()V"⟩, 31) := ⟨⟨by decide +kernel, by decide +kernel⟩, List.mem_of_getElem? (i := 610) (by decide +kernel), List.mem_of_getElem? (i := 738) (by decide +kernel), List.mem_of_getElem? (i := 739) (by decide +kernel)⟩
def lw_privs_2 : List (MethodName × Nat) := [(⟨"ThreeVoices", "maybesThatCarry", "(I)I"⟩, 11), (⟨"ThreeVoices", "fewestChosen", "(IIZ)I"⟩, 11), (⟨"ThreeVoices", "tellAhead", "(II)V"⟩, 11), (⟨"ThreeVoices", "isLawIf", "(IZI)Z"⟩, 11), (⟨"ThreeVoices", "isLawByTurns", "(II)Z"⟩, 11), (⟨"ThreeVoices", "isReachedBy", "(III)Z"⟩, 11), (⟨"ThreeVoices", "thingsHadAt", "(III)I"⟩, 11), (⟨"ThreeVoices", "markHeard", "(I)I"⟩, 11), (⟨"ThreeVoices", "markSaying", "(I)I"⟩, 11), (⟨"ThreeVoices", "markOwn", "(I)I"⟩, 11), (⟨"ThreeVoices", "markSong", "(II)I"⟩, 11), (⟨"ThreeVoices", "markHum", "(I)I"⟩, 11), (⟨"ThreeVoices", "markWritten", "(I)I"⟩, 11), (⟨"ThreeVoicesModel", "next", "()V"⟩, 31), (⟨"ThreeVoicesModel", "here", "()I"⟩, 31), (⟨"ThreeVoicesModel", "readItem", "()V"⟩, 31)]
theorem lw_r2 : ∀ q ∈ lw_privs_2, lw_okq q := List.forall_mem_cons.mpr ⟨lw_p16, List.forall_mem_cons.mpr ⟨lw_p17, List.forall_mem_cons.mpr ⟨lw_p18, List.forall_mem_cons.mpr ⟨lw_p19, List.forall_mem_cons.mpr ⟨lw_p20, List.forall_mem_cons.mpr ⟨lw_p21, List.forall_mem_cons.mpr ⟨lw_p22, List.forall_mem_cons.mpr ⟨lw_p23, List.forall_mem_cons.mpr ⟨lw_p24, List.forall_mem_cons.mpr ⟨lw_p25, List.forall_mem_cons.mpr ⟨lw_p26, List.forall_mem_cons.mpr ⟨lw_p27, List.forall_mem_cons.mpr ⟨lw_p28, List.forall_mem_cons.mpr ⟨lw_p29, List.forall_mem_cons.mpr ⟨lw_p30, List.forall_mem_cons.mpr ⟨lw_p31, fun _ h => absurd h List.not_mem_nil⟩⟩⟩⟩⟩⟩⟩⟩⟩⟩⟩⟩⟩⟩⟩⟩
theorem lw_p32 : lw_okq (⟨"ThreeVoicesModel", "maybesIn", "(I)I"⟩, 31) := ⟨⟨by decide +kernel, by decide +kernel⟩, List.mem_of_getElem? (i := 610) (by decide +kernel), List.mem_of_getElem? (i := 742) (by decide +kernel), List.mem_of_getElem? (i := 743) (by decide +kernel)⟩
theorem lw_p33 : lw_okq (⟨"ThreeVoicesModel", "due", "(Z)I"⟩, 31) := ⟨⟨by decide +kernel, by decide +kernel⟩, List.mem_of_getElem? (i := 610) (by decide +kernel), List.mem_of_getElem? (i := 746) (by decide +kernel), List.mem_of_getElem? (i := 747) (by decide +kernel)⟩
theorem lw_p34 : lw_okq (⟨"ThreeVoicesModel", "number", "(II)I"⟩, 31) := ⟨⟨by decide +kernel, by decide +kernel⟩, List.mem_of_getElem? (i := 610) (by decide +kernel), List.mem_of_getElem? (i := 750) (by decide +kernel), List.mem_of_getElem? (i := 751) (by decide +kernel)⟩
theorem lw_p35 : lw_okq (⟨"ThreeVoicesModel", "copy", "(II)V"⟩, 31) := ⟨⟨by decide +kernel, by decide +kernel⟩, List.mem_of_getElem? (i := 610) (by decide +kernel), List.mem_of_getElem? (i := 754) (by decide +kernel), List.mem_of_getElem? (i := 755) (by decide +kernel)⟩
theorem lw_p36 : lw_okq (⟨"ThreeVoicesModel", "isOne", "(I)Z"⟩, 31) := ⟨⟨by decide +kernel, by decide +kernel⟩, List.mem_of_getElem? (i := 610) (by decide +kernel), List.mem_of_getElem? (i := 766) (by decide +kernel), List.mem_of_getElem? (i := 767) (by decide +kernel)⟩
theorem lw_p37 : lw_okq (⟨"ThreeVoicesModel", "goPlain", "(I)V"⟩, 31) := ⟨⟨by decide +kernel, by decide +kernel⟩, List.mem_of_getElem? (i := 610) (by decide +kernel), List.mem_of_getElem? (i := 785) (by decide +kernel), List.mem_of_getElem? (i := 786) (by decide +kernel)⟩
theorem lw_p38 : lw_okq (⟨"ThreeVoicesModel", "plain", "()V"⟩, 31) := ⟨⟨by decide +kernel, by decide +kernel⟩, List.mem_of_getElem? (i := 610) (by decide +kernel), List.mem_of_getElem? (i := 789) (by decide +kernel), List.mem_of_getElem? (i := 790) (by decide +kernel)⟩
theorem lw_p39 : lw_okq (⟨"ThreeVoicesModel", "go", "(I)V"⟩, 31) := ⟨⟨by decide +kernel, by decide +kernel⟩, List.mem_of_getElem? (i := 610) (by decide +kernel), List.mem_of_getElem? (i := 793) (by decide +kernel), List.mem_of_getElem? (i := 794) (by decide +kernel)⟩
theorem lw_p40 : lw_okq (⟨"ThreeVoicesModel", "act", "()V"⟩, 31) := ⟨⟨by decide +kernel, by decide +kernel⟩, List.mem_of_getElem? (i := 610) (by decide +kernel), List.mem_of_getElem? (i := 797) (by decide +kernel), List.mem_of_getElem? (i := 798) (by decide +kernel)⟩
theorem lw_p41 : lw_okq (⟨"ThreeVoicesModel", "think", "(II)V"⟩, 31) := ⟨⟨by decide +kernel, by decide +kernel⟩, List.mem_of_getElem? (i := 610) (by decide +kernel), List.mem_of_getElem? (i := 801) (by decide +kernel), List.mem_of_getElem? (i := 802) (by decide +kernel)⟩
theorem lw_p42 : lw_okq (⟨"ThreeVoicesModel", "speak", "(III)V"⟩, 31) := ⟨⟨by decide +kernel, by decide +kernel⟩, List.mem_of_getElem? (i := 610) (by decide +kernel), List.mem_of_getElem? (i := 805) (by decide +kernel), List.mem_of_getElem? (i := 806) (by decide +kernel)⟩
theorem lw_p43 : lw_okq (⟨"ThreeVoicesModel", "areApart", "(IIII)Z"⟩, 31) := ⟨⟨by decide +kernel, by decide +kernel⟩, List.mem_of_getElem? (i := 610) (by decide +kernel), List.mem_of_getElem? (i := 809) (by decide +kernel), List.mem_of_getElem? (i := 810) (by decide +kernel)⟩
theorem lw_p44 : lw_okq (⟨"ThreeVoicesModel", "hasAny", "(I)Z"⟩, 31) := ⟨⟨by decide +kernel, by decide +kernel⟩, List.mem_of_getElem? (i := 610) (by decide +kernel), List.mem_of_getElem? (i := 813) (by decide +kernel), List.mem_of_getElem? (i := 814) (by decide +kernel)⟩
theorem lw_p45 : lw_okq (⟨"ThreeVoicesModel", "goEvent", "(I)V"⟩, 31) := ⟨⟨by decide +kernel, by decide +kernel⟩, List.mem_of_getElem? (i := 610) (by decide +kernel), List.mem_of_getElem? (i := 817) (by decide +kernel), List.mem_of_getElem? (i := 818) (by decide +kernel)⟩
theorem lw_p46 : lw_okq (⟨"ThreeVoicesModel", "fallsBy", "(I)I"⟩, 31) := ⟨⟨by decide +kernel, by decide +kernel⟩, List.mem_of_getElem? (i := 610) (by decide +kernel), List.mem_of_getElem? (i := 837) (by decide +kernel), List.mem_of_getElem? (i := 838) (by decide +kernel)⟩
theorem lw_p47 : lw_okq (⟨"ThreeVoicesModel", "isLaw", "(II)Z"⟩, 31) := ⟨⟨by decide +kernel, by decide +kernel⟩, List.mem_of_getElem? (i := 610) (by decide +kernel), List.mem_of_getElem? (i := 844) (by decide +kernel), List.mem_of_getElem? (i := 845) (by decide +kernel)⟩
def lw_privs_3 : List (MethodName × Nat) := [(⟨"ThreeVoicesModel", "maybesIn", "(I)I"⟩, 31), (⟨"ThreeVoicesModel", "due", "(Z)I"⟩, 31), (⟨"ThreeVoicesModel", "number", "(II)I"⟩, 31), (⟨"ThreeVoicesModel", "copy", "(II)V"⟩, 31), (⟨"ThreeVoicesModel", "isOne", "(I)Z"⟩, 31), (⟨"ThreeVoicesModel", "goPlain", "(I)V"⟩, 31), (⟨"ThreeVoicesModel", "plain", "()V"⟩, 31), (⟨"ThreeVoicesModel", "go", "(I)V"⟩, 31), (⟨"ThreeVoicesModel", "act", "()V"⟩, 31), (⟨"ThreeVoicesModel", "think", "(II)V"⟩, 31), (⟨"ThreeVoicesModel", "speak", "(III)V"⟩, 31), (⟨"ThreeVoicesModel", "areApart", "(IIII)Z"⟩, 31), (⟨"ThreeVoicesModel", "hasAny", "(I)Z"⟩, 31), (⟨"ThreeVoicesModel", "goEvent", "(I)V"⟩, 31), (⟨"ThreeVoicesModel", "fallsBy", "(I)I"⟩, 31), (⟨"ThreeVoicesModel", "isLaw", "(II)Z"⟩, 31)]
theorem lw_r3 : ∀ q ∈ lw_privs_3, lw_okq q := List.forall_mem_cons.mpr ⟨lw_p32, List.forall_mem_cons.mpr ⟨lw_p33, List.forall_mem_cons.mpr ⟨lw_p34, List.forall_mem_cons.mpr ⟨lw_p35, List.forall_mem_cons.mpr ⟨lw_p36, List.forall_mem_cons.mpr ⟨lw_p37, List.forall_mem_cons.mpr ⟨lw_p38, List.forall_mem_cons.mpr ⟨lw_p39, List.forall_mem_cons.mpr ⟨lw_p40, List.forall_mem_cons.mpr ⟨lw_p41, List.forall_mem_cons.mpr ⟨lw_p42, List.forall_mem_cons.mpr ⟨lw_p43, List.forall_mem_cons.mpr ⟨lw_p44, List.forall_mem_cons.mpr ⟨lw_p45, List.forall_mem_cons.mpr ⟨lw_p46, List.forall_mem_cons.mpr ⟨lw_p47, fun _ h => absurd h List.not_mem_nil⟩⟩⟩⟩⟩⟩⟩⟩⟩⟩⟩⟩⟩⟩⟩⟩
theorem lw_p48 : lw_okq (⟨"ThreeVoicesModel", "fewestBy", "(IIIZ)I"⟩, 31) := ⟨⟨by decide +kernel, by decide +kernel⟩, List.mem_of_getElem? (i := 610) (by decide +kernel), List.mem_of_getElem? (i := 864) (by decide +kernel), List.mem_of_getElem? (i := 865) (by decide +kernel)⟩
theorem lw_p49 : lw_okq (⟨"ThreeVoicesModel", "isLawBy", "(IIII)Z"⟩, 31) := ⟨⟨by decide +kernel, by decide +kernel⟩, List.mem_of_getElem? (i := 610) (by decide +kernel), List.mem_of_getElem? (i := 868) (by decide +kernel), List.mem_of_getElem? (i := 869) (by decide +kernel)⟩
theorem lw_p50 : lw_okq (⟨"ThreeVoicesModel", "isLawByTurns", "(IIII)Z"⟩, 31) := ⟨⟨by decide +kernel, by decide +kernel⟩, List.mem_of_getElem? (i := 610) (by decide +kernel), List.mem_of_getElem? (i := 880) (by decide +kernel), List.mem_of_getElem? (i := 881) (by decide +kernel)⟩
def lw_privs_4 : List (MethodName × Nat) := [(⟨"ThreeVoicesModel", "fewestBy", "(IIIZ)I"⟩, 31), (⟨"ThreeVoicesModel", "isLawBy", "(IIII)Z"⟩, 31), (⟨"ThreeVoicesModel", "isLawByTurns", "(IIII)Z"⟩, 31)]
theorem lw_r4 : ∀ q ∈ lw_privs_4, lw_okq q := List.forall_mem_cons.mpr ⟨lw_p48, List.forall_mem_cons.mpr ⟨lw_p49, List.forall_mem_cons.mpr ⟨lw_p50, fun _ h => absurd h List.not_mem_nil⟩⟩⟩
def lw_privs : List (MethodName × Nat) := lw_privs_1 ++ (lw_privs_2 ++ (lw_privs_3 ++ (lw_privs_4)))
def lw_tbl : List Cond := k2_sels lw_privs ++ tables_1
theorem lw_privs_ok : ∀ q ∈ lw_privs, lw_okq q := by
  show ∀ q ∈ lw_privs_1 ++ (lw_privs_2 ++ (lw_privs_3 ++ (lw_privs_4))), lw_okq q
  exact List.forall_mem_append.mpr ⟨lw_r1, List.forall_mem_append.mpr ⟨lw_r2, List.forall_mem_append.mpr ⟨lw_r3, lw_r4⟩⟩⟩
def RX0 : String := "ThreeVoices$Events"
def TX0 : u_T := fun k => match k with
  | 0 => ("ThreeVoices$Events", "sorts", "[I", true)
  | 1 => ("ThreeVoices$Events", "dates", "[I", true)
  | 2 => ("ThreeVoices$Events", "actors", "[I", true)
  | 3 => ("ThreeVoices$Events", "objects", "[I", true)
  | 4 => ("ThreeVoices$Events", "bits", "[I", true)
  | 5 => ("ThreeVoices$Events", "size", "I", false)
  | 6 => ("ThreeVoices$Events", "maybes", "I", false)
  | _ => ("ThreeVoices$Events", "today", "I", false)
def tyX0 : Nat → FieldType := fun k => match k with
  | 0 => .array .int
  | 1 => .array .int
  | 2 => .array .int
  | 3 => .array .int
  | 4 => .array .int
  | 5 => .int
  | 6 => .int
  | _ => .int
abbrev wsX00 : List Cond := u_ws RX0 TX0 8
theorem nmX0 : ∀ a, a < 8 → ∀ b, b < 8 → a ≠ b → (TX0 a).2.1 ≠ (TX0 b).2.1 := by decide +kernel
theorem tyX0_ok : ∀ k, k < 8 → parseFieldDescriptor (TX0 k).2.2.1 = some (tyX0 k) := by decide +kernel
abbrev cX0_init : ByteArray := prog_2_method_1_code
def yX0_init : MethodName := ⟨RX0, "<init>", "()V"⟩
abbrev cX0_hasRoomFor : ByteArray := prog_2_method_2_code
def yX0_hasRoomFor : MethodName := ⟨RX0, "hasRoomFor", "(I)Z"⟩
abbrev cX0_add : ByteArray := prog_2_method_3_code
def yX0_add : MethodName := ⟨RX0, "add", "(III)V"⟩
abbrev cX0_dropLast : ByteArray := prog_2_method_4_code
def yX0_dropLast : MethodName := ⟨RX0, "dropLast", "()V"⟩
abbrev cX0_forget : ByteArray := prog_2_method_5_code
def yX0_forget : MethodName := ⟨RX0, "forget", "()V"⟩
abbrev cX0_takeFrom : ByteArray := prog_2_method_6_code
def yX0_takeFrom : MethodName := ⟨RX0, "takeFrom", "(LThreeVoices$Events;)V"⟩
abbrev cX0_firstFrom : ByteArray := prog_2_method_7_code
def yX0_firstFrom : MethodName := ⟨RX0, "firstFrom", "(I)I"⟩
def RX1 : String := "ThreeVoices$Folk"
def TX1 : u_T := fun k => match k with
  | 0 => ("ThreeVoices$Folk", "homes", "[I", true)
  | _ => ("ThreeVoices$Folk", "size", "I", false)
def tyX1 : Nat → FieldType := fun k => match k with
  | 0 => .array .int
  | _ => .int
abbrev wsX10 : List Cond := u_ws RX1 TX1 2
theorem nmX1 : ∀ a, a < 2 → ∀ b, b < 2 → a ≠ b → (TX1 a).2.1 ≠ (TX1 b).2.1 := by decide +kernel
theorem tyX1_ok : ∀ k, k < 2 → parseFieldDescriptor (TX1 k).2.2.1 = some (tyX1 k) := by decide +kernel
abbrev cX1_init : ByteArray := prog_3_method_1_code
def yX1_init : MethodName := ⟨RX1, "<init>", "()V"⟩
abbrev cX1_add : ByteArray := prog_3_method_2_code
def yX1_add : MethodName := ⟨RX1, "add", "(I)V"⟩
abbrev cX1_takeFrom : ByteArray := prog_3_method_3_code
def yX1_takeFrom : MethodName := ⟨RX1, "takeFrom", "(LThreeVoices$Folk;)V"⟩
abbrev cX1_knows : ByteArray := prog_3_method_4_code
def yX1_knows : MethodName := ⟨RX1, "knows", "(I)Z"⟩
abbrev cX1_allows : ByteArray := prog_3_method_5_code
def yX1_allows : MethodName := ⟨RX1, "allows", "(III)Z"⟩
def RX2 : String := "ThreeVoices$Reader"
def TX2 : u_T := fun k => match k with
  | 0 => ("ThreeVoices$Reader", "folk", "LThreeVoices$Folk;", true)
  | 1 => ("ThreeVoices$Reader", "events", "LThreeVoices$Events;", true)
  | 2 => ("ThreeVoices$Reader", "source", "LThreeVoices$Text;", true)
  | 3 => ("ThreeVoices$Reader", "position", "I", false)
  | 4 => ("ThreeVoices$Reader", "token", "I", false)
  | 5 => ("ThreeVoices$Reader", "number", "I", false)
  | _ => ("ThreeVoices$Reader", "start", "I", false)
def tyX2 : Nat → FieldType := fun k => match k with
  | 0 => .object "ThreeVoices$Folk"
  | 1 => .object "ThreeVoices$Events"
  | 2 => .object "ThreeVoices$Text"
  | 3 => .int
  | 4 => .int
  | 5 => .int
  | _ => .int
abbrev wsX20 : List Cond := u_ws RX2 TX2 7
theorem nmX2 : ∀ a, a < 7 → ∀ b, b < 7 → a ≠ b → (TX2 a).2.1 ≠ (TX2 b).2.1 := by decide +kernel
theorem tyX2_ok : ∀ k, k < 7 → parseFieldDescriptor (TX2 k).2.2.1 = some (tyX2 k) := by decide +kernel
abbrev cX2_init : ByteArray := prog_4_method_1_code
def yX2_init : MethodName := ⟨RX2, "<init>", "(LThreeVoices$Text;)V"⟩
abbrev cX2_readText : ByteArray := prog_4_method_2_code
def yX2_readText : MethodName := ⟨RX2, "readText", "()I"⟩
abbrev cX2_readItem : ByteArray := prog_4_method_3_code
def yX2_readItem : MethodName := ⟨RX2, "readItem", "()Z"⟩
abbrev cX2_readPerson : ByteArray := prog_4_method_4_code
def yX2_readPerson : MethodName := ⟨RX2, "readPerson", "()Z"⟩
abbrev cX2_readEvent : ByteArray := prog_4_method_5_code
def yX2_readEvent : MethodName := ⟨RX2, "readEvent", "(I)Z"⟩
abbrev cX2_readNumber : ByteArray := prog_4_method_6_code
def yX2_readNumber : MethodName := ⟨RX2, "readNumber", "(II)Z"⟩
abbrev cX2_readStop : ByteArray := prog_4_method_7_code
def yX2_readStop : MethodName := ⟨RX2, "readStop", "()Z"⟩
abbrev cX2_sortOfWord : ByteArray := prog_4_method_8_code
def yX2_sortOfWord : MethodName := ⟨RX2, "sortOfWord", "()I"⟩
abbrev cX2_isWord : ByteArray := prog_4_method_9_code
def yX2_isWord : MethodName := ⟨RX2, "isWord", "(Ljava/lang/String;)Z"⟩
abbrev cX2_readToken : ByteArray := prog_4_method_10_code
def yX2_readToken : MethodName := ⟨RX2, "readToken", "()V"⟩
abbrev cX2_readWord : ByteArray := prog_4_method_11_code
def yX2_readWord : MethodName := ⟨RX2, "readWord", "()V"⟩
abbrev cX2_readDigits : ByteArray := prog_4_method_12_code
def yX2_readDigits : MethodName := ⟨RX2, "readDigits", "()V"⟩
abbrev cX2_isLetter : ByteArray := prog_4_method_13_code
def yX2_isLetter : MethodName := ⟨RX2, "isLetter", "(I)Z"⟩
abbrev cX2_isDigit : ByteArray := prog_4_method_14_code
def yX2_isDigit : MethodName := ⟨RX2, "isDigit", "(I)Z"⟩
def RX3 : String := "ThreeVoices$Story"
def TX3 : u_T := fun k => match k with
  | 0 => ("ThreeVoices$Story", "at", "[I", true)
  | 1 => ("ThreeVoices$Story", "from", "[I", true)
  | 2 => ("ThreeVoices$Story", "voices", "[I", true)
  | 3 => ("ThreeVoices$Story", "size", "I", false)
  | 4 => ("ThreeVoices$Story", "thing", "I", false)
  | 5 => ("ThreeVoices$Story", "staying", "I", false)
  | 6 => ("ThreeVoices$Story", "lawDay", "I", false)
  | _ => ("ThreeVoices$Story", "three", "I", false)
def tyX3 : Nat → FieldType := fun k => match k with
  | 0 => .array .int
  | 1 => .array .int
  | 2 => .array .int
  | 3 => .int
  | 4 => .int
  | 5 => .int
  | 6 => .int
  | _ => .int
abbrev wsX30 : List Cond := u_ws RX3 TX3 8
theorem nmX3 : ∀ a, a < 8 → ∀ b, b < 8 → a ≠ b → (TX3 a).2.1 ≠ (TX3 b).2.1 := by decide +kernel
theorem tyX3_ok : ∀ k, k < 8 → parseFieldDescriptor (TX3 k).2.2.1 = some (tyX3 k) := by decide +kernel
abbrev cX3_init : ByteArray := prog_5_method_1_code
def yX3_init : MethodName := ⟨RX3, "<init>", "()V"⟩
abbrev cX3_begin : ByteArray := prog_5_method_2_code
def yX3_begin : MethodName := ⟨RX3, "begin", "(LThreeVoices$Folk;I)V"⟩
abbrev cX3_takeFrom : ByteArray := prog_5_method_3_code
def yX3_takeFrom : MethodName := ⟨RX3, "takeFrom", "(LThreeVoices$Story;)V"⟩
abbrev cX3_play : ByteArray := prog_5_method_4_code
def yX3_play : MethodName := ⟨RX3, "play", "(LThreeVoices$Events;III)V"⟩
abbrev cX3_think : ByteArray := prog_5_method_5_code
def yX3_think : MethodName := ⟨RX3, "think", "(I)V"⟩
abbrev cX3_say : ByteArray := prog_5_method_6_code
def yX3_say : MethodName := ⟨RX3, "say", "(II)V"⟩
abbrev cX3_choose : ByteArray := prog_5_method_7_code
def yX3_choose : MethodName := ⟨RX3, "choose", "(IZ)Z"⟩
abbrev cX3_stay : ByteArray := prog_5_method_8_code
def yX3_stay : MethodName := ⟨RX3, "stay", "(II)V"⟩
abbrev cX3_thoseWithout : ByteArray := prog_5_method_9_code
def yX3_thoseWithout : MethodName := ⟨RX3, "thoseWithout", "()I"⟩
abbrev cX3_leastThree : ByteArray := prog_5_method_10_code
def yX3_leastThree : MethodName := ⟨RX3, "leastThree", "()I"⟩
abbrev cX3_leastThird : ByteArray := prog_5_method_11_code
def yX3_leastThird : MethodName := ⟨RX3, "leastThird", "(II)I"⟩
def RX4 : String := "ThreeVoices$Text"
def TX4 : u_T := fun k => match k with
  | 0 => ("ThreeVoices$Text", "bytes", "[I", true)
  | _ => ("ThreeVoices$Text", "size", "I", false)
def tyX4 : Nat → FieldType := fun k => match k with
  | 0 => .array .int
  | _ => .int
abbrev wsX40 : List Cond := u_ws RX4 TX4 2
theorem nmX4 : ∀ a, a < 2 → ∀ b, b < 2 → a ≠ b → (TX4 a).2.1 ≠ (TX4 b).2.1 := by decide +kernel
theorem tyX4_ok : ∀ k, k < 2 → parseFieldDescriptor (TX4 k).2.2.1 = some (tyX4 k) := by decide +kernel
abbrev cX4_init : ByteArray := prog_6_method_1_code
def yX4_init : MethodName := ⟨RX4, "<init>", "()V"⟩
abbrev cX4_add : ByteArray := prog_6_method_2_code
def yX4_add : MethodName := ⟨RX4, "add", "(I)V"⟩
abbrev cX4_byteAt : ByteArray := prog_6_method_3_code
def yX4_byteAt : MethodName := ⟨RX4, "byteAt", "(I)I"⟩
def RX5 : String := "ThreeVoices"
def TX5 : u_T := fun k => match k with
  | 0 => ("ThreeVoices", "text", "LThreeVoices$Text;", true)
  | 1 => ("ThreeVoices", "folk", "LThreeVoices$Folk;", true)
  | 2 => ("ThreeVoices", "events", "LThreeVoices$Events;", true)
  | 3 => ("ThreeVoices", "reader", "LThreeVoices$Reader;", true)
  | 4 => ("ThreeVoices", "image0", "LThreeVoices$Events;", true)
  | 5 => ("ThreeVoices", "image1", "LThreeVoices$Events;", true)
  | 6 => ("ThreeVoices", "kept0", "Z", false)
  | 7 => ("ThreeVoices", "kept1", "Z", false)
  | 8 => ("ThreeVoices", "ahead", "LThreeVoices$Story;", true)
  | 9 => ("ThreeVoices", "story", "LThreeVoices$Story;", true)
  | _ => ("ThreeVoices", "traced", "J", false)
def tyX5 : Nat → FieldType := fun k => match k with
  | 0 => .object "ThreeVoices$Text"
  | 1 => .object "ThreeVoices$Folk"
  | 2 => .object "ThreeVoices$Events"
  | 3 => .object "ThreeVoices$Reader"
  | 4 => .object "ThreeVoices$Events"
  | 5 => .object "ThreeVoices$Events"
  | 6 => .boolean
  | 7 => .boolean
  | 8 => .object "ThreeVoices$Story"
  | 9 => .object "ThreeVoices$Story"
  | _ => .long
abbrev wsX50 : List Cond := u_ws RX5 TX5 11
theorem nmX5 : ∀ a, a < 11 → ∀ b, b < 11 → a ≠ b → (TX5 a).2.1 ≠ (TX5 b).2.1 := by decide +kernel
theorem tyX5_ok : ∀ k, k < 11 → parseFieldDescriptor (TX5 k).2.2.1 = some (tyX5 k) := by decide +kernel
abbrev cX5_init : ByteArray := prog_1_method_1_code
def yX5_init : MethodName := ⟨RX5, "<init>", "()V"⟩
abbrev cX5_type : ByteArray := prog_1_method_2_code
def yX5_type : MethodName := ⟨RX5, "type", "(JI)I"⟩
abbrev cX5_clear : ByteArray := prog_1_method_3_code
def yX5_clear : MethodName := ⟨RX5, "clear", "()I"⟩
abbrev cX5_tell : ByteArray := prog_1_method_4_code
def yX5_tell : MethodName := ⟨RX5, "tell", "()I"⟩
abbrev cX5_event : ByteArray := prog_1_method_5_code
def yX5_event : MethodName := ⟨RX5, "event", "(II)I"⟩
abbrev cX5_comes : ByteArray := prog_1_method_6_code
def yX5_comes : MethodName := ⟨RX5, "comes", "(III)I"⟩
abbrev cX5_days : ByteArray := prog_1_method_7_code
def yX5_days : MethodName := ⟨RX5, "days", "(I)I"⟩
abbrev cX5_undo : ByteArray := prog_1_method_8_code
def yX5_undo : MethodName := ⟨RX5, "undo", "()I"⟩
abbrev cX5_origins : ByteArray := prog_1_method_9_code
def yX5_origins : MethodName := ⟨RX5, "origins", "(III)I"⟩
abbrev cX5_voice : ByteArray := prog_1_method_10_code
def yX5_voice : MethodName := ⟨RX5, "voice", "(III)I"⟩
abbrev cX5_law : ByteArray := prog_1_method_11_code
def yX5_law : MethodName := ⟨RX5, "law", "(III)I"⟩
abbrev cX5_place : ByteArray := prog_1_method_12_code
def yX5_place : MethodName := ⟨RX5, "place", "(I)I"⟩
abbrev cX5_stands : ByteArray := prog_1_method_13_code
def yX5_stands : MethodName := ⟨RX5, "stands", "(I)I"⟩
abbrev cX5_falls : ByteArray := prog_1_method_14_code
def yX5_falls : MethodName := ⟨RX5, "falls", "(I)I"⟩
abbrev cX5_alone : ByteArray := prog_1_method_15_code
def yX5_alone : MethodName := ⟨RX5, "alone", "(I)I"⟩
abbrev cX5_empty : ByteArray := prog_1_method_16_code
def yX5_empty : MethodName := ⟨RX5, "empty", "()I"⟩
abbrev cX5_hints : ByteArray := prog_1_method_17_code
def yX5_hints : MethodName := ⟨RX5, "hints", "(II)I"⟩
abbrev cX5_hinder : ByteArray := prog_1_method_18_code
def yX5_hinder : MethodName := ⟨RX5, "hinder", "(II)I"⟩
abbrev cX5_turns : ByteArray := prog_1_method_19_code
def yX5_turns : MethodName := ⟨RX5, "turns", "(III)I"⟩
abbrev cX5_keepAt : ByteArray := prog_1_method_20_code
def yX5_keepAt : MethodName := ⟨RX5, "keepAt", "(II)I"⟩
abbrev cX5_chance : ByteArray := prog_1_method_21_code
def yX5_chance : MethodName := ⟨RX5, "chance", "(IIIII)J"⟩
abbrev cX5_mark : ByteArray := prog_1_method_22_code
def yX5_mark : MethodName := ⟨RX5, "mark", "(III)I"⟩
abbrev cX5_keep : ByteArray := prog_1_method_23_code
def yX5_keep : MethodName := ⟨RX5, "keep", "(I)I"⟩
abbrev cX5_back : ByteArray := prog_1_method_24_code
def yX5_back : MethodName := ⟨RX5, "back", "(I)I"⟩
abbrev cX5_count : ByteArray := prog_1_method_25_code
def yX5_count : MethodName := ⟨RX5, "count", "(I)I"⟩
abbrev cX5_trace : ByteArray := prog_1_method_26_code
def yX5_trace : MethodName := ⟨RX5, "trace", "()J"⟩
abbrev cX5_isThing : ByteArray := prog_1_method_27_code
def yX5_isThing : MethodName := ⟨RX5, "isThing", "(I)Z"⟩
abbrev cX5_isDay : ByteArray := prog_1_method_28_code
def yX5_isDay : MethodName := ⟨RX5, "isDay", "(I)Z"⟩
abbrev cX5_isShare : ByteArray := prog_1_method_29_code
def yX5_isShare : MethodName := ⟨RX5, "isShare", "(II)Z"⟩
abbrev cX5_tellStory : ByteArray := prog_1_method_30_code
def yX5_tellStory : MethodName := ⟨RX5, "tellStory", "(II)V"⟩
abbrev cX5_isLawWith : ByteArray := prog_1_method_31_code
def yX5_isLawWith : MethodName := ⟨RX5, "isLawWith", "(II)Z"⟩
abbrev cX5_fewestAgainst : ByteArray := prog_1_method_32_code
def yX5_fewestAgainst : MethodName := ⟨RX5, "fewestAgainst", "(I)I"⟩
abbrev cX5_maybesThatCarry : ByteArray := prog_1_method_33_code
def yX5_maybesThatCarry : MethodName := ⟨RX5, "maybesThatCarry", "(I)I"⟩
abbrev cX5_tellAhead : ByteArray := prog_1_method_34_code
def yX5_tellAhead : MethodName := ⟨RX5, "tellAhead", "(II)V"⟩
abbrev cX5_isLawIf : ByteArray := prog_1_method_35_code
def yX5_isLawIf : MethodName := ⟨RX5, "isLawIf", "(IZI)Z"⟩
abbrev cX5_fewestChosen : ByteArray := prog_1_method_36_code
def yX5_fewestChosen : MethodName := ⟨RX5, "fewestChosen", "(IIZ)I"⟩
abbrev cX5_isLawByTurns : ByteArray := prog_1_method_37_code
def yX5_isLawByTurns : MethodName := ⟨RX5, "isLawByTurns", "(II)Z"⟩
abbrev cX5_isReachedBy : ByteArray := prog_1_method_38_code
def yX5_isReachedBy : MethodName := ⟨RX5, "isReachedBy", "(III)Z"⟩
abbrev cX5_thingsHadAt : ByteArray := prog_1_method_39_code
def yX5_thingsHadAt : MethodName := ⟨RX5, "thingsHadAt", "(III)I"⟩
abbrev cX5_power : ByteArray := prog_1_method_40_code
def yX5_power : MethodName := ⟨RX5, "power", "(II)J"⟩
abbrev cX5_commonDivisor : ByteArray := prog_1_method_41_code
def yX5_commonDivisor : MethodName := ⟨RX5, "commonDivisor", "(JJ)J"⟩
abbrev cX5_markSaying : ByteArray := prog_1_method_42_code
def yX5_markSaying : MethodName := ⟨RX5, "markSaying", "(I)I"⟩
abbrev cX5_markHeard : ByteArray := prog_1_method_43_code
def yX5_markHeard : MethodName := ⟨RX5, "markHeard", "(I)I"⟩
abbrev cX5_markOwn : ByteArray := prog_1_method_44_code
def yX5_markOwn : MethodName := ⟨RX5, "markOwn", "(I)I"⟩
abbrev cX5_markSong : ByteArray := prog_1_method_45_code
def yX5_markSong : MethodName := ⟨RX5, "markSong", "(II)I"⟩
abbrev cX5_markHum : ByteArray := prog_1_method_46_code
def yX5_markHum : MethodName := ⟨RX5, "markHum", "(I)I"⟩
abbrev cX5_markWritten : ByteArray := prog_1_method_47_code
def yX5_markWritten : MethodName := ⟨RX5, "markWritten", "(I)I"⟩
def RX6 : String := "ThreeVoicesModel"
def TX6 : u_T := fun k => match k with
  | 0 => ("ThreeVoicesModel", "trace", "J", false)
  | 1 => ("ThreeVoicesModel", "text", "[B", true)
  | 2 => ("ThreeVoicesModel", "typed", "I", false)
  | 3 => ("ThreeVoicesModel", "people", "[I", true)
  | 4 => ("ThreeVoicesModel", "places", "[I", true)
  | 5 => ("ThreeVoicesModel", "events", "[I", true)
  | 6 => ("ThreeVoicesModel", "today", "[I", true)
  | 7 => ("ThreeVoicesModel", "sorts", "[I", true)
  | 8 => ("ThreeVoicesModel", "days", "[I", true)
  | 9 => ("ThreeVoicesModel", "ones", "[I", true)
  | 10 => ("ThreeVoicesModel", "twos", "[I", true)
  | 11 => ("ThreeVoicesModel", "isKept", "[Z", true)
  | 12 => ("ThreeVoicesModel", "at", "I", false)
  | 13 => ("ThreeVoicesModel", "start", "I", false)
  | 14 => ("ThreeVoicesModel", "sort", "I", false)
  | 15 => ("ThreeVoicesModel", "value", "I", false)
  | 16 => ("ThreeVoicesModel", "fault", "I", false)
  | 17 => ("ThreeVoicesModel", "place", "[I", true)
  | 18 => ("ThreeVoicesModel", "origin", "[I", true)
  | 19 => ("ThreeVoicesModel", "voice", "[I", true)
  | 20 => ("ThreeVoicesModel", "lawDay", "[I", true)
  | 21 => ("ThreeVoicesModel", "three", "[I", true)
  | 22 => ("ThreeVoicesModel", "empties", "I", false)
  | 23 => ("ThreeVoicesModel", "acts", "[I", true)
  | 24 => ("ThreeVoicesModel", "many", "I", false)
  | 25 => ("ThreeVoicesModel", "thing", "I", false)
  | 26 => ("ThreeVoicesModel", "actDay", "I", false)
  | 27 => ("ThreeVoicesModel", "keeper", "I", false)
  | 28 => ("ThreeVoicesModel", "keptAt", "I", false)
  | 29 => ("ThreeVoicesModel", "hadIt", "I", false)
  | _ => ("ThreeVoicesModel", "wins", "[Z", true)
def tyX6 : Nat → FieldType := fun k => match k with
  | 0 => .long
  | 1 => .array .byte
  | 2 => .int
  | 3 => .array .int
  | 4 => .array .int
  | 5 => .array .int
  | 6 => .array .int
  | 7 => .array .int
  | 8 => .array .int
  | 9 => .array .int
  | 10 => .array .int
  | 11 => .array .boolean
  | 12 => .int
  | 13 => .int
  | 14 => .int
  | 15 => .int
  | 16 => .int
  | 17 => .array .int
  | 18 => .array .int
  | 19 => .array .int
  | 20 => .array .int
  | 21 => .array .int
  | 22 => .int
  | 23 => .array .int
  | 24 => .int
  | 25 => .int
  | 26 => .int
  | 27 => .int
  | 28 => .int
  | 29 => .int
  | _ => .array .boolean
abbrev wsX60 : List Cond := u_ws RX6 TX6 31
theorem nmX6 : ∀ a, a < 31 → ∀ b, b < 31 → a ≠ b → (TX6 a).2.1 ≠ (TX6 b).2.1 := by decide +kernel
theorem tyX6_ok : ∀ k, k < 31 → parseFieldDescriptor (TX6 k).2.2.1 = some (tyX6 k) := by decide +kernel
abbrev cX6_init : ByteArray := prog_8_method_1_code
def yX6_init : MethodName := ⟨RX6, "<init>", "()V"⟩
abbrev cX6_in : ByteArray := prog_8_method_3_code
def yX6_in : MethodName := ⟨RX6, "in", "(III)Z"⟩
abbrev cX6_type : ByteArray := prog_8_method_4_code
def yX6_type : MethodName := ⟨RX6, "type", "(JI)I"⟩
abbrev cX6_clear : ByteArray := prog_8_method_5_code
def yX6_clear : MethodName := ⟨RX6, "clear", "()I"⟩
abbrev cX6_here : ByteArray := prog_8_method_6_code
def yX6_here : MethodName := ⟨RX6, "here", "()I"⟩
abbrev cX6_meaning : ByteArray := prog_8_method_7_code
def yX6_meaning : MethodName := ⟨RX6, "meaning", "(I)I"⟩
abbrev cX6_next : ByteArray := prog_8_method_8_code
def yX6_next : MethodName := ⟨RX6, "next", "()V"⟩
abbrev cX6_due : ByteArray := prog_8_method_9_code
def yX6_due : MethodName := ⟨RX6, "due", "(Z)I"⟩
abbrev cX6_number : ByteArray := prog_8_method_10_code
def yX6_number : MethodName := ⟨RX6, "number", "(II)I"⟩
abbrev cX6_maybesIn : ByteArray := prog_8_method_11_code
def yX6_maybesIn : MethodName := ⟨RX6, "maybesIn", "(I)I"⟩
abbrev cX6_readItem : ByteArray := prog_8_method_12_code
def yX6_readItem : MethodName := ⟨RX6, "readItem", "()V"⟩
abbrev cX6_copy : ByteArray := prog_8_method_13_code
def yX6_copy : MethodName := ⟨RX6, "copy", "(II)V"⟩
abbrev cX6_tell : ByteArray := prog_8_method_14_code
def yX6_tell : MethodName := ⟨RX6, "tell", "()I"⟩
abbrev cX6_isOne : ByteArray := prog_8_method_15_code
def yX6_isOne : MethodName := ⟨RX6, "isOne", "(I)Z"⟩
abbrev cX6_isThing : ByteArray := prog_8_method_16_code
def yX6_isThing : MethodName := ⟨RX6, "isThing", "(I)Z"⟩
abbrev cX6_event : ByteArray := prog_8_method_17_code
def yX6_event : MethodName := ⟨RX6, "event", "(II)I"⟩
abbrev cX6_comes : ByteArray := prog_8_method_18_code
def yX6_comes : MethodName := ⟨RX6, "comes", "(III)I"⟩
abbrev cX6_days : ByteArray := prog_8_method_19_code
def yX6_days : MethodName := ⟨RX6, "days", "(I)I"⟩
abbrev cX6_undo : ByteArray := prog_8_method_20_code
def yX6_undo : MethodName := ⟨RX6, "undo", "()I"⟩
abbrev cX6_plain : ByteArray := prog_8_method_21_code
def yX6_plain : MethodName := ⟨RX6, "plain", "()V"⟩
abbrev cX6_think : ByteArray := prog_8_method_22_code
def yX6_think : MethodName := ⟨RX6, "think", "(II)V"⟩
abbrev cX6_areApart : ByteArray := prog_8_method_23_code
def yX6_areApart : MethodName := ⟨RX6, "areApart", "(IIII)Z"⟩
abbrev cX6_speak : ByteArray := prog_8_method_24_code
def yX6_speak : MethodName := ⟨RX6, "speak", "(III)V"⟩
abbrev cX6_act : ByteArray := prog_8_method_25_code
def yX6_act : MethodName := ⟨RX6, "act", "()V"⟩
abbrev cX6_hasAny : ByteArray := prog_8_method_26_code
def yX6_hasAny : MethodName := ⟨RX6, "hasAny", "(I)Z"⟩
abbrev cX6_goEvent : ByteArray := prog_8_method_27_code
def yX6_goEvent : MethodName := ⟨RX6, "goEvent", "(I)V"⟩
abbrev cX6_go : ByteArray := prog_8_method_28_code
def yX6_go : MethodName := ⟨RX6, "go", "(I)V"⟩
abbrev cX6_goPlain : ByteArray := prog_8_method_29_code
def yX6_goPlain : MethodName := ⟨RX6, "goPlain", "(I)V"⟩
abbrev cX6_origins : ByteArray := prog_8_method_30_code
def yX6_origins : MethodName := ⟨RX6, "origins", "(III)I"⟩
abbrev cX6_voice : ByteArray := prog_8_method_31_code
def yX6_voice : MethodName := ⟨RX6, "voice", "(III)I"⟩
abbrev cX6_law : ByteArray := prog_8_method_32_code
def yX6_law : MethodName := ⟨RX6, "law", "(III)I"⟩
abbrev cX6_place : ByteArray := prog_8_method_33_code
def yX6_place : MethodName := ⟨RX6, "place", "(I)I"⟩
abbrev cX6_bitsIn : ByteArray := prog_8_method_34_code
def yX6_bitsIn : MethodName := ⟨RX6, "bitsIn", "(I)I"⟩
abbrev cX6_isLaw : ByteArray := prog_8_method_35_code
def yX6_isLaw : MethodName := ⟨RX6, "isLaw", "(II)Z"⟩
abbrev cX6_fallsBy : ByteArray := prog_8_method_36_code
def yX6_fallsBy : MethodName := ⟨RX6, "fallsBy", "(I)I"⟩
abbrev cX6_stands : ByteArray := prog_8_method_37_code
def yX6_stands : MethodName := ⟨RX6, "stands", "(I)I"⟩
abbrev cX6_falls : ByteArray := prog_8_method_38_code
def yX6_falls : MethodName := ⟨RX6, "falls", "(I)I"⟩
abbrev cX6_alone : ByteArray := prog_8_method_39_code
def yX6_alone : MethodName := ⟨RX6, "alone", "(I)I"⟩
abbrev cX6_empty : ByteArray := prog_8_method_40_code
def yX6_empty : MethodName := ⟨RX6, "empty", "()I"⟩
abbrev cX6_isLawBy : ByteArray := prog_8_method_41_code
def yX6_isLawBy : MethodName := ⟨RX6, "isLawBy", "(IIII)Z"⟩
abbrev cX6_fewestBy : ByteArray := prog_8_method_42_code
def yX6_fewestBy : MethodName := ⟨RX6, "fewestBy", "(IIIZ)I"⟩
abbrev cX6_hints : ByteArray := prog_8_method_43_code
def yX6_hints : MethodName := ⟨RX6, "hints", "(II)I"⟩
abbrev cX6_hinder : ByteArray := prog_8_method_44_code
def yX6_hinder : MethodName := ⟨RX6, "hinder", "(II)I"⟩
abbrev cX6_isLawByTurns : ByteArray := prog_8_method_45_code
def yX6_isLawByTurns : MethodName := ⟨RX6, "isLawByTurns", "(IIII)Z"⟩
abbrev cX6_turns : ByteArray := prog_8_method_46_code
def yX6_turns : MethodName := ⟨RX6, "turns", "(III)I"⟩
abbrev cX6_keepAt : ByteArray := prog_8_method_47_code
def yX6_keepAt : MethodName := ⟨RX6, "keepAt", "(II)I"⟩
abbrev cX6_common : ByteArray := prog_8_method_48_code
def yX6_common : MethodName := ⟨RX6, "common", "(JJ)J"⟩
abbrev cX6_chance : ByteArray := prog_8_method_49_code
def yX6_chance : MethodName := ⟨RX6, "chance", "(IIIII)J"⟩
abbrev cX6_mark : ByteArray := prog_8_method_50_code
def yX6_mark : MethodName := ⟨RX6, "mark", "(III)I"⟩
abbrev cX6_keep : ByteArray := prog_8_method_51_code
def yX6_keep : MethodName := ⟨RX6, "keep", "(I)I"⟩
abbrev cX6_back : ByteArray := prog_8_method_52_code
def yX6_back : MethodName := ⟨RX6, "back", "(I)I"⟩
abbrev cX6_count : ByteArray := prog_8_method_53_code
def yX6_count : MethodName := ⟨RX6, "count", "(I)I"⟩
abbrev cX6_trace : ByteArray := prog_8_method_54_code
def yX6_trace : MethodName := ⟨RX6, "trace", "()J"⟩
def RJ6 : String := "java/lang/Integer"
def TJ6 : u_T := fun k => match k with
  | _ => ("", "", "", false)
def tyJ6 : Nat → FieldType := fun k => match k with
  | _ => .int
abbrev cJ6_bitCount_0f7a4 : ByteArray := prog_9_method_49_code
def yJ6_bitCount_0f7a4 : MethodName := ⟨RJ6, "bitCount", "(I)I"⟩
def RJ9 : String := "java/lang/Math"
def TJ9 : u_T := fun k => match k with
  | _ => ("", "", "", false)
def tyJ9 : Nat → FieldType := fun k => match k with
  | _ => .int
abbrev cJ9_max_7cf53 : ByteArray := prog_10_method_65_code
def yJ9_max_7cf53 : MethodName := ⟨RJ9, "max", "(II)I"⟩
abbrev cJ9_min_7cf53 : ByteArray := prog_10_method_69_code
def yJ9_min_7cf53 : MethodName := ⟨RJ9, "min", "(II)I"⟩
def RJ0 : String := "java/lang/String"
def TJ0 : u_T := fun k => match k with
  | _ => ("", "", "", false)
def tyJ0 : Nat → FieldType := fun k => match k with
  | _ => .int
abbrev cJ0_length_8abf5 : ByteArray := prog_11_method_54_code
def yJ0_length_8abf5 : MethodName := ⟨RJ0, "length", "()I"⟩
abbrev cJ0_charAt_5068e : ByteArray := prog_11_method_56_code
def yJ0_charAt_5068e : MethodName := ⟨RJ0, "charAt", "(I)C"⟩
abbrev cJ0_coder_7d493 : ByteArray := prog_11_method_152_code
def yJ0_coder_7d493 : MethodName := ⟨RJ0, "coder", "()B"⟩
abbrev cJ0_isLatin1_aae02 : ByteArray := prog_11_method_154_code
def yJ0_isLatin1_aae02 : MethodName := ⟨RJ0, "isLatin1", "()Z"⟩
abbrev cJ0_checkIndex_df160 : ByteArray := prog_11_method_155_code
def yJ0_checkIndex_df160 : MethodName := ⟨RJ0, "checkIndex", "(II)V"⟩
def RJ1 : String := "java/lang/StringLatin1"
def TJ1 : u_T := fun k => match k with
  | _ => ("", "", "", false)
def tyJ1 : Nat → FieldType := fun k => match k with
  | _ => .int
abbrev cJ1_charAt_3b067 : ByteArray := prog_12_method_2_code
def yJ1_charAt_3b067 : MethodName := ⟨RJ1, "charAt", "([BI)C"⟩
def RJ2 : String := "java/lang/StringUTF16"
def TJ2 : u_T := fun k => match k with
  | _ => ("", "", "", false)
def tyJ2 : Nat → FieldType := fun k => match k with
  | _ => .int
abbrev cJ2_getChar_3b067 : ByteArray := prog_13_method_5_code
def yJ2_getChar_3b067 : MethodName := ⟨RJ2, "getChar", "([BI)C"⟩
abbrev cJ2_length_9d52b : ByteArray := prog_13_method_6_code
def yJ2_length_9d52b : MethodName := ⟨RJ2, "length", "([B)I"⟩
abbrev cJ2_charAt_3b067 : ByteArray := prog_13_method_83_code
def yJ2_charAt_3b067 : MethodName := ⟨RJ2, "charAt", "([BI)C"⟩
abbrev cJ2_checkIndex_2214a : ByteArray := prog_13_method_91_code
def yJ2_checkIndex_2214a : MethodName := ⟨RJ2, "checkIndex", "(I[B)V"⟩
def RJ10 : String := "java/lang/System"
def TJ10 : u_T := fun k => match k with
  | _ => ("", "", "", false)
def tyJ10 : Nat → FieldType := fun k => match k with
  | _ => .int
def RJ3 : String := "jdk/internal/util/Preconditions"
def TJ3 : u_T := fun k => match k with
  | _ => ("", "", "", false)
def tyJ3 : Nat → FieldType := fun k => match k with
  | _ => .int
abbrev cJ3_checkIndex_8e157 : ByteArray := prog_15_method_11_code
def yJ3_checkIndex_8e157 : MethodName := ⟨RJ3, "checkIndex", "(IILjava/util/function/BiFunction;)I"⟩
def RL : String := "ThreeVoicesLaw"
abbrev cL_law : ByteArray := code
def yL_law : MethodName := ⟨RL, "law", "([I)Z"⟩
abbrev vwCl : List vw_C := [(RX0, TX0, 8), (RX1, TX1, 2), (RX2, TX2, 7), (RX3, TX3, 8), (RX4, TX4, 2), (RX5, TX5, 11), (RX6, TX6, 31)]
end
section
/-! the store, the layout of the cells (a place each), and the world that a store stands for -/
abbrev Sg : Type := (Nat → Int32) × (Nat → Int64) × (Nat → Nat → Int32)
def gi (σ : Sg) (k : Nat) : Int32 := σ.1 k
def gl (σ : Sg) (k : Nat) : Int64 := σ.2.1 k
def gm (σ : Sg) (a : Nat) : Nat → Int32 := σ.2.2 a
def si (σ : Sg) (k : Nat) (v : Int32) : Sg := (fun j => if j = k then v else σ.1 j, σ.2.1, σ.2.2)
def sl (σ : Sg) (k : Nat) (v : Int64) : Sg := (σ.1, fun j => if j = k then v else σ.2.1 j, σ.2.2)
def sa (σ : Sg) (a : Nat) (f : Nat → Int32) : Sg := (σ.1, σ.2.1, fun b => if b = a then f else σ.2.2 b)
def sm (σ : Sg) (a j : Nat) (v : Int32) : Sg := sa σ a (upd (gm σ a) j v)
/-- a field: an object's place (it never changes), an int, a long -/
abbrev FD : Type := Option (Option Nat)
def layT : List ((Nat × List FD) ⊕ (Nat × Nat)) := [
  .inl (5, [some (some 1), some (some 3), some (some 5), some (some 11), some (some 20), some (some 26), some none, some none, some (some 32), some (some 36), none]),
  .inl (4, [some (some 2), some none]),
  .inr (0, 400),
  .inl (1, [some (some 4), some none]),
  .inr (0, 8),
  .inl (0, [some (some 6), some (some 7), some (some 8), some (some 9), some (some 10), some none, some none, some none]),
  .inr (0, 40),
  .inr (0, 40),
  .inr (0, 40),
  .inr (0, 40),
  .inr (0, 40),
  .inl (2, [some (some 12), some (some 14), some (some 1), some none, some none, some none, some none]),
  .inl (1, [some (some 13), some none]),
  .inr (0, 8),
  .inl (0, [some (some 15), some (some 16), some (some 17), some (some 18), some (some 19), some none, some none, some none]),
  .inr (0, 40),
  .inr (0, 40),
  .inr (0, 40),
  .inr (0, 40),
  .inr (0, 40),
  .inl (0, [some (some 21), some (some 22), some (some 23), some (some 24), some (some 25), some none, some none, some none]),
  .inr (0, 40),
  .inr (0, 40),
  .inr (0, 40),
  .inr (0, 40),
  .inr (0, 40),
  .inl (0, [some (some 27), some (some 28), some (some 29), some (some 30), some (some 31), some none, some none, some none]),
  .inr (0, 40),
  .inr (0, 40),
  .inr (0, 40),
  .inr (0, 40),
  .inr (0, 40),
  .inl (3, [some (some 33), some (some 34), some (some 35), some none, some none, some none, some none, some none]),
  .inr (0, 8),
  .inr (0, 8),
  .inr (0, 8),
  .inl (3, [some (some 37), some (some 38), some (some 39), some none, some none, some none, some none, some none]),
  .inr (0, 8),
  .inr (0, 8),
  .inr (0, 8),
  .inl (6, [none, some (some 41), some none, some (some 42), some (some 43), some (some 44), some (some 45), some (some 46), some (some 47), some (some 48), some (some 49), some (some 50), some none, some none, some none, some none, some none, some (some 51), some (some 52), some (some 53), some (some 54), some (some 55), some none, some (some 56), some none, some none, some none, some none, some none, some none, some (some 57)]),
  .inr (1, 400),
  .inr (0, 2),
  .inr (0, 16),
  .inr (0, 4),
  .inr (0, 4),
  .inr (0, 160),
  .inr (0, 160),
  .inr (0, 160),
  .inr (0, 160),
  .inr (2, 2),
  .inr (0, 8),
  .inr (0, 32),
  .inr (0, 32),
  .inr (0, 4),
  .inr (0, 4),
  .inr (0, 8),
  .inr (2, 6561)]
abbrev EV : Type := (Nat → Nat) × va_G × (Nat → ClassId)
def cv (ad : Nat → Nat) : Value → Value
  | .ref n => .ref (ad n)
  | v => v
def fval (σ : Sg) (i k : Nat) : FD → Value
  | some (some t) => .ref t
  | some none => .int (gi σ (100 * i + k))
  | none => .long (gl σ (100 * i + k))
def ent (E : EV) (σ : Sg) (i : Nat) : (Nat × List FD) ⊕ (Nat × Nat) → va_E
  | .inl (ci, fs) => .inr (ci, fs.mapIdx (fun k f => cv E.1 (fval σ i k f)))
  | .inr (t, n) => .inl (E.2.2 t, n, .inl (gm σ i))
def world (E : EV) (σ : Sg) : va_W := layT.mapIdx (fun i c => (E.1 i, ent E σ i c))
def AA (E : EV) : Nat → Prop := fun q => ∃ i, i < layT.length ∧ q = E.1 i
def Inj (E : EV) : Prop := ∀ i j, i < layT.length → j < layT.length → E.1 i = E.1 j → i = j
def tys3 (E : EV) : List (ClassId × FieldType) := [(E.2.2 0, .int), (E.2.2 1, .byte), (E.2.2 2, .boolean)]
theorem lay_all : layT.all (fun c => match c with | .inl (_, fs) => decide (fs.length ≤ 100) | .inr _ => true) = true := by decide +kernel
theorem lay_small {i ci : Nat} {fs : List FD} (h : layT[i]? = some (.inl (ci, fs))) : fs.length ≤ 100 := by
  have h1 := List.all_eq_true.mp lay_all _ (List.mem_of_getElem? h)
  simpa using h1
theorem world_len {E : EV} {σ : Sg} : (world E σ).length = layT.length := by simp [world]
theorem world_at {E : EV} {σ : Sg} {i : Nat} {c : (Nat × List FD) ⊕ (Nat × Nat)} (h : layT[i]? = some c) : (world E σ)[i]? = some (E.1 i, ent E σ i c) := by
  rw [world, List.getElem?_mapIdx, h]; rfl
theorem world_lt {E : EV} {σ : Sg} {i : Nat} {p : Nat × va_E} (h : (world E σ)[i]? = some p) : i < layT.length ∧ p.1 = E.1 i := by
  rw [world, List.getElem?_mapIdx] at h
  cases hc : layT[i]? with
  | none => rw [hc] at h; cases h
  | some c =>
    rw [hc] at h
    have h2 := Option.some.inj h
    exact ⟨(List.getElem?_eq_some_iff.mp hc).1, by rw [← h2]⟩
theorem world_D {E : EV} {σ : Sg} {A : Nat → Prop} (hI : Inj E) (hA : ∀ q, AA E q → A q) : va_D A (world E σ) := by
  refine ⟨fun i j p q hi hj e => ?_, fun k q hq => ?_⟩
  · obtain ⟨h1, h2⟩ := world_lt hi
    obtain ⟨h3, h4⟩ := world_lt hj
    exact hI i j h1 h3 (by rw [← h2, ← h4, e])
  · obtain ⟨h1, h2⟩ := world_lt hq
    exact hA _ ⟨k, h1, h2⟩
theorem ent_congr {E : EV} {σ τ : Sg} {j : Nat} {c : (Nat × List FD) ⊕ (Nat × Nat)} (hc : layT[j]? = some c) (h1 : ∀ k, k < 100 → gi σ (100 * j + k) = gi τ (100 * j + k)) (h2 : ∀ k, k < 100 → gl σ (100 * j + k) = gl τ (100 * j + k)) (h3 : gm σ j = gm τ j) : ent E σ j c = ent E τ j c := by
  match c, hc with
  | .inl (ci, fs), hc =>
    have hs := lay_small hc
    show Sum.inr (ci, _) = Sum.inr (ci, _)
    congr 2
    apply List.ext_getElem?
    intro k
    rw [List.getElem?_mapIdx, List.getElem?_mapIdx]
    cases hk : fs[k]? with
    | none => rfl
    | some f =>
      have hlt : k < 100 := Nat.lt_of_lt_of_le (List.getElem?_eq_some_iff.mp hk).1 hs
      show some _ = some _
      congr 2
      match f with
      | some (some t) => rfl
      | some none => show Value.int _ = Value.int _; rw [h1 k hlt]
      | none => show Value.long _ = Value.long _; rw [h2 k hlt]
  | .inr (t, n), hc =>
    show Sum.inl (E.2.2 t, n, Sum.inl (gm σ j)) = Sum.inl (E.2.2 t, n, Sum.inl (gm τ j))
    rw [h3]
theorem world_upd {E : EV} {σ τ : Sg} {i : Nat} {x : va_E} (hi : i < layT.length) (hx : ∀ c, layT[i]? = some c → x = ent E τ i c) (ho : ∀ j c, j ≠ i → layT[j]? = some c → ent E σ j c = ent E τ j c) : (world E σ).set i (E.1 i, x) = world E τ := by
  apply List.ext_getElem?
  intro j
  rw [List.getElem?_set]
  by_cases hj : i = j
  · subst hj
    obtain ⟨c, hc⟩ : ∃ c, layT[i]? = some c := ⟨_, List.getElem?_eq_getElem hi⟩
    rw [if_pos rfl, if_pos (by rw [world_len]; exact hi), world_at hc, hx c hc]
  · rw [if_neg hj]
    cases hc : layT[j]? with
    | none =>
      have h1 : layT.length ≤ j := List.getElem?_eq_none_iff.mp hc
      rw [List.getElem?_eq_none_iff.mpr (by rw [world_len]; exact h1), List.getElem?_eq_none_iff.mpr (by rw [world_len]; exact h1)]
    | some c => rw [world_at hc, world_at hc, ho j c (fun q => hj q.symm) hc]
theorem world_si {E : EV} {σ : Sg} {i ci k : Nat} {fs : List FD} {v : Int32} (hi : layT[i]? = some (.inl (ci, fs))) (hk : fs[k]? = some (some none)) : (world E σ).set i (E.1 i, .inr (ci, (fs.mapIdx (fun k f => cv E.1 (fval σ i k f))).set k (.int v))) = world E (si σ (100 * i + k) v) := by
  have hs := lay_small hi
  have hkl : k < fs.length := (List.getElem?_eq_some_iff.mp hk).1
  refine world_upd (List.getElem?_eq_some_iff.mp hi).1 (fun c hc => ?_) (fun j c hj hc => ent_congr hc (fun a ha => ?_) (fun _ _ => rfl) rfl)
  · rw [hi] at hc
    obtain rfl := Option.some.inj hc
    show Sum.inr (ci, _) = Sum.inr (ci, _)
    congr 2
    apply List.ext_getElem?
    intro a
    rw [List.getElem?_set, List.getElem?_mapIdx, List.getElem?_mapIdx]
    by_cases ha : k = a
    · subst ha
      rw [if_pos rfl, if_pos (by rw [List.length_mapIdx]; exact hkl), hk]
      show some _ = some (Value.int (if 100 * i + k = 100 * i + k then v else _))
      rw [if_pos rfl]
    · rw [if_neg ha]
      cases hf : fs[a]? with
      | none => rfl
      | some f =>
        show some _ = some _
        congr 2
        match f with
        | some (some t) => rfl
        | some none =>
          show Value.int _ = Value.int (if 100 * i + a = 100 * i + k then v else _)
          rw [if_neg (by omega)]; rfl
        | none => rfl
  · show gi σ _ = if 100 * j + a = 100 * i + k then v else gi σ _
    rw [if_neg (by omega)]
theorem world_sl {E : EV} {σ : Sg} {i ci k : Nat} {fs : List FD} {v : Int64} (hi : layT[i]? = some (.inl (ci, fs))) (hk : fs[k]? = some none) : (world E σ).set i (E.1 i, .inr (ci, (fs.mapIdx (fun k f => cv E.1 (fval σ i k f))).set k (.long v))) = world E (sl σ (100 * i + k) v) := by
  have hs := lay_small hi
  have hkl : k < fs.length := (List.getElem?_eq_some_iff.mp hk).1
  refine world_upd (List.getElem?_eq_some_iff.mp hi).1 (fun c hc => ?_) (fun j c hj hc => ent_congr hc (fun _ _ => rfl) (fun a ha => ?_) rfl)
  · rw [hi] at hc
    obtain rfl := Option.some.inj hc
    show Sum.inr (ci, _) = Sum.inr (ci, _)
    congr 2
    apply List.ext_getElem?
    intro a
    rw [List.getElem?_set, List.getElem?_mapIdx, List.getElem?_mapIdx]
    by_cases ha : k = a
    · subst ha
      rw [if_pos rfl, if_pos (by rw [List.length_mapIdx]; exact hkl), hk]
      show some _ = some (Value.long (if 100 * i + k = 100 * i + k then v else _))
      rw [if_pos rfl]
    · rw [if_neg ha]
      cases hf : fs[a]? with
      | none => rfl
      | some f =>
        show some _ = some _
        congr 2
        match f with
        | some (some t) => rfl
        | some none => rfl
        | none =>
          show Value.long _ = Value.long (if 100 * i + a = 100 * i + k then v else _)
          rw [if_neg (by omega)]; rfl
  · show gl σ _ = if 100 * j + a = 100 * i + k then v else gl σ _
    rw [if_neg (by omega)]
theorem world_sa {E : EV} {σ : Sg} {i t n : Nat} {f : Nat → Int32} (hi : layT[i]? = some (.inr (t, n))) : (world E σ).set i (E.1 i, .inl (E.2.2 t, n, .inl f)) = world E (sa σ i f) := by
  refine world_upd (List.getElem?_eq_some_iff.mp hi).1 (fun c hc => ?_) (fun j c hj hc => ent_congr hc (fun _ _ => rfl) (fun _ _ => rfl) ?_)
  · rw [hi] at hc
    obtain rfl := Option.some.inj hc
    show Sum.inl (E.2.2 t, n, Sum.inl f) = Sum.inl (E.2.2 t, n, Sum.inl (if i = i then f else _))
    rw [if_pos rfl]
  · show gm σ j = if j = i then f else gm σ j
    rw [if_neg hj]
/-! the locals: what is known of each place -/
def asl (ad : Nat → Nat) (L : List (Option Value)) : List (Nat × Value) := (List.range L.length).filterMap (fun i => match L[i]? with | some (some v) => some (i, cv ad v) | _ => none)
theorem asl_mem {ad : Nat → Nat} {L : List (Option Value)} {q : Nat × Value} : q ∈ asl ad L ↔ ∃ v, L[q.1]? = some (some v) ∧ q.2 = cv ad v := by
  rw [asl, List.mem_filterMap]
  constructor
  · rintro ⟨i, -, h⟩
    cases hL : L[i]? with
    | none => rw [hL] at h; cases h
    | some o =>
      cases o with
      | none => rw [hL] at h; cases h
      | some v =>
        rw [hL] at h
        obtain rfl := Option.some.inj h
        exact ⟨v, hL, rfl⟩
  · rintro ⟨v, h1, h2⟩
    refine ⟨q.1, List.mem_range.mpr (List.getElem?_eq_some_iff.mp h1).1, ?_⟩
    rw [h1]
    show some (q.1, cv ad v) = some q
    rw [← h2]
abbrev lvP (ad : Nat → Nat) (ls : Array Slot) (nL : Nat) (L : List (Option Value)) : Prop := lv_has ls nL (asl ad L)
theorem lvP_at {ad : Nat → Nat} {ls : Array Slot} {nL i : Nat} {L : List (Option Value)} {v : Value} (h : lvP ad ls nL L) (hi : L[i]? = some (some v)) : ls[i]? = some (.val (cv ad v)) := h.2.2 (i, cv ad v) (asl_mem.mpr ⟨v, hi, rfl⟩)
theorem lvP_of {ad : Nat → Nat} {ls : Array Slot} {nL : Nat} {L : List (Option Value)} {l : List (Nat × Value)} (h : lv_has ls nL l) (hs : ∀ (i : Nat) (v : Value), L[i]? = some (some v) → (i, cv ad v) ∈ l) : lvP ad ls nL L :=
  ⟨h.1, h.2.1, fun q hq => h.2.2 q (by
    obtain ⟨v, h1, h2⟩ := asl_mem.mp hq
    have h3 := hs q.1 v h1
    rw [← h2] at h3
    exact h3)⟩
theorem cv_cat (ad : Nat → Nat) (v : Value) : (cv ad v).category = v.category := by cases v <;> rfl
theorem cv_cats (ad : Nat → Nat) (st : List Value) : ((st.map (cv ad)).map fun v => v.category).sum = (st.map fun v => v.category).sum := by
  rw [List.map_map]
  congr 2
  funext v
  exact cv_cat ad v
def kil (L : List (Option Value)) : Nat → List (Option Value)
  | 0 => L
  | j + 1 => match L[j]? with
    | some (some w) => if w.category = 2 then L.set j none else L
    | _ => L
def st1 (L : List (Option Value)) (i : Nat) (v : Value) : List (Option Value) := (kil L i).set i (some v)
def st2 (L : List (Option Value)) (i : Nat) (v : Value) : List (Option Value) := ((kil L i).set i (some v)).set (i + 1) none
theorem kil_at {L : List (Option Value)} {i j : Nat} {v : Value} (h : (kil L i)[j]? = some (some v)) : L[j]? = some (some v) ∧ ¬ (j + 1 = i ∧ v.category = 2) := by
  cases i with
  | zero => exact ⟨h, fun q => by omega⟩
  | succ k =>
    rw [kil] at h
    cases hk : L[k]? with
    | none =>
      rw [hk] at h
      refine ⟨h, fun q => ?_⟩
      have : j = k := by omega
      subst this
      rw [hk] at h
      cases h
    | some o =>
      cases o with
      | none =>
        rw [hk] at h
        refine ⟨h, fun q => ?_⟩
        have : j = k := by omega
        subst this
        rw [hk] at h
        cases h
      | some w =>
        rw [hk] at h
        dsimp only at h
        by_cases hw : w.category = 2
        · rw [if_pos hw, List.getElem?_set] at h
          by_cases hj : k = j
          · rw [if_pos hj] at h
            split at h <;> cases h
          · rw [if_neg hj] at h
            exact ⟨h, fun q => hj (by omega)⟩
        · rw [if_neg hw] at h
          refine ⟨h, fun q => ?_⟩
          have : j = k := by omega
          subst this
          rw [hk] at h
          cases h
          exact hw q.2
theorem lvP_st1 {ad : Nat → Nat} {ls : Array Slot} {nL i : Nat} {L : List (Option Value)} {v : Value} (h : lv_has ls nL ((i, cv ad v) :: (asl ad L).filter (fun q => !(q.1 == i) && !(q.1 + 1 == i && q.2.category == 2)))) : lvP ad ls nL (st1 L i v) := by
  refine lvP_of h (fun j w hj => ?_)
  rw [st1, List.getElem?_set] at hj
  by_cases e : i = j
  · rw [if_pos e] at hj
    split at hj
    · cases hj; subst e; exact List.mem_cons_self
    · cases hj
  · rw [if_neg e] at hj
    obtain ⟨h1, h2⟩ := kil_at hj
    refine List.mem_cons_of_mem _ (List.mem_filter.mpr ⟨asl_mem.mpr ⟨w, h1, rfl⟩, ?_⟩)
    simp only [Bool.and_eq_true, Bool.not_eq_true', beq_eq_false_iff_ne, ne_eq, Bool.and_eq_false_iff]
    refine ⟨fun q => e q.symm, ?_⟩
    rw [cv_cat]
    by_cases q : j + 1 = i
    · exact Or.inr (fun z => h2 ⟨q, z⟩)
    · exact Or.inl q
theorem lvP_st2 {ad : Nat → Nat} {ls : Array Slot} {nL i : Nat} {L : List (Option Value)} {v : Value} (h : lv_has ls nL ((i, cv ad v) :: (asl ad L).filter (fun q => !(q.1 == i) && (!(q.1 == i + 1) && !(q.1 + 1 == i && q.2.category == 2))))) : lvP ad ls nL (st2 L i v) := by
  refine lvP_of h (fun j w hj => ?_)
  rw [st2, List.getElem?_set] at hj
  by_cases e2 : i + 1 = j
  · rw [if_pos e2] at hj
    split at hj <;> cases hj
  · rw [if_neg e2, List.getElem?_set] at hj
    by_cases e : i = j
    · rw [if_pos e] at hj
      split at hj
      · cases hj; subst e; exact List.mem_cons_self
      · cases hj
    · rw [if_neg e] at hj
      obtain ⟨h1, h2⟩ := kil_at hj
      refine List.mem_cons_of_mem _ (List.mem_filter.mpr ⟨asl_mem.mpr ⟨w, h1, rfl⟩, ?_⟩)
      simp only [Bool.and_eq_true, Bool.not_eq_true', beq_eq_false_iff_ne, ne_eq, Bool.and_eq_false_iff]
      refine ⟨fun q => e q.symm, fun q => e2 q.symm, ?_⟩
      rw [cv_cat]
      by_cases q : j + 1 = i
      · exact Or.inr (fun z => h2 ⟨q, z⟩)
      · exact Or.inl q
/-- a method's locals at its start -/
def l0 : List Value → Nat → List (Option Value)
  | [], n => List.replicate n none
  | v :: vs, n => if v.category = 2 then some v :: none :: l0 vs (n - 2) else some v :: l0 vs (n - 1)
theorem l0_at {ad : Nat → Nat} : ∀ (vs : List Value) (n b i : Nat) (v : Value), (l0 vs n)[i]? = some (some v) → (b + i, cv ad v) ∈ lv_args b (vs.map (cv ad)) := by
  intro vs
  induction vs with
  | nil =>
    intro n b i v h
    rw [l0, List.getElem?_replicate] at h
    split at h <;> cases h
  | cons w vs ih =>
    intro n b i v h
    rw [l0] at h
    show _ ∈ (b, cv ad w) :: lv_args (if (cv ad w).category = 2 then b + 2 else b + 1) (vs.map (cv ad))
    rw [cv_cat]
    by_cases hc : w.category = 2
    · rw [if_pos hc] at h ⊢
      match i with
      | 0 => cases h; exact List.mem_cons_self
      | 1 => cases h
      | j + 2 =>
        have := ih (n - 2) (b + 2) j v h
        rw [show b + (j + 2) = b + 2 + j by omega]
        exact List.mem_cons_of_mem _ this
    · rw [if_neg hc] at h ⊢
      match i with
      | 0 => cases h; exact List.mem_cons_self
      | j + 1 =>
        have := ih (n - 1) (b + 1) j v h
        rw [show b + (j + 1) = b + 1 + j by omega]
        exact List.mem_cons_of_mem _ this

/-! the judgement: from this place of a method's code, with these locals, this stack and this store, the method comes to its end as the target says -/
abbrev MI : Type := MethodName × ByteArray × Nat × Option FieldType × Nat
abbrev Tgt : Type := Room × Nat × Nat × (State → Nat → Prop) × (List Frame → Array Value → State → State → Prop) × (Method → Array Value → State → Prop)
def Big : List Cond := lw_tbl.filter goodWord
theorem bg {w : Cond} (i : Nat) (h : lw_tbl[i]? = some w) (g : goodWord w = true) : w ∈ Big := List.mem_filter.mpr ⟨List.mem_of_getElem? h, g⟩
theorem Big_good : GoodIn Big Big := fun w h => ⟨h, good_of_word (List.mem_filter.mp h).2⟩
def slen : List Nat := [6, 4, 5, 5, 3, 4]
def sbyt : List (List Int32) := [[112, 101, 114, 115, 111, 110], [116, 97, 108, 107], [109, 97, 121, 98, 101], [116, 104, 105, 110, 107], [115, 97, 121], [109, 111, 118, 101]]
def strT : List (Nat × String) := [(55, "person"), (96, "talk"), (98, "maybe"), (100, "think"), (102, "say"), (104, "move")]
/-- the constants' world: the six texts, two statics -/
def Str (E : EV) (A : Nat → Prop) (s : State) (H : Heap) : Prop :=
  vk_S 6 slen sbyt (fun i => E.1 (900 + i)) (fun i => E.1 (910 + i)) A s H ∧ (∀ (i k : Nat) (tx : String), strT[i]? = some (k, tx) → vk_R RX2 k tx (E.1 (900 + i)) s) ∧
  va_Z "java/lang/String" "COMPACT_STRINGS" "Z" (.int 1) A s H ∧ (va_Z "jdk/internal/util/Preconditions" "SIOOBE_FORMATTER" "Ljava/util/function/BiFunction;" .null A s H ∨ va_Z "jdk/internal/util/Preconditions" "SIOOBE_FORMATTER" "Ljava/util/function/BiFunction;" (.ref (E.1 990)) A s H)
theorem Str.to {E : EV} {A B : Nat → Prop} {s U : State} {H : Heap} {locs : List Loc} (h : Str E A s s.heap) (hS : va_S A s.heap H locs) (hAB : ∀ q, B q → A q) (hU : U.heap = H) (hW : s.WarmedH U.vm) : Str E B U U.heap := by
  obtain ⟨h1, h2, h3, h4⟩ := h
  subst hU
  exact ⟨((h1.kept hS.2.1).narrow hAB).moved hW.alike, fun i k tx hi => (h2 i k tx hi).warm hW, ((h3.kept hS.2.1).narrow hAB).moved hW.alike, h4.elim (fun h => Or.inl (((h.kept hS.2.1).narrow hAB).moved hW.alike)) (fun h => Or.inr (((h.kept hS.2.1).narrow hAB).moved hW.alike))⟩
theorem Str.calling {E : EV} {A : Nat → Prop} {U : State} {g : JFrame} {mk : MethodId} {a : Array Value} (h : Str E A U U.heap) : Str E A (U.calling g mk a) (U.calling g mk a).heap := by
  obtain ⟨h1, h2, h3, h4⟩ := h
  exact ⟨h1.moved (U := U.calling g mk a) (Vm.Alike.refl U.vm), fun i k tx hi => vk_R.same (U := U.calling g mk a) rfl (h2 i k tx hi), h3.moved (U := U.calling g mk a) (Vm.Alike.refl U.vm), h4.elim (fun h => Or.inl (h.moved (U := U.calling g mk a) (Vm.Alike.refl U.vm))) (fun h => Or.inr (h.moved (U := U.calling g mk a) (Vm.Alike.refl U.vm)))⟩
def Cx (E : EV) (mi : MI) (T : Tgt) (p : Program) (s : State) (m : MethodId) (args : Array Value) (meth : Method) (c : Code) : Prop :=
  p.tables.exec = Jvm.exec ∧ c.code = mi.2.1 ∧ c.maxLocals = mi.2.2.1 ∧ s.vm.findClass mi.1.cls = some m.cls ∧ (∀ w ∈ Big, w.before args s = true) ∧ va_K E.2.1 vwCl (tys3 E) s ∧ Inj E ∧ (∀ q, AA E q → T.2.2.2.1 s q) ∧ Str E (T.2.2.2.1 s) s s.heap ∧ T.2.2.2.2.2 meth args s
def J (E : EV) (mi : MI) (T : Tgt) (pc : Nat) (L : List (Option Value)) (st : List Value) (σ : Sg) : Prop :=
  ∀ (p : Program) (l : Launch) (e : Env) (s : State) (m : MethodId) (args : Array Value) (below : List Frame) (meth : Method) (c : Code), Cx E mi T p s m args meth c →
    ∀ (H : Heap) (locs : List Loc) (ls : Array Slot), va_P E.2.1 vwCl (world E σ) H → va_S (T.2.2.2.1 s) s.heap H locs → lvP E.1 ls mi.2.2.1 L →
      W p l e T.1 s m args below meth c H locs T.2.1 T.2.2.1 (T.2.2.2.2.1 below args s) (F0 m pc ls (st.map (cv E.1)))
section RULES
variable {E : EV} {mi : MI} {T : Tgt} {pc : Nat} {L : List (Option Value)} {st : List Value} {σ : Sg}
theorem x_iconst {n : Int} {v : Int32} (hd : decode mi.2.1 pc = .ok (.iconst n, 1)) (hv : Int32.ofInt n = v) (k : J E mi T (pc + 1) L (.int v :: st) σ) : J E mi T pc L st σ := by
  intro p l e s m args below meth c C H locs ls hP hS hl
  obtain ⟨hx, hb, hml, hown, hts, hK, hI, hA, hStr, hX⟩ := id C
  exact lv_iconst hx hb hd hv (k p l e s m args below meth c C H locs ls hP hS hl)
theorem x_bipush {n : Int} {v : Int32} (hd : decode mi.2.1 pc = .ok (.bipush n, 2)) (hv : (Int8.ofInt n).toInt32 = v) (k : J E mi T (pc + 2) L (.int v :: st) σ) : J E mi T pc L st σ := by
  intro p l e s m args below meth c C H locs ls hP hS hl
  obtain ⟨hx, hb, hml, hown, hts, hK, hI, hA, hStr, hX⟩ := id C
  exact lv_bipush hx hb hd hv (k p l e s m args below meth c C H locs ls hP hS hl)
theorem x_sipush {n : Int} {v : Int32} (hd : decode mi.2.1 pc = .ok (.sipush n, 3)) (hv : (Int16.ofInt n).toInt32 = v) (k : J E mi T (pc + 3) L (.int v :: st) σ) : J E mi T pc L st σ := by
  intro p l e s m args below meth c C H locs ls hP hS hl
  obtain ⟨hx, hb, hml, hown, hts, hK, hI, hA, hStr, hX⟩ := id C
  exact lv_sipush hx hb hd hv (k p l e s m args below meth c C H locs ls hP hS hl)
theorem x_lconst {n : Fin 2} {v : Int64} (hd : decode mi.2.1 pc = .ok (.lconst n, 1)) (hv : Int64.ofNat (n : Nat) = v) (k : J E mi T (pc + 1) L (.long v :: st) σ) : J E mi T pc L st σ := by
  intro p l e s m args below meth c C H locs ls hP hS hl
  obtain ⟨hx, hb, hml, hown, hts, hK, hI, hA, hStr, hX⟩ := id C
  exact lv_lconst hx hb hd hv (k p l e s m args below meth c C H locs ls hP hS hl)
theorem x_ldc {n : Nat} {v : Int32} (hw : Cond.constant mi.1.cls n v ∈ Big) (hd : decode mi.2.1 pc = .ok (.ldc n, 2)) (k : J E mi T (pc + 2) L (.int v :: st) σ) : J E mi T pc L st σ := by
  intro p l e s m args below meth c C H locs ls hP hS hl
  obtain ⟨hx, hb, hml, hown, hts, hK, hI, hA, hStr, hX⟩ := id C
  exact lv_ldc hx hb hown (hts _ hw) hd (k p l e s m args below meth c C H locs ls hP hS hl)
theorem x_ldcw {n : Nat} {v : Int32} (hw : Cond.constant mi.1.cls n v ∈ Big) (hd : decode mi.2.1 pc = .ok (.ldc_w n, 3)) (k : J E mi T (pc + 3) L (.int v :: st) σ) : J E mi T pc L st σ := by
  intro p l e s m args below meth c C H locs ls hP hS hl
  obtain ⟨hx, hb, hml, hown, hts, hK, hI, hA, hStr, hX⟩ := id C
  exact lv_ldcw hx hb hown (hts _ hw) hd (k p l e s m args below meth c C H locs ls hP hS hl)
theorem x_ldc2 {n : Nat} {v : Int64} (hw : Cond.constantLong mi.1.cls n v ∈ Big) (hd : decode mi.2.1 pc = .ok (.ldc2_w n, 3)) (k : J E mi T (pc + 3) L (.long v :: st) σ) : J E mi T pc L st σ := by
  intro p l e s m args below meth c C H locs ls hP hS hl
  obtain ⟨hx, hb, hml, hown, hts, hK, hI, hA, hStr, hX⟩ := id C
  exact lv_ldc2 hx hb hown (hts _ hw) hd (k p l e s m args below meth c C H locs ls hP hS hl)
theorem x_ldcS {n i : Nat} {tx : String} (ho : mi.1.cls = RX2) (hi : strT[i]? = some (n, tx)) (hd : decode mi.2.1 pc = .ok (.ldc n, 2)) (k : J E mi T (pc + 2) L (.ref (900 + i) :: st) σ) : J E mi T pc L st σ := by
  intro p l e s m args below meth c C H locs ls hP hS hl
  obtain ⟨hx, hb, hml, hown, hts, hK, hI, hA, hStr, hX⟩ := id C
  exact va_ldcS hx hb hown (by rw [ho]; exact hStr.2.1 i n tx hi) hd (k p l e s m args below meth c C H locs ls hP hS hl)
theorem x_iload {i : Nat} {x : Int32} (hd : decode mi.2.1 pc = .ok (.iload i, 2)) (hi : L[i]? = some (some (.int x))) (k : J E mi T (pc + 2) L (.int x :: st) σ) : J E mi T pc L st σ := by
  intro p l e s m args below meth c C H locs ls hP hS hl
  obtain ⟨hx, hb, hml, hown, hts, hK, hI, hA, hStr, hX⟩ := id C
  exact lv_iload hx hb hd (lvP_at hl hi) (k p l e s m args below meth c C H locs ls hP hS hl)
theorem x_iload_n {i : Fin 4} {x : Int32} (hd : decode mi.2.1 pc = .ok (.iload_n i, 1)) (hi : L[(i : Nat)]? = some (some (.int x))) (k : J E mi T (pc + 1) L (.int x :: st) σ) : J E mi T pc L st σ := by
  intro p l e s m args below meth c C H locs ls hP hS hl
  obtain ⟨hx, hb, hml, hown, hts, hK, hI, hA, hStr, hX⟩ := id C
  exact lv_iload_n hx hb hd rfl (lvP_at hl hi) (k p l e s m args below meth c C H locs ls hP hS hl)
theorem x_istore {i : Nat} {x : Int32} {L2 : List (Option Value)} (hd : decode mi.2.1 pc = .ok (.istore i, 2)) (hL : st1 L i (.int x) = L2) (hn : i < mi.2.2.1) (k : J E mi T (pc + 2) L2 st σ) : J E mi T pc L (.int x :: st) σ := by
  intro p l e s m args below meth c C H locs ls hP hS hl
  obtain ⟨hx, hb, hml, hown, hts, hK, hI, hA, hStr, hX⟩ := id C
  subst hL
  exact lv_istore hx hb hd hl hn rfl (fun ls2 h2 => k p l e s m args below meth c C H locs ls2 hP hS (lvP_st1 (v := .int x) h2))
theorem x_istore_n {i : Fin 4} {x : Int32} {L2 : List (Option Value)} (hd : decode mi.2.1 pc = .ok (.istore_n i, 1)) (hL : st1 L (i : Nat) (.int x) = L2) (hn : (i : Nat) < mi.2.2.1) (k : J E mi T (pc + 1) L2 st σ) : J E mi T pc L (.int x :: st) σ := by
  intro p l e s m args below meth c C H locs ls hP hS hl
  obtain ⟨hx, hb, hml, hown, hts, hK, hI, hA, hStr, hX⟩ := id C
  subst hL
  exact lv_istore_n hx hb hd rfl hl hn rfl (fun ls2 h2 => k p l e s m args below meth c C H locs ls2 hP hS (lvP_st1 (v := .int x) h2))
theorem x_lload {i : Nat} {x : Int64} (hd : decode mi.2.1 pc = .ok (.lload i, 2)) (hi : L[i]? = some (some (.long x))) (k : J E mi T (pc + 2) L (.long x :: st) σ) : J E mi T pc L st σ := by
  intro p l e s m args below meth c C H locs ls hP hS hl
  obtain ⟨hx, hb, hml, hown, hts, hK, hI, hA, hStr, hX⟩ := id C
  exact lv_lload hx hb hd (lvP_at hl hi) (k p l e s m args below meth c C H locs ls hP hS hl)
theorem x_lload_n {i : Fin 4} {x : Int64} (hd : decode mi.2.1 pc = .ok (.lload_n i, 1)) (hi : L[(i : Nat)]? = some (some (.long x))) (k : J E mi T (pc + 1) L (.long x :: st) σ) : J E mi T pc L st σ := by
  intro p l e s m args below meth c C H locs ls hP hS hl
  obtain ⟨hx, hb, hml, hown, hts, hK, hI, hA, hStr, hX⟩ := id C
  exact lv_lload_n hx hb hd rfl (lvP_at hl hi) (k p l e s m args below meth c C H locs ls hP hS hl)
theorem x_lstore {i : Nat} {x : Int64} {L2 : List (Option Value)} (hd : decode mi.2.1 pc = .ok (.lstore i, 2)) (hL : st2 L i (.long x) = L2) (hn : i + 1 < mi.2.2.1) (k : J E mi T (pc + 2) L2 st σ) : J E mi T pc L (.long x :: st) σ := by
  intro p l e s m args below meth c C H locs ls hP hS hl
  obtain ⟨hx, hb, hml, hown, hts, hK, hI, hA, hStr, hX⟩ := id C
  subst hL
  exact lv_lstore hx hb hd hl hn rfl (fun ls2 h2 => k p l e s m args below meth c C H locs ls2 hP hS (lvP_st2 (v := .long x) h2))
theorem x_lstore_n {i : Fin 4} {x : Int64} {L2 : List (Option Value)} (hd : decode mi.2.1 pc = .ok (.lstore_n i, 1)) (hL : st2 L (i : Nat) (.long x) = L2) (hn : (i : Nat) + 1 < mi.2.2.1) (k : J E mi T (pc + 1) L2 st σ) : J E mi T pc L (.long x :: st) σ := by
  intro p l e s m args below meth c C H locs ls hP hS hl
  obtain ⟨hx, hb, hml, hown, hts, hK, hI, hA, hStr, hX⟩ := id C
  subst hL
  exact lv_lstore_n hx hb hd rfl hl hn rfl (fun ls2 h2 => k p l e s m args below meth c C H locs ls2 hP hS (lvP_st2 (v := .long x) h2))
theorem x_aload {i : Nat} {x : Nat} (hd : decode mi.2.1 pc = .ok (.aload i, 2)) (hi : L[i]? = some (some (.ref x))) (k : J E mi T (pc + 2) L (.ref x :: st) σ) : J E mi T pc L st σ := by
  intro p l e s m args below meth c C H locs ls hP hS hl
  obtain ⟨hx, hb, hml, hown, hts, hK, hI, hA, hStr, hX⟩ := id C
  exact lv_aload hx hb hd (lvP_at hl hi) (k p l e s m args below meth c C H locs ls hP hS hl)
theorem x_aload_n {i : Fin 4} {x : Nat} (hd : decode mi.2.1 pc = .ok (.aload_n i, 1)) (hi : L[(i : Nat)]? = some (some (.ref x))) (k : J E mi T (pc + 1) L (.ref x :: st) σ) : J E mi T pc L st σ := by
  intro p l e s m args below meth c C H locs ls hP hS hl
  obtain ⟨hx, hb, hml, hown, hts, hK, hI, hA, hStr, hX⟩ := id C
  exact lv_aload_n hx hb hd rfl (lvP_at hl hi) (k p l e s m args below meth c C H locs ls hP hS hl)
theorem x_astore {i : Nat} {x : Nat} {L2 : List (Option Value)} (hd : decode mi.2.1 pc = .ok (.astore i, 2)) (hL : st1 L i (.ref x) = L2) (hn : i < mi.2.2.1) (k : J E mi T (pc + 2) L2 st σ) : J E mi T pc L (.ref x :: st) σ := by
  intro p l e s m args below meth c C H locs ls hP hS hl
  obtain ⟨hx, hb, hml, hown, hts, hK, hI, hA, hStr, hX⟩ := id C
  subst hL
  exact lv_astore hx hb hd hl hn rfl (fun ls2 h2 => k p l e s m args below meth c C H locs ls2 hP hS (lvP_st1 (v := .ref x) h2))
theorem x_astore_n {i : Fin 4} {x : Nat} {L2 : List (Option Value)} (hd : decode mi.2.1 pc = .ok (.astore_n i, 1)) (hL : st1 L (i : Nat) (.ref x) = L2) (hn : (i : Nat) < mi.2.2.1) (k : J E mi T (pc + 1) L2 st σ) : J E mi T pc L (.ref x :: st) σ := by
  intro p l e s m args below meth c C H locs ls hP hS hl
  obtain ⟨hx, hb, hml, hown, hts, hK, hI, hA, hStr, hX⟩ := id C
  subst hL
  exact lv_astore_n hx hb hd rfl hl hn rfl (fun ls2 h2 => k p l e s m args below meth c C H locs ls2 hP hS (lvP_st1 (v := .ref x) h2))
theorem x_iinc {i : Nat} {n : Int} {x v : Int32} {L2 : List (Option Value)} (hd : decode mi.2.1 pc = .ok (.iinc i n, 3)) (hi : L[i]? = some (some (.int x))) (hv : x + Int32.ofInt n = v) (hL : st1 L i (.int v) = L2) (hn : i < mi.2.2.1) (k : J E mi T (pc + 3) L2 st σ) : J E mi T pc L st σ := by
  intro p l e s m args below meth c C H locs ls hP hS hl
  obtain ⟨hx, hb, hml, hown, hts, hK, hI, hA, hStr, hX⟩ := id C
  subst hL
  obtain ⟨k0, hk0⟩ := List.mem_iff_getElem?.mp (asl_mem (q := (i, .int x)) (ad := E.1) (L := L)|>.mpr ⟨.int x, hi, rfl⟩)
  exact lv_iinc hx hb hd hl hk0 hv hn rfl (fun ls2 h2 => k p l e s m args below meth c C H locs ls2 hP hS (lvP_st1 (v := .int v) h2))
theorem x_iadd {x y : Int32} (hd : decode mi.2.1 pc = .ok (.iadd, 1)) (k : J E mi T (pc + 1) L (.int (x + y) :: st) σ) : J E mi T pc L (.int y :: .int x :: st) σ := by
  intro p l e s m args below meth c C H locs ls hP hS hl
  obtain ⟨hx, hb, hml, hown, hts, hK, hI, hA, hStr, hX⟩ := id C
  exact lv_iadd hx hb hd (k p l e s m args below meth c C H locs ls hP hS hl)
theorem x_isub {x y : Int32} (hd : decode mi.2.1 pc = .ok (.isub, 1)) (k : J E mi T (pc + 1) L (.int (x - y) :: st) σ) : J E mi T pc L (.int y :: .int x :: st) σ := by
  intro p l e s m args below meth c C H locs ls hP hS hl
  obtain ⟨hx, hb, hml, hown, hts, hK, hI, hA, hStr, hX⟩ := id C
  exact lv_isub hx hb hd (k p l e s m args below meth c C H locs ls hP hS hl)
theorem x_imul {x y : Int32} (hd : decode mi.2.1 pc = .ok (.imul, 1)) (k : J E mi T (pc + 1) L (.int (x * y) :: st) σ) : J E mi T pc L (.int y :: .int x :: st) σ := by
  intro p l e s m args below meth c C H locs ls hP hS hl
  obtain ⟨hx, hb, hml, hown, hts, hK, hI, hA, hStr, hX⟩ := id C
  exact lv_imul hx hb hd (k p l e s m args below meth c C H locs ls hP hS hl)
theorem x_iand {x y : Int32} (hd : decode mi.2.1 pc = .ok (.iand, 1)) (k : J E mi T (pc + 1) L (.int (x &&& y) :: st) σ) : J E mi T pc L (.int y :: .int x :: st) σ := by
  intro p l e s m args below meth c C H locs ls hP hS hl
  obtain ⟨hx, hb, hml, hown, hts, hK, hI, hA, hStr, hX⟩ := id C
  exact lv_iand hx hb hd (k p l e s m args below meth c C H locs ls hP hS hl)
theorem x_ior {x y : Int32} (hd : decode mi.2.1 pc = .ok (.ior, 1)) (k : J E mi T (pc + 1) L (.int (x ||| y) :: st) σ) : J E mi T pc L (.int y :: .int x :: st) σ := by
  intro p l e s m args below meth c C H locs ls hP hS hl
  obtain ⟨hx, hb, hml, hown, hts, hK, hI, hA, hStr, hX⟩ := id C
  exact lv_ior hx hb hd (k p l e s m args below meth c C H locs ls hP hS hl)
theorem x_ixor {x y : Int32} (hd : decode mi.2.1 pc = .ok (.ixor, 1)) (k : J E mi T (pc + 1) L (.int (x ^^^ y) :: st) σ) : J E mi T pc L (.int y :: .int x :: st) σ := by
  intro p l e s m args below meth c C H locs ls hP hS hl
  obtain ⟨hx, hb, hml, hown, hts, hK, hI, hA, hStr, hX⟩ := id C
  exact lv_ixor hx hb hd (k p l e s m args below meth c C H locs ls hP hS hl)
theorem x_ishl {x y : Int32} (hd : decode mi.2.1 pc = .ok (.ishl, 1)) (k : J E mi T (pc + 1) L (.int (x <<< (y &&& 31)) :: st) σ) : J E mi T pc L (.int y :: .int x :: st) σ := by
  intro p l e s m args below meth c C H locs ls hP hS hl
  obtain ⟨hx, hb, hml, hown, hts, hK, hI, hA, hStr, hX⟩ := id C
  exact lv_ishl hx hb hd (k p l e s m args below meth c C H locs ls hP hS hl)
theorem x_ishr {x y : Int32} (hd : decode mi.2.1 pc = .ok (.ishr, 1)) (k : J E mi T (pc + 1) L (.int (x >>> (y &&& 31)) :: st) σ) : J E mi T pc L (.int y :: .int x :: st) σ := by
  intro p l e s m args below meth c C H locs ls hP hS hl
  obtain ⟨hx, hb, hml, hown, hts, hK, hI, hA, hStr, hX⟩ := id C
  exact lv_ishr hx hb hd (k p l e s m args below meth c C H locs ls hP hS hl)
theorem x_iushr {x y : Int32} (hd : decode mi.2.1 pc = .ok (.iushr, 1)) (k : J E mi T (pc + 1) L (.int (x.toUInt32 >>> (y.toUInt32 &&& Int32.toUInt32 31)).toInt32 :: st) σ) : J E mi T pc L (.int y :: .int x :: st) σ := by
  intro p l e s m args below meth c C H locs ls hP hS hl
  obtain ⟨hx, hb, hml, hown, hts, hK, hI, hA, hStr, hX⟩ := id C
  exact lv_iushr hx hb hd rfl (k p l e s m args below meth c C H locs ls hP hS hl)
theorem x_idiv {x y : Int32} (hd : decode mi.2.1 pc = .ok (.idiv, 1)) (hne : ¬ y = 0) (k : J E mi T (pc + 1) L (.int (x / y) :: st) σ) : J E mi T pc L (.int y :: .int x :: st) σ := by
  intro p l e s m args below meth c C H locs ls hP hS hl
  obtain ⟨hx, hb, hml, hown, hts, hK, hI, hA, hStr, hX⟩ := id C
  exact lv_idiv hx hb hd hne (k p l e s m args below meth c C H locs ls hP hS hl)
theorem x_irem {x y : Int32} (hd : decode mi.2.1 pc = .ok (.irem, 1)) (hne : ¬ y = 0) (k : J E mi T (pc + 1) L (.int (x - x / y * y) :: st) σ) : J E mi T pc L (.int y :: .int x :: st) σ := by
  intro p l e s m args below meth c C H locs ls hP hS hl
  obtain ⟨hx, hb, hml, hown, hts, hK, hI, hA, hStr, hX⟩ := id C
  exact lv_irem hx hb hd hne (k p l e s m args below meth c C H locs ls hP hS hl)
theorem x_ineg {x : Int32} (hd : decode mi.2.1 pc = .ok (.ineg, 1)) (k : J E mi T (pc + 1) L (.int (-x) :: st) σ) : J E mi T pc L (.int x :: st) σ := by
  intro p l e s m args below meth c C H locs ls hP hS hl
  obtain ⟨hx, hb, hml, hown, hts, hK, hI, hA, hStr, hX⟩ := id C
  exact lv_ineg hx hb hd (k p l e s m args below meth c C H locs ls hP hS hl)
theorem x_ladd {x y : Int64} (hd : decode mi.2.1 pc = .ok (.ladd, 1)) (k : J E mi T (pc + 1) L (.long (x + y) :: st) σ) : J E mi T pc L (.long y :: .long x :: st) σ := by
  intro p l e s m args below meth c C H locs ls hP hS hl
  obtain ⟨hx, hb, hml, hown, hts, hK, hI, hA, hStr, hX⟩ := id C
  exact lv_ladd hx hb hd (k p l e s m args below meth c C H locs ls hP hS hl)
theorem x_lmul {x y : Int64} (hd : decode mi.2.1 pc = .ok (.lmul, 1)) (k : J E mi T (pc + 1) L (.long (x * y) :: st) σ) : J E mi T pc L (.long y :: .long x :: st) σ := by
  intro p l e s m args below meth c C H locs ls hP hS hl
  obtain ⟨hx, hb, hml, hown, hts, hK, hI, hA, hStr, hX⟩ := id C
  exact lv_lmul hx hb hd (k p l e s m args below meth c C H locs ls hP hS hl)
theorem x_land {x y : Int64} (hd : decode mi.2.1 pc = .ok (.land, 1)) (k : J E mi T (pc + 1) L (.long (x &&& y) :: st) σ) : J E mi T pc L (.long y :: .long x :: st) σ := by
  intro p l e s m args below meth c C H locs ls hP hS hl
  obtain ⟨hx, hb, hml, hown, hts, hK, hI, hA, hStr, hX⟩ := id C
  exact lv_land hx hb hd (k p l e s m args below meth c C H locs ls hP hS hl)
theorem x_lor {x y : Int64} (hd : decode mi.2.1 pc = .ok (.lor, 1)) (k : J E mi T (pc + 1) L (.long (x ||| y) :: st) σ) : J E mi T pc L (.long y :: .long x :: st) σ := by
  intro p l e s m args below meth c C H locs ls hP hS hl
  obtain ⟨hx, hb, hml, hown, hts, hK, hI, hA, hStr, hX⟩ := id C
  exact lv_lor hx hb hd (k p l e s m args below meth c C H locs ls hP hS hl)
theorem x_ldiv {x y : Int64} (hd : decode mi.2.1 pc = .ok (.ldiv, 1)) (hne : ¬ y = 0) (k : J E mi T (pc + 1) L (.long (x / y) :: st) σ) : J E mi T pc L (.long y :: .long x :: st) σ := by
  intro p l e s m args below meth c C H locs ls hP hS hl
  obtain ⟨hx, hb, hml, hown, hts, hK, hI, hA, hStr, hX⟩ := id C
  exact lv_ldiv hx hb hd hne (k p l e s m args below meth c C H locs ls hP hS hl)
theorem x_lrem {x y : Int64} (hd : decode mi.2.1 pc = .ok (.lrem, 1)) (hne : ¬ y = 0) (k : J E mi T (pc + 1) L (.long (x - x / y * y) :: st) σ) : J E mi T pc L (.long y :: .long x :: st) σ := by
  intro p l e s m args below meth c C H locs ls hP hS hl
  obtain ⟨hx, hb, hml, hown, hts, hK, hI, hA, hStr, hX⟩ := id C
  exact lv_lrem hx hb hd hne (k p l e s m args below meth c C H locs ls hP hS hl)
theorem x_lshl {x : Int64} {y : Int32} (hd : decode mi.2.1 pc = .ok (.lshl, 1)) (k : J E mi T (pc + 1) L (.long (x <<< (y.toInt64 &&& 63)) :: st) σ) : J E mi T pc L (.int y :: .long x :: st) σ := by
  intro p l e s m args below meth c C H locs ls hP hS hl
  obtain ⟨hx, hb, hml, hown, hts, hK, hI, hA, hStr, hX⟩ := id C
  exact lv_lshl hx hb hd rfl (k p l e s m args below meth c C H locs ls hP hS hl)
theorem x_lshr {x : Int64} {y : Int32} (hd : decode mi.2.1 pc = .ok (.lshr, 1)) (k : J E mi T (pc + 1) L (.long (x >>> (y.toInt64 &&& 63)) :: st) σ) : J E mi T pc L (.int y :: .long x :: st) σ := by
  intro p l e s m args below meth c C H locs ls hP hS hl
  obtain ⟨hx, hb, hml, hown, hts, hK, hI, hA, hStr, hX⟩ := id C
  exact lv_lshr hx hb hd rfl (k p l e s m args below meth c C H locs ls hP hS hl)
theorem x_lcmp {x y : Int64} (hd : decode mi.2.1 pc = .ok (.lcmp, 1)) (k : J E mi T (pc + 1) L (.int (lg_cmp x y) :: st) σ) : J E mi T pc L (.long y :: .long x :: st) σ := by
  intro p l e s m args below meth c C H locs ls hP hS hl
  obtain ⟨hx, hb, hml, hown, hts, hK, hI, hA, hStr, hX⟩ := id C
  exact W.lcmp hx hb hd (k p l e s m args below meth c C H locs ls hP hS hl)
theorem x_i2l {x : Int32} (hd : decode mi.2.1 pc = .ok (.i2l, 1)) (k : J E mi T (pc + 1) L (.long (x.toInt64) :: st) σ) : J E mi T pc L (.int x :: st) σ := by
  intro p l e s m args below meth c C H locs ls hP hS hl
  obtain ⟨hx, hb, hml, hown, hts, hK, hI, hA, hStr, hX⟩ := id C
  exact lv_i2l hx hb hd rfl (k p l e s m args below meth c C H locs ls hP hS hl)
theorem x_l2i {x : Int64} (hd : decode mi.2.1 pc = .ok (.l2i, 1)) (k : J E mi T (pc + 1) L (.int (x.toInt32) :: st) σ) : J E mi T pc L (.long x :: st) σ := by
  intro p l e s m args below meth c C H locs ls hP hS hl
  obtain ⟨hx, hb, hml, hown, hts, hK, hI, hA, hStr, hX⟩ := id C
  exact lv_l2i hx hb hd rfl (k p l e s m args below meth c C H locs ls hP hS hl)
theorem x_i2b {x : Int32} (hd : decode mi.2.1 pc = .ok (.i2b, 1)) (k : J E mi T (pc + 1) L (.int (x.toInt8.toInt32) :: st) σ) : J E mi T pc L (.int x :: st) σ := by
  intro p l e s m args below meth c C H locs ls hP hS hl
  obtain ⟨hx, hb, hml, hown, hts, hK, hI, hA, hStr, hX⟩ := id C
  exact lv_i2b hx hb hd rfl (k p l e s m args below meth c C H locs ls hP hS hl)
theorem x_i2c {x : Int32} (hd : decode mi.2.1 pc = .ok (.i2c, 1)) (k : J E mi T (pc + 1) L (.int ((x.toUInt32 % 65536).toInt32) :: st) σ) : J E mi T pc L (.int x :: st) σ := by
  intro p l e s m args below meth c C H locs ls hP hS hl
  obtain ⟨hx, hb, hml, hown, hts, hK, hI, hA, hStr, hX⟩ := id C
  exact lv_i2c hx hb hd rfl (k p l e s m args below meth c C H locs ls hP hS hl)
theorem x_if_eq {x : Int32} {off : Int} {tgt : Nat} (hd : decode mi.2.1 pc = .ok (.ifCond .eq off, 3)) (ht : (pc : Int) + off = (tgt : Int)) (kt : x = 0 → J E mi T tgt L st σ) (kf : ¬ x = 0 → J E mi T (pc + 3) L st σ) : J E mi T pc L (.int x :: st) σ := by
  intro p l e s m args below meth c C H locs ls hP hS hl
  obtain ⟨hx, hb, hml, hown, hts, hK, hI, hA, hStr, hX⟩ := id C
  exact lv_if_eq hx hb hd ht (fun h => kt h p l e s m args below meth c C H locs ls hP hS hl) (fun h => kf h p l e s m args below meth c C H locs ls hP hS hl)
theorem x_if_ne {x : Int32} {off : Int} {tgt : Nat} (hd : decode mi.2.1 pc = .ok (.ifCond .ne off, 3)) (ht : (pc : Int) + off = (tgt : Int)) (kt : ¬ x = 0 → J E mi T tgt L st σ) (kf : x = 0 → J E mi T (pc + 3) L st σ) : J E mi T pc L (.int x :: st) σ := by
  intro p l e s m args below meth c C H locs ls hP hS hl
  obtain ⟨hx, hb, hml, hown, hts, hK, hI, hA, hStr, hX⟩ := id C
  exact lv_if_ne hx hb hd ht (fun h => kt h p l e s m args below meth c C H locs ls hP hS hl) (fun h => kf h p l e s m args below meth c C H locs ls hP hS hl)
theorem x_if_lt {x : Int32} {off : Int} {tgt : Nat} (hd : decode mi.2.1 pc = .ok (.ifCond .lt off, 3)) (ht : (pc : Int) + off = (tgt : Int)) (kt : x < 0 → J E mi T tgt L st σ) (kf : ¬ x < 0 → J E mi T (pc + 3) L st σ) : J E mi T pc L (.int x :: st) σ := by
  intro p l e s m args below meth c C H locs ls hP hS hl
  obtain ⟨hx, hb, hml, hown, hts, hK, hI, hA, hStr, hX⟩ := id C
  exact lv_if_lt hx hb hd ht (fun h => kt h p l e s m args below meth c C H locs ls hP hS hl) (fun h => kf h p l e s m args below meth c C H locs ls hP hS hl)
theorem x_if_ge {x : Int32} {off : Int} {tgt : Nat} (hd : decode mi.2.1 pc = .ok (.ifCond .ge off, 3)) (ht : (pc : Int) + off = (tgt : Int)) (kt : 0 ≤ x → J E mi T tgt L st σ) (kf : ¬ 0 ≤ x → J E mi T (pc + 3) L st σ) : J E mi T pc L (.int x :: st) σ := by
  intro p l e s m args below meth c C H locs ls hP hS hl
  obtain ⟨hx, hb, hml, hown, hts, hK, hI, hA, hStr, hX⟩ := id C
  exact lv_if_ge hx hb hd ht (fun h => kt h p l e s m args below meth c C H locs ls hP hS hl) (fun h => kf h p l e s m args below meth c C H locs ls hP hS hl)
theorem x_if_gt {x : Int32} {off : Int} {tgt : Nat} (hd : decode mi.2.1 pc = .ok (.ifCond .gt off, 3)) (ht : (pc : Int) + off = (tgt : Int)) (kt : 0 < x → J E mi T tgt L st σ) (kf : ¬ 0 < x → J E mi T (pc + 3) L st σ) : J E mi T pc L (.int x :: st) σ := by
  intro p l e s m args below meth c C H locs ls hP hS hl
  obtain ⟨hx, hb, hml, hown, hts, hK, hI, hA, hStr, hX⟩ := id C
  exact lv_if_gt hx hb hd ht (fun h => kt h p l e s m args below meth c C H locs ls hP hS hl) (fun h => kf h p l e s m args below meth c C H locs ls hP hS hl)
theorem x_if_le {x : Int32} {off : Int} {tgt : Nat} (hd : decode mi.2.1 pc = .ok (.ifCond .le off, 3)) (ht : (pc : Int) + off = (tgt : Int)) (kt : x ≤ 0 → J E mi T tgt L st σ) (kf : ¬ x ≤ 0 → J E mi T (pc + 3) L st σ) : J E mi T pc L (.int x :: st) σ := by
  intro p l e s m args below meth c C H locs ls hP hS hl
  obtain ⟨hx, hb, hml, hown, hts, hK, hI, hA, hStr, hX⟩ := id C
  exact lv_if_le hx hb hd ht (fun h => kt h p l e s m args below meth c C H locs ls hP hS hl) (fun h => kf h p l e s m args below meth c C H locs ls hP hS hl)
theorem x_icmp_eq {x y : Int32} {off : Int} {tgt : Nat} (hd : decode mi.2.1 pc = .ok (.if_icmp .eq off, 3)) (ht : (pc : Int) + off = (tgt : Int)) (kt : x = y → J E mi T tgt L st σ) (kf : ¬ x = y → J E mi T (pc + 3) L st σ) : J E mi T pc L (.int y :: .int x :: st) σ := by
  intro p l e s m args below meth c C H locs ls hP hS hl
  obtain ⟨hx, hb, hml, hown, hts, hK, hI, hA, hStr, hX⟩ := id C
  exact lv_icmp_eq hx hb hd ht (fun h => kt h p l e s m args below meth c C H locs ls hP hS hl) (fun h => kf h p l e s m args below meth c C H locs ls hP hS hl)
theorem x_icmp_ne {x y : Int32} {off : Int} {tgt : Nat} (hd : decode mi.2.1 pc = .ok (.if_icmp .ne off, 3)) (ht : (pc : Int) + off = (tgt : Int)) (kt : ¬ x = y → J E mi T tgt L st σ) (kf : x = y → J E mi T (pc + 3) L st σ) : J E mi T pc L (.int y :: .int x :: st) σ := by
  intro p l e s m args below meth c C H locs ls hP hS hl
  obtain ⟨hx, hb, hml, hown, hts, hK, hI, hA, hStr, hX⟩ := id C
  exact lv_icmp_ne hx hb hd ht (fun h => kt h p l e s m args below meth c C H locs ls hP hS hl) (fun h => kf h p l e s m args below meth c C H locs ls hP hS hl)
theorem x_icmp_lt {x y : Int32} {off : Int} {tgt : Nat} (hd : decode mi.2.1 pc = .ok (.if_icmp .lt off, 3)) (ht : (pc : Int) + off = (tgt : Int)) (kt : x < y → J E mi T tgt L st σ) (kf : ¬ x < y → J E mi T (pc + 3) L st σ) : J E mi T pc L (.int y :: .int x :: st) σ := by
  intro p l e s m args below meth c C H locs ls hP hS hl
  obtain ⟨hx, hb, hml, hown, hts, hK, hI, hA, hStr, hX⟩ := id C
  exact lv_icmp_lt hx hb hd ht (fun h => kt h p l e s m args below meth c C H locs ls hP hS hl) (fun h => kf h p l e s m args below meth c C H locs ls hP hS hl)
theorem x_icmp_ge {x y : Int32} {off : Int} {tgt : Nat} (hd : decode mi.2.1 pc = .ok (.if_icmp .ge off, 3)) (ht : (pc : Int) + off = (tgt : Int)) (kt : y ≤ x → J E mi T tgt L st σ) (kf : ¬ y ≤ x → J E mi T (pc + 3) L st σ) : J E mi T pc L (.int y :: .int x :: st) σ := by
  intro p l e s m args below meth c C H locs ls hP hS hl
  obtain ⟨hx, hb, hml, hown, hts, hK, hI, hA, hStr, hX⟩ := id C
  exact lv_icmp_ge hx hb hd ht (fun h => kt h p l e s m args below meth c C H locs ls hP hS hl) (fun h => kf h p l e s m args below meth c C H locs ls hP hS hl)
theorem x_icmp_gt {x y : Int32} {off : Int} {tgt : Nat} (hd : decode mi.2.1 pc = .ok (.if_icmp .gt off, 3)) (ht : (pc : Int) + off = (tgt : Int)) (kt : y < x → J E mi T tgt L st σ) (kf : ¬ y < x → J E mi T (pc + 3) L st σ) : J E mi T pc L (.int y :: .int x :: st) σ := by
  intro p l e s m args below meth c C H locs ls hP hS hl
  obtain ⟨hx, hb, hml, hown, hts, hK, hI, hA, hStr, hX⟩ := id C
  exact lv_icmp_gt hx hb hd ht (fun h => kt h p l e s m args below meth c C H locs ls hP hS hl) (fun h => kf h p l e s m args below meth c C H locs ls hP hS hl)
theorem x_icmp_le {x y : Int32} {off : Int} {tgt : Nat} (hd : decode mi.2.1 pc = .ok (.if_icmp .le off, 3)) (ht : (pc : Int) + off = (tgt : Int)) (kt : x ≤ y → J E mi T tgt L st σ) (kf : ¬ x ≤ y → J E mi T (pc + 3) L st σ) : J E mi T pc L (.int y :: .int x :: st) σ := by
  intro p l e s m args below meth c C H locs ls hP hS hl
  obtain ⟨hx, hb, hml, hown, hts, hK, hI, hA, hStr, hX⟩ := id C
  exact lv_icmp_le hx hb hd ht (fun h => kt h p l e s m args below meth c C H locs ls hP hS hl) (fun h => kf h p l e s m args below meth c C H locs ls hP hS hl)
theorem x_goto {off : Int} {tgt : Nat} (hd : decode mi.2.1 pc = .ok (.goto off, 3)) (ht : (pc : Int) + off = (tgt : Int)) (k : J E mi T tgt L st σ) : J E mi T pc L st σ := by
  intro p l e s m args below meth c C H locs ls hP hS hl
  obtain ⟨hx, hb, hml, hown, hts, hK, hI, hA, hStr, hX⟩ := id C
  exact lv_goto hx hb hd ht (k p l e s m args below meth c C H locs ls hP hS hl)
theorem x_tab {dflt lo hi : Int} {offs : Array Int} {len : Nat} {x : Int32} (hd : decode mi.2.1 pc = .ok (.tableswitch dflt lo hi offs, len)) (hsz : offs.size = (hi - lo + 1).toNat) (hnn : 0 ≤ (pc : Int) + dflt ∧ offs.toList.all (fun o => decide (0 ≤ (pc : Int) + o)) = true) (kd : (x.toInt < lo ∨ hi < x.toInt) → ∀ tgt : Nat, (pc : Int) + dflt = (tgt : Int) → J E mi T tgt L st σ) (ki : ∀ (i : Nat) (off : Int) (tgt : Nat), offs[i]? = some off → x.toInt = lo + (i : Int) → (pc : Int) + off = (tgt : Int) → J E mi T tgt L st σ) : J E mi T pc L (.int x :: st) σ := by
  intro p l e s m args below meth c C H locs ls hP hS hl
  obtain ⟨hx, hb, hml, hown, hts, hK, hI, hA, hStr, hX⟩ := id C
  by_cases h1 : x.toInt < lo
  · exact lv_tableOut hx hb hd (Or.inl h1) (tgt := ((pc : Int) + dflt).toNat) (by omega) (kd (Or.inl h1) _ (by omega) p l e s m args below meth c C H locs ls hP hS hl)
  · by_cases h2 : hi < x.toInt
    · exact lv_tableOut hx hb hd (Or.inr h2) (tgt := ((pc : Int) + dflt).toNat) (by omega) (kd (Or.inr h2) _ (by omega) p l e s m args below meth c C H locs ls hP hS hl)
    · have h3 : (x.toInt - lo).toNat < offs.size := by omega
      have h4 : offs[(x.toInt - lo).toNat]? = some offs[(x.toInt - lo).toNat] := Array.getElem?_eq_getElem h3
      have h5 := List.all_eq_true.mp hnn.2 offs[(x.toInt - lo).toNat] (by simp)
      have h6 : 0 ≤ (pc : Int) + offs[(x.toInt - lo).toNat] := by simpa using h5
      exact lv_tableIn hx hb hd h1 h2 h4 (tgt := ((pc : Int) + offs[(x.toInt - lo).toNat]).toNat) (by omega) (ki _ _ _ h4 (by omega) (by omega) p l e s m args below meth c C H locs ls hP hS hl)
theorem x_lookup {dflt : Int} {ps : Array (Int × Int)} {len : Nat} {x : Int32} {tgt : Nat} (hd : decode mi.2.1 pc = .ok (.lookupswitch dflt ps, len)) (hp : (ps.toList.zip (ps.toList.drop 1)).all (fun (a, next) => a.1 < next.1) = true) (ht : (pc : Int) + Op.lookupswitch.offset ps.toList dflt x.toInt = (tgt : Int)) (k : J E mi T tgt L st σ) : J E mi T pc L (.int x :: st) σ := by
  intro p l e s m args below meth c C H locs ls hP hS hl
  obtain ⟨hx, hb, hml, hown, hts, hK, hI, hA, hStr, hX⟩ := id C
  exact lv_lookup hx hb hd hp rfl ht (k p l e s m args below meth c C H locs ls hP hS hl)
theorem x_dup {v : Value} (hd : decode mi.2.1 pc = .ok (.dup, 1)) (hv : v.category = 1) (k : J E mi T (pc + 1) L (v :: v :: st) σ) : J E mi T pc L (v :: st) σ := by
  intro p l e s m args below meth c C H locs ls hP hS hl
  obtain ⟨hx, hb, hml, hown, hts, hK, hI, hA, hStr, hX⟩ := id C
  exact lv_dup hx hb hd (by rw [cv_cat]; exact hv) (k p l e s m args below meth c C H locs ls hP hS hl)
theorem x_pop {v : Value} (hd : decode mi.2.1 pc = .ok (.pop, 1)) (hv : v.category = 1) (k : J E mi T (pc + 1) L st σ) : J E mi T pc L (v :: st) σ := by
  intro p l e s m args below meth c C H locs ls hP hS hl
  obtain ⟨hx, hb, hml, hown, hts, hK, hI, hA, hStr, hX⟩ := id C
  exact lv_pop hx hb hd (by rw [cv_cat]; exact hv) (k p l e s m args below meth c C H locs ls hP hS hl)
theorem x_dup2 {v w : Value} (hd : decode mi.2.1 pc = .ok (.dup2, 1)) (hv : v.category = 1) (hw : w.category = 1) (k : J E mi T (pc + 1) L (v :: w :: v :: w :: st) σ) : J E mi T pc L (v :: w :: st) σ := by
  intro p l e s m args below meth c C H locs ls hP hS hl
  obtain ⟨hx, hb, hml, hown, hts, hK, hI, hA, hStr, hX⟩ := id C
  exact lv_dup2_11 hx hb hd (by rw [cv_cat]; exact hv) (by rw [cv_cat]; exact hw) (k p l e s m args below meth c C H locs ls hP hS hl)
theorem x_iaload {i n : Nat} {j v : Int32} (hi : layT[i]? = some (.inr (0, n))) (hin : vp_in j n) (hv : gm σ i j.toNatClampNeg = v) (hd : decode mi.2.1 pc = .ok (.iaload, 1)) (k : J E mi T (pc + 1) L (.int v :: st) σ) : J E mi T pc L (.int j :: .ref i :: st) σ := by
  intro p l e s m args below meth c C H locs ls hP hS hl
  obtain ⟨hx, hb, hml, hown, hts, hK, hI, hA, hStr, hX⟩ := id C
  subst hv
  exact va_iald hx hb hK hP i 0 (world_at hi) rfl hin hd (k p l e s m args below meth c C H locs ls hP hS hl)
theorem x_baload {i n : Nat} {j v : Int32} (hi : layT[i]? = some (.inr (1, n))) (hin : vp_in j n) (hv : gm σ i j.toNatClampNeg = v) (hd : decode mi.2.1 pc = .ok (.baload, 1)) (k : J E mi T (pc + 1) L (.int v :: st) σ) : J E mi T pc L (.int j :: .ref i :: st) σ := by
  intro p l e s m args below meth c C H locs ls hP hS hl
  obtain ⟨hx, hb, hml, hown, hts, hK, hI, hA, hStr, hX⟩ := id C
  subst hv
  exact va_bald hx hb hK hP i 1 (world_at hi) rfl hin hd (k p l e s m args below meth c C H locs ls hP hS hl)
theorem x_zaload {i n : Nat} {j v : Int32} (hi : layT[i]? = some (.inr (2, n))) (hin : vp_in j n) (hv : gm σ i j.toNatClampNeg = v) (hd : decode mi.2.1 pc = .ok (.baload, 1)) (k : J E mi T (pc + 1) L (.int v :: st) σ) : J E mi T pc L (.int j :: .ref i :: st) σ := by
  intro p l e s m args below meth c C H locs ls hP hS hl
  obtain ⟨hx, hb, hml, hown, hts, hK, hI, hA, hStr, hX⟩ := id C
  subst hv
  exact va_zald hx hb hK hP i 2 (world_at hi) rfl hin hd (k p l e s m args below meth c C H locs ls hP hS hl)
theorem x_iastore {i n : Nat} {j x : Int32} (hi : layT[i]? = some (.inr (0, n))) (hin : vp_in j n) (hd : decode mi.2.1 pc = .ok (.iastore, 1)) (k : J E mi T (pc + 1) L st (sm σ i j.toNatClampNeg x)) : J E mi T pc L (.int x :: .int j :: .ref i :: st) σ := by
  intro p l e s m args below meth c C H locs ls hP hS hl
  obtain ⟨hx, hb, hml, hown, hts, hK, hI, hA, hStr, hX⟩ := id C
  refine va_iast hx hb hK hP (world_D hI hA) hS i 0 (world_at hi) rfl hin hd (fun H1 locs1 hP1 _ hS1 => ?_)
  rw [world_sa hi] at hP1
  exact k p l e s m args below meth c C H1 locs1 ls hP1 hS1 hl
theorem x_bastore {i n : Nat} {j x : Int32} (hi : layT[i]? = some (.inr (1, n))) (hin : vp_in j n) (hd : decode mi.2.1 pc = .ok (.bastore, 1)) (k : J E mi T (pc + 1) L st (sm σ i j.toNatClampNeg (vp_nar .byte x))) : J E mi T pc L (.int x :: .int j :: .ref i :: st) σ := by
  intro p l e s m args below meth c C H locs ls hP hS hl
  obtain ⟨hx, hb, hml, hown, hts, hK, hI, hA, hStr, hX⟩ := id C
  refine va_bast hx hb hK hP (world_D hI hA) hS i 1 (world_at hi) rfl hin hd (fun H1 locs1 hP1 _ hS1 => ?_)
  rw [world_sa hi] at hP1
  exact k p l e s m args below meth c C H1 locs1 ls hP1 hS1 hl
theorem x_zastore {i n : Nat} {j x : Int32} (hi : layT[i]? = some (.inr (2, n))) (hin : vp_in j n) (hd : decode mi.2.1 pc = .ok (.bastore, 1)) (k : J E mi T (pc + 1) L st (sm σ i j.toNatClampNeg (vp_nar .boolean x))) : J E mi T pc L (.int x :: .int j :: .ref i :: st) σ := by
  intro p l e s m args below meth c C H locs ls hP hS hl
  obtain ⟨hx, hb, hml, hown, hts, hK, hI, hA, hStr, hX⟩ := id C
  refine va_zast hx hb hK hP (world_D hI hA) hS i 2 (world_at hi) rfl hin hd (fun H1 locs1 hP1 _ hS1 => ?_)
  rw [world_sa hi] at hP1
  exact k p l e s m args below meth c C H1 locs1 ls hP1 hS1 hl
/-! fields -/
def FL (own : String) (idx ci k : Nat) : Prop := ∃ (C : String) (T1 : u_T) (N : Nat), vwCl[ci]? = some (C, T1, N) ∧ (∀ w ∈ u_ws C T1 N, w ∈ Big) ∧ k < N ∧ Cond.fieldLink own idx C (T1 k).2.1 (T1 k).2.2.1 ∈ Big ∧ (T1 k).1 = C
def FP (own : String) (idx ci k : Nat) (ty : FieldType) : Prop := ∃ (C : String) (T1 : u_T) (N : Nat) (ty0 : Nat → FieldType), (vwCl[ci]? = some (C, T1, N) ∧ (∀ w ∈ u_ws C T1 N, w ∈ Big) ∧ k < N ∧ Cond.fieldLink own idx C (T1 k).2.1 (T1 k).2.2.1 ∈ Big ∧ (T1 k).1 = C) ∧ (∀ k, k < N → parseFieldDescriptor (T1 k).2.2.1 = some (ty0 k)) ∧ (∀ a, a < N → ∀ b, b < N → a ≠ b → (T1 a).2.1 ≠ (T1 b).2.1) ∧ (T1 k).2.2.2 = false ∧ parseFieldDescriptor (T1 k).2.2.1 = some ty
theorem ent_obj {E : EV} {σ : Sg} {i ci : Nat} {fs : List FD} (h : layT[i]? = some (.inl (ci, fs))) : (world E σ)[i]? = some (E.1 i, .inr (ci, fs.mapIdx (fun k f => cv E.1 (fval σ i k f)))) := world_at h
theorem x_getf {i ci idx k : Nat} {fs : List FD} {fd : FD} {v : Value} (hF : FL mi.1.cls idx ci k) (hi : layT[i]? = some (.inl (ci, fs))) (hf : fs[k]? = some fd) (hv : fval σ i k fd = v) (hd : decode mi.2.1 pc = .ok (.getfield idx, 3)) (kk : J E mi T (pc + 3) L (v :: st) σ) : J E mi T pc L (.ref i :: st) σ := by
  intro p l e s m args below meth c C H locs ls hP hS hl
  obtain ⟨hx, hb, hml, hown, hts, hK, hI, hA, hStr, hX⟩ := id C
  obtain ⟨C1, T1, N, hc, hin, hk, hw, hC⟩ := hF
  subst hv
  exact va_get hx hb hts hin hown hK hP i (ent_obj hi) hc k hk (hts _ hw) (by rw [hC]; exact fun _ h => h) (by rw [List.getElem?_mapIdx, hf]; rfl) hd (kk p l e s m args below meth c C H locs ls hP hS hl)
theorem x_puti {i ci idx k : Nat} {fs : List FD} {v : Int32} (hF : FP mi.1.cls idx ci k .int) (hi : layT[i]? = some (.inl (ci, fs))) (hf : fs[k]? = some (some none)) (hd : decode mi.2.1 pc = .ok (.putfield idx, 3)) (kk : J E mi T (pc + 3) L st (si σ (100 * i + k) v)) : J E mi T pc L (.int v :: .ref i :: st) σ := by
  intro p l e s m args below meth c C H locs ls hP hS hl
  obtain ⟨hx, hb, hml, hown, hts, hK, hI, hA, hStr, hX⟩ := id C
  obtain ⟨C1, T1, N, ty0, ⟨hc, hin, hk, hw, hC⟩, hty, hnm, hfin, hpd⟩ := hF
  refine va_put hx hb hts hin ty0 hty hnm hown hK hP (world_D hI hA) hS i (ent_obj hi) hc k hk (hts _ hw) (by rw [hC]; exact fun _ h => h) hfin hpd (v := .int v) rfl rfl (by rw [List.length_mapIdx]; exact (List.getElem?_eq_some_iff.mp hf).1) hd (fun H1 locs1 hP1 _ hS1 => ?_)
  rw [world_si hi hf] at hP1
  exact kk p l e s m args below meth c C H1 locs1 ls hP1 hS1 hl
theorem x_putz {i ci idx k : Nat} {fs : List FD} {v : Int32} (hF : FP mi.1.cls idx ci k .boolean) (hz : v = 0 ∨ v = 1) (hi : layT[i]? = some (.inl (ci, fs))) (hf : fs[k]? = some (some none)) (hd : decode mi.2.1 pc = .ok (.putfield idx, 3)) (kk : J E mi T (pc + 3) L st (si σ (100 * i + k) v)) : J E mi T pc L (.int v :: .ref i :: st) σ := by
  intro p l e s m args below meth c C H locs ls hP hS hl
  obtain ⟨hx, hb, hml, hown, hts, hK, hI, hA, hStr, hX⟩ := id C
  obtain ⟨C1, T1, N, ty0, ⟨hc, hin, hk, hw, hC⟩, hty, hnm, hfin, hpd⟩ := hF
  refine va_put hx hb hts hin ty0 hty hnm hown hK hP (world_D hI hA) hS i (ent_obj hi) hc k hk (hts _ hw) (by rw [hC]; exact fun _ h => h) hfin hpd (v := .int v) (by rcases hz with rfl | rfl <;> decide) (by rcases hz with rfl | rfl <;> decide) (by rw [List.length_mapIdx]; exact (List.getElem?_eq_some_iff.mp hf).1) hd (fun H1 locs1 hP1 _ hS1 => ?_)
  rw [world_si hi hf] at hP1
  exact kk p l e s m args below meth c C H1 locs1 ls hP1 hS1 hl
theorem x_putl {i ci idx k : Nat} {fs : List FD} {v : Int64} (hF : FP mi.1.cls idx ci k .long) (hi : layT[i]? = some (.inl (ci, fs))) (hf : fs[k]? = some none) (hd : decode mi.2.1 pc = .ok (.putfield idx, 3)) (kk : J E mi T (pc + 3) L st (sl σ (100 * i + k) v)) : J E mi T pc L (.long v :: .ref i :: st) σ := by
  intro p l e s m args below meth c C H locs ls hP hS hl
  obtain ⟨hx, hb, hml, hown, hts, hK, hI, hA, hStr, hX⟩ := id C
  obtain ⟨C1, T1, N, ty0, ⟨hc, hin, hk, hw, hC⟩, hty, hnm, hfin, hpd⟩ := hF
  refine va_put hx hb hts hin ty0 hty hnm hown hK hP (world_D hI hA) hS i (ent_obj hi) hc k hk (hts _ hw) (by rw [hC]; exact fun _ h => h) hfin hpd (v := .long v) rfl rfl (by rw [List.length_mapIdx]; exact (List.getElem?_eq_some_iff.mp hf).1) hd (fun H1 locs1 hP1 _ hS1 => ?_)
  rw [world_sl hi hf] at hP1
  exact kk p l e s m args below meth c C H1 locs1 ls hP1 hS1 hl
/-! contracts of methods, calls -/
def rmOf (r : Nat) : Room := { frames := r, cells := 0, slots := 0, locals := 64 * r }
def postQ (E : EV) (Qf : Sg → Option Value → Prop) : Array Value → State → Outcome → State → Prop := fun _ st oc t => (∃ (σ' : Sg) (v : Option Value), oc = .returned (v.map (cv E.1)) ∧ Qf σ' v ∧ va_P E.2.1 vwCl (world E σ') t.heap) ∧ va_F (AA E) st t
def preP (E : EV) (args : List Value) (σ : Sg) : Array Value → State → Prop := va_Pc (args.map (cv E.1)) (fun U => va_P E.2.1 vwCl (world E σ) U.heap ∧ va_K E.2.1 vwCl (tys3 E) U ∧ Str E (AA E) U U.heap)
def MetK (E : EV) (mi : MI) (args : List Value) (σ : Sg) (Qf : Sg → Option Value → Prop) : Prop :=
  Inj E → ∀ l : Launch, Met l mi.1 (Cond.code mi.1 mi.2.1 mi.2.2.1 mi.2.2.2.1 :: Big) (rmOf mi.2.2.2.2) (preP E args σ) (postQ E Qf) 0 0 (AA E)
def tgM (E : EV) (mi : MI) (Qf : Sg → Option Value → Prop) : Tgt := (rmOf mi.2.2.2.2, 0, 0, fun _ => AA E, fun below args s => MQ below (postQ E Qf) args s 0 0 (AA E), fun meth _ _ => meth.sig.returnType = mi.2.2.2.1 ∧ meth.locks = false)
theorem met_of {args : List Value} {Qf : Sg → Option Value → Prop} (hp : plainName mi.1.cls = true) (hL : l0 args mi.2.2.1 = L) (hlen : (lg_sl (args.map (cv E.1))).length ≤ mi.2.2.1) (h : J E mi (tgM E mi Qf) 0 L [] σ) : MetK E mi args σ Qf := by
  intro hI l
  refine Met.ofW (cc := mi.2.1) (maxL := mi.2.2.1) (ret := mi.2.2.2.1) hp rfl ?_
  intro p e s m a below meth c s₁ B hml hv
  obtain ⟨rfl, hP, hK, hStr⟩ := hv
  have hts := atoms_spec B.pre
  subst hL
  have hl := lv_entry (args.map (cv E.1)) hlen
  rw [lg_entry_eq]
  exact h p l e s m _ below meth c ⟨B.exec, B.bytes, hml, findClass_of_methodNamed B.named, fun w hw => hts w (List.mem_cons_of_mem _ hw), hK, hI, fun _ h => h, hStr, B.returns, B.notSynchronized⟩ s.heap [] _ hP va_S.rf (lvP_of hl (fun i v hi => by have := l0_at (ad := E.1) args mi.2.2.1 0 i v hi; rw [Nat.zero_add] at this; exact this))
theorem MetK.mono {args : List Value} {Q1 Q2 : Sg → Option Value → Prop} (hq : ∀ τ v, Q1 τ v → Q2 τ v) (h : MetK E mi args σ Q1) : MetK E mi args σ Q2 := by
  intro hI l
  have h1 := h hI l
  intro p e a1 a2 a3 s m args' below a4 a5 a6 a7
  obtain ⟨t, o, b1, b2, b3, ⟨⟨⟨σ', v, c1, c2, c3⟩, c4⟩, c5⟩⟩ := h1 p e a1 a2 a3 s m args' below a4 a5 a6 a7
  exact ⟨t, o, b1, b2, b3, ⟨⟨σ', v, c1, hq _ _ c2, c3⟩, c4⟩, c5⟩
def okT (T : Tgt) (mi1 : MI) : Prop := (mi1.2.2.2.2 + 1 ≤ T.1.frames ∧ 8 + (mi1.2.2.1 + 11) + 64 * mi1.2.2.2.2 ≤ T.1.locals) ∧ T.2.1 ≤ T.1.cells ∧ T.2.2.1 ≤ T.1.slots
theorem okM {E : EV} {mi mi1 : MI} {Qf : Sg → Option Value → Prop} (h : mi1.2.2.2.2 < mi.2.2.2.2 ∧ mi1.2.2.1 ≤ 45) : okT (tgM E mi Qf) mi1 := by
  refine ⟨⟨?_, ?_⟩, Nat.le_refl _, Nat.le_refl _⟩
  · show mi1.2.2.2.2 + 1 ≤ mi.2.2.2.2
    omega
  · show 8 + (mi1.2.2.1 + 11) + 64 * mi1.2.2.2.2 ≤ 64 * mi.2.2.2.2
    omega
def okV (mi1 : MI) (n : Nat) : Prop := Cond.instanceMethod mi1.1 ∈ Big ∧ Cond.selects mi1.1.cls mi1.1 mi1.1 ∈ Big ∧ Cond.initialized mi1.1.cls ∈ Big ∧ Cond.code mi1.1 mi1.2.1 mi1.2.2.1 mi1.2.2.2.1 ∈ Big ∧ (mi1.1.cls ≠ "java/lang/invoke/MethodHandle" ∧ mi1.1.cls ≠ "java/lang/invoke/VarHandle" ∧ (parseMethodDescriptor mi1.1.desc).map (fun d => d.parameters.length) = some n)
def okS (mi1 : MI) (n : Nat) : Prop := Cond.static mi1.1 ∈ Big ∧ Cond.initialized mi1.1.cls ∈ Big ∧ Cond.code mi1.1 mi1.2.1 mi1.2.2.1 mi1.2.2.2.1 ∈ Big ∧ (mi1.1.cls ≠ "java/lang/invoke/MethodHandle" ∧ mi1.1.cls ≠ "java/lang/invoke/VarHandle" ∧ (parseMethodDescriptor mi1.1.desc).map (fun d => d.parameters.length) = some n)
theorem preP_blind {args : List Value} : FrameBlind (preP E args σ) := fun a U g mk q => by
  obtain ⟨q0, qP, qK, qS⟩ := q
  exact ⟨q0, qP, va_K.moved (u := U) (U := U.calling g mk a) (Vm.Alike.refl U.vm) qK, qS.calling⟩
/-- behind a call -/
theorem x_after {Qf : Sg → Option Value → Prop} {st0 : List Value} {a : Array Value} {p : Program} {l : Launch} {e : Env} {s : State} {m : MethodId} {args : Array Value} {below : List Frame} {meth : Method} {c : Code} {H : Heap} {locs : List Loc} {ls : Array Slot}
    (hr : va_Run p l e T.1 s m args below meth c H locs T.2.1 T.2.2.1 0 0 (F0 m pc ls (st0.map (cv E.1))) (st.map (cv E.1)) (postQ E Qf a) (AA E)) (C : Cx E mi T p s m args meth c) (hS : va_S (T.2.2.2.1 s) s.heap H locs) (hl : lvP E.1 ls mi.2.2.1 L)
    (kk : ∀ (τ : Sg) (v : Option Value), Qf τ v → J E mi T (pc + 3) L (v.toList ++ st) τ) : W p l e T.1 s m args below meth c H locs T.2.1 T.2.2.1 (T.2.2.2.2.1 below args s) (F0 m pc ls (st0.map (cv E.1))) := by
  intro T0 hT X
  obtain ⟨v, st₀, t, T', L1, h0, X', hL, e1, e2, ⟨⟨τ, v', hv, hq, hP⟩, hz, hk⟩, stp⟩ := hr T0 hT X
  cases hv
  rw [h0] at hz hk
  obtain ⟨hx, hb, hml, hown, hts, hK, hI, hA, hStr, hX⟩ := id C
  have k2 := kk τ v' hq p l e s m args below meth c C T'.heap (locs ++ L1) ls (by rw [e1]; exact hP)
    ⟨Nat.le_trans hS.1 (by rw [e1]; exact hz), fun q h1 h2 => by rw [e1, hk q (Nat.lt_of_lt_of_le h1 hS.1) (fun z => h2 (hA q z))]; exact hS.2.1 q h1 h2, fun q hq => by
      rcases List.mem_append.mp hq with h | h
      · exact hS.2.2 q h
      · exact hA _ (hL q h)⟩ hl
  obtain ⟨t2, a1, b1⟩ := k2 T' rfl X'
  refine ⟨t2, stp t2 ?_, b1⟩
  have e3 : (v'.map (cv E.1)).toList ++ st.map (cv E.1) = (v'.toList ++ st).map (cv E.1) := by cases v' <;> rfl
  rw [e3]
  exact a1
theorem x_callV {mi1 : MI} {n idx b ci : Nat} {fs : List FD} {q : vw_C} {As st0 : List Value} {Qf : Sg → Option Value → Prop} (hok : okV mi1 n) (hlw : Cond.methodLink mi.1.cls idx mi1.1 ∈ Big) (hT : okT T mi1) (hd : decode mi.2.1 pc = .ok (.invokevirtual idx, 3)) (hst : st0 = As.reverse ++ .ref b :: st) (hn : As.length = n) (hw8 : (st.map fun v => v.category).sum ≤ 8)
    (hi : layT[b]? = some (.inl (ci, fs))) (hc : vwCl[ci]? = some q) (hq : q.1 = mi1.1.cls) (M : MetK E mi1 (.ref b :: As) σ Qf) (kk : ∀ (τ : Sg) (v : Option Value), Qf τ v → J E mi T (pc + 3) L (v.toList ++ st) τ) : J E mi T pc L st0 σ := by
  intro p l e s m args below meth c C H locs ls hP hS hl
  obtain ⟨hx, hb, hml, hown, hts, hK, hI, hA, hStr, hX⟩ := id C
  obtain ⟨o1, o2, o3, o4, o5⟩ := hok
  subst hst
  have hG : GoodIn Big (Cond.code mi1.1 mi1.2.1 mi1.2.2.1 mi1.2.2.2.1 :: Big) := fun w hw => by
    rcases List.mem_cons.mp hw with rfl | hw
    · exact Big_good _ o4
    · exact Big_good _ hw
  have hR := va_runV (g := F0 m pc ls ((As.reverse ++ .ref b :: st).map (cv E.1))) (As := As.map (cv E.1)) (b := E.1 b) (rest := st.map (cv E.1)) (C := mi1.1.cls) ⟨hx, hb, hml, hown, hts⟩ (M hI l) ⟨callB_of n hts hG rfl rfl rfl (hts _ o3) (hts _ hlw) o5 hT.1, hts _ o1, hts _ o2⟩
    ⟨preP_blind, by rw [← hq]; exact va_recv hK hP hc (ent_obj hi), fun U hU hW => ⟨rfl, by rw [hU]; exact hP, va_K.moved hW.alike hK, hStr.to hS hA hU hW⟩⟩ rfl (by rw [List.length_map]; exact hn) hl.1 (by rw [List.map_append, List.map_reverse]; rfl) (lv_room (by rw [cv_cats]; exact hw8)) hd hT.2 (H := H) (below := below) (locs := locs) (meth := meth) (e := e)
  exact x_after hR C hS hl kk
theorem x_callS {mi1 : MI} {n idx : Nat} {As st0 : List Value} {Qf : Sg → Option Value → Prop} (hok : okS mi1 n) (hlw : Cond.methodLink mi.1.cls idx mi1.1 ∈ Big) (hT : okT T mi1) (hd : decode mi.2.1 pc = .ok (.invokestatic idx, 3)) (hst : st0 = As.reverse ++ st) (hn : As.length = n) (hw8 : (st.map fun v => v.category).sum ≤ 8)
    (M : MetK E mi1 As σ Qf) (kk : ∀ (τ : Sg) (v : Option Value), Qf τ v → J E mi T (pc + 3) L (v.toList ++ st) τ) : J E mi T pc L st0 σ := by
  intro p l e s m args below meth c C H locs ls hP hS hl
  obtain ⟨hx, hb, hml, hown, hts, hK, hI, hA, hStr, hX⟩ := id C
  obtain ⟨o1, o3, o4, o5⟩ := hok
  subst hst
  have hG : GoodIn Big (Cond.code mi1.1 mi1.2.1 mi1.2.2.1 mi1.2.2.2.1 :: Big) := fun w hw => by
    rcases List.mem_cons.mp hw with rfl | hw
    · exact Big_good _ o4
    · exact Big_good _ hw
  have hR := va_runS (g := F0 m pc ls ((As.reverse ++ st).map (cv E.1))) (As := As.map (cv E.1)) (rest := st.map (cv E.1)) ⟨hx, hb, hml, hown, hts⟩ (M hI l) ⟨callB_of n hts hG rfl rfl rfl (hts _ o3) (hts _ hlw) o5 hT.1, hts _ o1⟩
    ⟨preP_blind, fun U hU hW => ⟨rfl, by rw [hU]; exact hP, va_K.moved hW.alike hK, hStr.to hS hA hU hW⟩⟩ rfl (by rw [List.length_map]; exact hn) hl.1 (by rw [List.map_append, List.map_reverse]) (lv_room (by rw [cv_cats]; exact hw8)) hd hT.2 (H := H) (below := below) (locs := locs) (meth := meth) (e := e)
  exact x_after hR C hS hl kk
/-- a call on one of the six texts -/
theorem x_callT {mi1 : MI} {n idx i : Nat} {As st0 : List Value} {Qf : Sg → Option Value → Prop} (hok : okV mi1 n) (hcl : mi1.1.cls = "java/lang/String") (hlw : Cond.methodLink mi.1.cls idx mi1.1 ∈ Big) (hT : okT T mi1) (hd : decode mi.2.1 pc = .ok (.invokevirtual idx, 3)) (hi6 : i < 6) (hst : st0 = As.reverse ++ .ref (900 + i) :: st) (hn : As.length = n) (hw8 : (st.map fun v => v.category).sum ≤ 8)
    (M : MetK E mi1 (.ref (900 + i) :: As) σ Qf) (kk : ∀ (τ : Sg) (v : Option Value), Qf τ v → J E mi T (pc + 3) L (v.toList ++ st) τ) : J E mi T pc L st0 σ := by
  intro p l e s m args below meth c C H locs ls hP hS hl
  obtain ⟨hx, hb, hml, hown, hts, hK, hI, hA, hStr, hX⟩ := id C
  obtain ⟨o1, o2, o3, o4, o5⟩ := hok
  subst hst
  have hG : GoodIn Big (Cond.code mi1.1 mi1.2.1 mi1.2.2.1 mi1.2.2.2.1 :: Big) := fun w hw => by
    rcases List.mem_cons.mp hw with rfl | hw
    · exact Big_good _ o4
    · exact Big_good _ hw
  have hR := va_runV (g := F0 m pc ls ((As.reverse ++ .ref (900 + i) :: st).map (cv E.1))) (As := As.map (cv E.1)) (b := E.1 (900 + i)) (rest := st.map (cv E.1)) (C := mi1.1.cls) ⟨hx, hb, hml, hown, hts⟩ (M hI l) ⟨callB_of n hts hG rfl rfl rfl (hts _ o3) (hts _ hlw) o5 hT.1, hts _ o1, hts _ o2⟩
    ⟨preP_blind, by rw [hcl]; exact vk_recv (i := i) hStr.1 hi6 hS, fun U hU hW => ⟨rfl, by rw [hU]; exact hP, va_K.moved hW.alike hK, hStr.to hS hA hU hW⟩⟩ rfl (by rw [List.length_map]; exact hn) hl.1 (by rw [List.map_append, List.map_reverse]; rfl) (lv_room (by rw [cv_cats]; exact hw8)) hd hT.2 (H := H) (below := below) (locs := locs) (meth := meth) (e := e)
  exact x_after hR C hS hl kk
/-! what a contract answers -/
def MetI (E : EV) (mi : MI) (args : List Value) (σ : Sg) (Q : Sg → Int32 → Prop) : Prop := MetK E mi args σ (fun τ v => ∃ r : Int32, v = some (.int r) ∧ Q τ r)
def MetL (E : EV) (mi : MI) (args : List Value) (σ : Sg) (Q : Sg → Int64 → Prop) : Prop := MetK E mi args σ (fun τ v => ∃ r : Int64, v = some (.long r) ∧ Q τ r)
def MetV (E : EV) (mi : MI) (args : List Value) (σ : Sg) (Q : Sg → Prop) : Prop := MetK E mi args σ (fun τ v => v = none ∧ Q τ)
theorem MetI.mono {args : List Value} {Q1 Q2 : Sg → Int32 → Prop} (hq : ∀ τ r, Q1 τ r → Q2 τ r) (h : MetI E mi args σ Q1) : MetI E mi args σ Q2 := MetK.mono (fun τ _ ⟨r, h1, h2⟩ => ⟨r, h1, hq τ r h2⟩) h
theorem MetL.mono {args : List Value} {Q1 Q2 : Sg → Int64 → Prop} (hq : ∀ τ r, Q1 τ r → Q2 τ r) (h : MetL E mi args σ Q1) : MetL E mi args σ Q2 := MetK.mono (fun τ _ ⟨r, h1, h2⟩ => ⟨r, h1, hq τ r h2⟩) h
theorem MetV.mono {args : List Value} {Q1 Q2 : Sg → Prop} (hq : ∀ τ, Q1 τ → Q2 τ) (h : MetV E mi args σ Q1) : MetV E mi args σ Q2 := MetK.mono (fun τ _ ⟨h1, h2⟩ => ⟨h1, hq τ h2⟩) h
theorem kI {Q : Sg → Int32 → Prop} (k : ∀ τ r, Q τ r → J E mi T (pc + 3) L (.int r :: st) τ) : ∀ (τ : Sg) (v : Option Value), (∃ r : Int32, v = some (.int r) ∧ Q τ r) → J E mi T (pc + 3) L (v.toList ++ st) τ := fun τ v ⟨r, h1, h2⟩ => by subst h1; exact k τ r h2
theorem kL {Q : Sg → Int64 → Prop} (k : ∀ τ r, Q τ r → J E mi T (pc + 3) L (.long r :: st) τ) : ∀ (τ : Sg) (v : Option Value), (∃ r : Int64, v = some (.long r) ∧ Q τ r) → J E mi T (pc + 3) L (v.toList ++ st) τ := fun τ v ⟨r, h1, h2⟩ => by subst h1; exact k τ r h2
theorem kV {Q : Sg → Prop} (k : ∀ τ, Q τ → J E mi T (pc + 3) L st τ) : ∀ (τ : Sg) (v : Option Value), (v = none ∧ Q τ) → J E mi T (pc + 3) L (v.toList ++ st) τ := fun τ v ⟨h1, h2⟩ => by subst h1; exact k τ h2
/-! ends -/
theorem x_ireturn {Qf : Sg → Option Value → Prop} {v : Int32} (hr : mi.2.2.2.1 = some .int) (hd : decode mi.2.1 pc = .ok (.ireturn, 1)) (h : Qf σ (some (.int v))) : J E mi (tgM E mi Qf) pc L [.int v] σ := by
  intro p l e s m args below meth c C H locs ls hP hS hl
  obtain ⟨hx, hb, hml, hown, hts, hK, hI, hA, hStr, ⟨hX, hlk⟩⟩ := id C
  exact W.zret (ty := .int) hx hb (hX.trans hr) rfl (fun t ht hW => ⟨⟨σ, some (.int v), rfl, h, by rw [ht]; exact hP⟩, hS.F ht⟩) hS.2.2 hd hlk
theorem x_zreturn {Qf : Sg → Option Value → Prop} {v : Int32} (hr : mi.2.2.2.1 = some .boolean) (hz : v = 0 ∨ v = 1) (hd : decode mi.2.1 pc = .ok (.ireturn, 1)) (h : Qf σ (some (.int v))) : J E mi (tgM E mi Qf) pc L [.int v] σ := by
  intro p l e s m args below meth c C H locs ls hP hS hl
  obtain ⟨hx, hb, hml, hown, hts, hK, hI, hA, hStr, ⟨hX, hlk⟩⟩ := id C
  exact W.zret (ty := .boolean) hx hb (hX.trans hr) (by rcases hz with rfl | rfl <;> decide) (fun t ht hW => ⟨⟨σ, some (.int v), rfl, h, by rw [ht]; exact hP⟩, hS.F ht⟩) hS.2.2 hd hlk
theorem x_lreturn {Qf : Sg → Option Value → Prop} {v : Int64} (hr : mi.2.2.2.1 = some .long) (hd : decode mi.2.1 pc = .ok (.lreturn, 1)) (h : Qf σ (some (.long v))) : J E mi (tgM E mi Qf) pc L [.long v] σ := by
  intro p l e s m args below meth c C H locs ls hP hS hl
  obtain ⟨hx, hb, hml, hown, hts, hK, hI, hA, hStr, ⟨hX, hlk⟩⟩ := id C
  exact W.lret hx hb (hX.trans hr) (fun t ht hW => ⟨⟨σ, some (.long v), rfl, h, by rw [ht]; exact hP⟩, hS.F ht⟩) hS.2.2 hd hlk
theorem x_return {Qf : Sg → Option Value → Prop} (hr : mi.2.2.2.1 = none) (hd : decode mi.2.1 pc = .ok (.return_, 1)) (h : Qf σ none) : J E mi (tgM E mi Qf) pc L [] σ := by
  intro p l e s m args below meth c C H locs ls hP hS hl
  obtain ⟨hx, hb, hml, hown, hts, hK, hI, hA, hStr, ⟨hX, hlk⟩⟩ := id C
  exact W.vret hx hb (hX.trans hr) (fun t ht hW => ⟨⟨σ, none, rfl, h, by rw [ht]; exact hP⟩, hS.F ht⟩) hS.2.2 hd hlk
/-- a copy of n ints from one int array to another -/
theorem x_copy {idx i j n0 n1 : Nat} {sp dp n : Int32} (hlw : Cond.methodLink mi.1.cls idx arraycopyName ∈ Big ∧ Cond.native arraycopyName ∈ Big ∧ Cond.static arraycopyName ∈ Big ∧ Cond.initialized "java/lang/System" ∈ Big) (hR : 1 ≤ T.1.frames ∧ nativeFrameWords "java/lang/System" "arraycopy" 5 + 19 ≤ T.1.locals) (hi : layT[i]? = some (.inr (0, n0))) (hj : layT[j]? = some (.inr (0, n1)))
    (h1 : ¬ sp < 0) (h2 : ¬ dp < 0) (h3 : ¬ n < 0) (h4 : sp.toNatClampNeg + n.toNatClampNeg ≤ n0) (h5 : dp.toNatClampNeg + n.toNatClampNeg ≤ n1) (hw8 : (st.map fun v => v.category).sum ≤ 8) (hd : decode mi.2.1 pc = .ok (.invokestatic idx, 3))
    (k : J E mi T (pc + 3) L st (sa σ j (va_cpy (gm σ i) (gm σ j) sp.toNatClampNeg dp.toNatClampNeg n.toNatClampNeg))) : J E mi T pc L (.int n :: .int dp :: .ref j :: .int sp :: .ref i :: st) σ := by
  intro p l e s m args below meth c C H locs ls hP hS hl
  obtain ⟨hx, hb, hml, hown, hts, hK, hI, hA, hStr, hX⟩ := id C
  refine va_copyi hx hb (hml.trans hl.1.symm) hown (hts _ hlw.1) (hts _ hlw.2.1) (hts _ hlw.2.2.1) (hts _ hlw.2.2.2) hK hP (world_D hI hA) hS i j 0 0 (world_at hi) (world_at hj) rfl rfl rfl h1 h2 h3 h4 h5 (fun _ _ => rfl) hR.1 (by rw [cv_cats]; omega) hd (fun H1 locs1 hP1 _ hS1 => ?_)
  rw [world_sa hj] at hP1
  exact k p l e s m args below meth c C H1 locs1 ls hP1 hS1 hl

end RULES
end
section
theorem bgs {ws : List Cond} (is : List Nat) (h : is.filterMap (fun i => lw_tbl[i]?) = ws) (g : ws.all goodWord = true) : ∀ w ∈ ws, w ∈ Big := fun w hw => by
  refine List.mem_filter.mpr ⟨?_, List.all_eq_true.mp g w hw⟩
  rw [← h] at hw
  obtain ⟨i, -, hi⟩ := List.mem_filterMap.mp hw
  exact List.mem_of_getElem? hi
def mi_X5_type : MI := (yX5_type, cX5_type, 5, (some .int), 2)
def mi_X5_clear : MI := (yX5_clear, cX5_clear, 2, (some .int), 1)
def mi_X5_tell : MI := (yX5_tell, cX5_tell, 2, (some .int), 10)
def mi_X5_event : MI := (yX5_event, cX5_event, 3, (some .int), 1)
def mi_X5_comes : MI := (yX5_comes, cX5_comes, 4, (some .int), 3)
def mi_X5_days : MI := (yX5_days, cX5_days, 2, (some .int), 1)
def mi_X5_undo : MI := (yX5_undo, cX5_undo, 1, (some .int), 2)
def mi_X5_origins : MI := (yX5_origins, cX5_origins, 4, (some .int), 6)
def mi_X5_voice : MI := (yX5_voice, cX5_voice, 4, (some .int), 6)
def mi_X5_law : MI := (yX5_law, cX5_law, 4, (some .int), 6)
def mi_X5_place : MI := (yX5_place, cX5_place, 2, (some .int), 6)
def mi_X5_stands : MI := (yX5_stands, cX5_stands, 2, (some .int), 8)
def mi_X5_falls : MI := (yX5_falls, cX5_falls, 2, (some .int), 8)
def mi_X5_alone : MI := (yX5_alone, cX5_alone, 4, (some .int), 7)
def mi_X5_empty : MI := (yX5_empty, cX5_empty, 3, (some .int), 6)
def mi_X5_hints : MI := (yX5_hints, cX5_hints, 3, (some .int), 7)
def mi_X5_hinder : MI := (yX5_hinder, cX5_hinder, 3, (some .int), 7)
def mi_X5_turns : MI := (yX5_turns, cX5_turns, 4, (some .int), 15)
def mi_X5_keepAt : MI := (yX5_keepAt, cX5_keepAt, 7, (some .int), 6)
def mi_X5_chance : MI := (yX5_chance, cX5_chance, 16, (some .long), 6)
def mi_X5_mark : MI := (yX5_mark, cX5_mark, 4, (some .int), 6)
def mi_X5_keep : MI := (yX5_keep, cX5_keep, 2, (some .int), 3)
def mi_X5_back : MI := (yX5_back, cX5_back, 2, (some .int), 3)
def mi_X5_count : MI := (yX5_count, cX5_count, 2, (some .int), 1)
def mi_X5_trace : MI := (yX5_trace, cX5_trace, 1, (some .long), 1)
def mi_X5_isThing : MI := (yX5_isThing, cX5_isThing, 1, (some .boolean), 1)
def mi_X5_isDay : MI := (yX5_isDay, cX5_isDay, 1, (some .boolean), 1)
def mi_X5_isShare : MI := (yX5_isShare, cX5_isShare, 2, (some .boolean), 1)
def mi_X5_tellStory : MI := (yX5_tellStory, cX5_tellStory, 3, none, 5)
def mi_X5_isLawWith : MI := (yX5_isLawWith, cX5_isLawWith, 3, (some .boolean), 6)
def mi_X5_fewestAgainst : MI := (yX5_fewestAgainst, cX5_fewestAgainst, 6, (some .int), 7)
def mi_X5_maybesThatCarry : MI := (yX5_maybesThatCarry, cX5_maybesThatCarry, 4, (some .int), 5)
def mi_X5_tellAhead : MI := (yX5_tellAhead, cX5_tellAhead, 3, none, 5)
def mi_X5_isLawIf : MI := (yX5_isLawIf, cX5_isLawIf, 5, (some .boolean), 5)
def mi_X5_fewestChosen : MI := (yX5_fewestChosen, cX5_fewestChosen, 9, (some .int), 6)
def mi_X5_isLawByTurns (k : Nat) : MI := (yX5_isLawByTurns, cX5_isLawByTurns, 6, (some .boolean), 6 + 2 * k)
def mi_X5_isReachedBy (k : Nat) : MI := (yX5_isReachedBy, cX5_isReachedBy, 8, (some .boolean), 5 + 2 * k)
def mi_X5_thingsHadAt : MI := (yX5_thingsHadAt, cX5_thingsHadAt, 7, (some .int), 5)
def mi_X5_power : MI := (yX5_power, cX5_power, 5, (some .long), 1)
def mi_X5_commonDivisor : MI := (yX5_commonDivisor, cX5_commonDivisor, 11, (some .long), 1)
def mi_X5_markSaying : MI := (yX5_markSaying, cX5_markSaying, 2, (some .int), 2)
def mi_X5_markHeard : MI := (yX5_markHeard, cX5_markHeard, 2, (some .int), 3)
def mi_X5_markOwn : MI := (yX5_markOwn, cX5_markOwn, 2, (some .int), 3)
def mi_X5_markSong : MI := (yX5_markSong, cX5_markSong, 3, (some .int), 4)
def mi_X5_markHum : MI := (yX5_markHum, cX5_markHum, 2, (some .int), 4)
def mi_X5_markWritten : MI := (yX5_markWritten, cX5_markWritten, 2, (some .int), 3)
def mi_X6_in : MI := (yX6_in, cX6_in, 3, (some .boolean), 1)
def mi_X6_type : MI := (yX6_type, cX6_type, 5, (some .int), 2)
def mi_X6_clear : MI := (yX6_clear, cX6_clear, 2, (some .int), 1)
def mi_X6_here : MI := (yX6_here, cX6_here, 1, (some .int), 1)
def mi_X6_meaning : MI := (yX6_meaning, cX6_meaning, 1, (some .int), 1)
def mi_X6_next : MI := (yX6_next, cX6_next, 3, none, 2)
def mi_X6_due : MI := (yX6_due, cX6_due, 3, (some .int), 3)
def mi_X6_number : MI := (yX6_number, cX6_number, 3, (some .int), 4)
def mi_X6_maybesIn : MI := (yX6_maybesIn, cX6_maybesIn, 4, (some .int), 1)
def mi_X6_readItem : MI := (yX6_readItem, cX6_readItem, 4, none, 5)
def mi_X6_copy : MI := (yX6_copy, cX6_copy, 4, none, 1)
def mi_X6_tell : MI := (yX6_tell, cX6_tell, 3, (some .int), 6)
def mi_X6_isOne : MI := (yX6_isOne, cX6_isOne, 2, (some .boolean), 2)
def mi_X6_isThing : MI := (yX6_isThing, cX6_isThing, 1, (some .boolean), 2)
def mi_X6_event : MI := (yX6_event, cX6_event, 3, (some .int), 2)
def mi_X6_comes : MI := (yX6_comes, cX6_comes, 6, (some .int), 3)
def mi_X6_days : MI := (yX6_days, cX6_days, 2, (some .int), 2)
def mi_X6_undo : MI := (yX6_undo, cX6_undo, 1, (some .int), 1)
def mi_X6_plain : MI := (yX6_plain, cX6_plain, 1, none, 1)
def mi_X6_think : MI := (yX6_think, cX6_think, 3, none, 1)
def mi_X6_areApart : MI := (yX6_areApart, cX6_areApart, 8, (some .boolean), 1)
def mi_X6_speak : MI := (yX6_speak, cX6_speak, 7, none, 2)
def mi_X6_act : MI := (yX6_act, cX6_act, 3, none, 3)
def mi_X6_hasAny : MI := (yX6_hasAny, cX6_hasAny, 4, (some .boolean), 1)
def mi_X6_goEvent : MI := (yX6_goEvent, cX6_goEvent, 5, none, 3)
def mi_X6_go : MI := (yX6_go, cX6_go, 6, none, 4)
def mi_X6_goPlain : MI := (yX6_goPlain, cX6_goPlain, 2, none, 5)
def mi_X6_origins : MI := (yX6_origins, cX6_origins, 4, (some .int), 6)
def mi_X6_voice : MI := (yX6_voice, cX6_voice, 4, (some .int), 6)
def mi_X6_law : MI := (yX6_law, cX6_law, 4, (some .int), 6)
def mi_X6_place : MI := (yX6_place, cX6_place, 2, (some .int), 6)
def mi_X6_bitsIn : MI := (yX6_bitsIn, cX6_bitsIn, 3, (some .int), 1)
def mi_X6_isLaw : MI := (yX6_isLaw, cX6_isLaw, 3, (some .boolean), 6)
def mi_X6_fallsBy : MI := (yX6_fallsBy, cX6_fallsBy, 5, (some .int), 7)
def mi_X6_stands : MI := (yX6_stands, cX6_stands, 2, (some .int), 8)
def mi_X6_falls : MI := (yX6_falls, cX6_falls, 2, (some .int), 8)
def mi_X6_alone : MI := (yX6_alone, cX6_alone, 4, (some .int), 7)
def mi_X6_empty : MI := (yX6_empty, cX6_empty, 1, (some .int), 6)
def mi_X6_isLawBy : MI := (yX6_isLawBy, cX6_isLawBy, 6, (some .boolean), 5)
def mi_X6_fewestBy : MI := (yX6_fewestBy, cX6_fewestBy, 8, (some .int), 6)
def mi_X6_hints : MI := (yX6_hints, cX6_hints, 3, (some .int), 7)
def mi_X6_hinder : MI := (yX6_hinder, cX6_hinder, 3, (some .int), 7)
def mi_X6_isLawByTurns : MI := (yX6_isLawByTurns, cX6_isLawByTurns, 7, (some .boolean), 5)
def mi_X6_turns : MI := (yX6_turns, cX6_turns, 11, (some .int), 6)
def mi_X6_keepAt : MI := (yX6_keepAt, cX6_keepAt, 8, (some .int), 5)
def mi_X6_common : MI := (yX6_common, cX6_common, 10, (some .long), 1)
def mi_X6_chance : MI := (yX6_chance, cX6_chance, 15, (some .long), 6)
def mi_X6_mark : MI := (yX6_mark, cX6_mark, 5, (some .int), 6)
def mi_X6_keep : MI := (yX6_keep, cX6_keep, 2, (some .int), 2)
def mi_X6_back : MI := (yX6_back, cX6_back, 2, (some .int), 2)
def mi_X6_count : MI := (yX6_count, cX6_count, 2, (some .int), 2)
def mi_X6_trace : MI := (yX6_trace, cX6_trace, 1, (some .long), 1)
def mi_X0_hasRoomFor : MI := (yX0_hasRoomFor, cX0_hasRoomFor, 2, (some .boolean), 1)
def mi_X0_add : MI := (yX0_add, cX0_add, 4, none, 2)
def mi_X0_dropLast : MI := (yX0_dropLast, cX0_dropLast, 1, none, 1)
def mi_X0_forget : MI := (yX0_forget, cX0_forget, 1, none, 1)
def mi_X0_takeFrom : MI := (yX0_takeFrom, cX0_takeFrom, 2, none, 2)
def mi_X0_firstFrom : MI := (yX0_firstFrom, cX0_firstFrom, 3, (some .int), 1)
def mi_X1_add : MI := (yX1_add, cX1_add, 2, none, 1)
def mi_X1_takeFrom : MI := (yX1_takeFrom, cX1_takeFrom, 2, none, 2)
def mi_X1_knows : MI := (yX1_knows, cX1_knows, 2, (some .boolean), 1)
def mi_X1_allows : MI := (yX1_allows, cX1_allows, 4, (some .boolean), 2)
def mi_X2_readText : MI := (yX2_readText, cX2_readText, 2, (some .int), 9)
def mi_X2_readItem : MI := (yX2_readItem, cX2_readItem, 2, (some .boolean), 8)
def mi_X2_readPerson : MI := (yX2_readPerson, cX2_readPerson, 2, (some .boolean), 5)
def mi_X2_readEvent : MI := (yX2_readEvent, cX2_readEvent, 5, (some .boolean), 5)
def mi_X2_readNumber : MI := (yX2_readNumber, cX2_readNumber, 3, (some .boolean), 4)
def mi_X2_readStop : MI := (yX2_readStop, cX2_readStop, 1, (some .boolean), 4)
def mi_X2_sortOfWord : MI := (yX2_sortOfWord, cX2_sortOfWord, 1, (some .int), 7)
def mi_X2_isWord : MI := (yX2_isWord, cX2_isWord, 3, (some .boolean), 6)
def mi_X2_readToken : MI := (yX2_readToken, cX2_readToken, 2, none, 3)
def mi_X2_readWord : MI := (yX2_readWord, cX2_readWord, 1, none, 2)
def mi_X2_readDigits : MI := (yX2_readDigits, cX2_readDigits, 2, none, 2)
def mi_X2_isLetter : MI := (yX2_isLetter, cX2_isLetter, 1, (some .boolean), 1)
def mi_X2_isDigit : MI := (yX2_isDigit, cX2_isDigit, 1, (some .boolean), 1)
def mi_X3_begin : MI := (yX3_begin, cX3_begin, 4, none, 1)
def mi_X3_takeFrom : MI := (yX3_takeFrom, cX3_takeFrom, 2, none, 2)
def mi_X3_play : MI := (yX3_play, cX3_play, 8, none, 4)
def mi_X3_think : MI := (yX3_think, cX3_think, 2, none, 1)
def mi_X3_say : MI := (yX3_say, cX3_say, 4, none, 3)
def mi_X3_choose : MI := (yX3_choose, cX3_choose, 4, (some .boolean), 2)
def mi_X3_stay : MI := (yX3_stay, cX3_stay, 3, none, 1)
def mi_X3_thoseWithout : MI := (yX3_thoseWithout, cX3_thoseWithout, 3, (some .int), 1)
def mi_X3_leastThree : MI := (yX3_leastThree, cX3_leastThree, 4, (some .int), 2)
def mi_X3_leastThird : MI := (yX3_leastThird, cX3_leastThird, 4, (some .int), 1)
def mi_X4_add : MI := (yX4_add, cX4_add, 2, none, 1)
def mi_X4_byteAt : MI := (yX4_byteAt, cX4_byteAt, 2, (some .int), 1)
def mi_J6_bitCount_0f7a4 : MI := (yJ6_bitCount_0f7a4, cJ6_bitCount_0f7a4, 1, (some .int), 1)
def mi_J9_max_7cf53 : MI := (yJ9_max_7cf53, cJ9_max_7cf53, 2, (some .int), 1)
def mi_J9_min_7cf53 : MI := (yJ9_min_7cf53, cJ9_min_7cf53, 2, (some .int), 1)
def mi_J0_charAt_5068e : MI := (yJ0_charAt_5068e, cJ0_charAt_5068e, 2, (some .char), 5)
def mi_J0_checkIndex_df160 : MI := (yJ0_checkIndex_df160, cJ0_checkIndex_df160, 2, none, 2)
def mi_J0_coder_7d493 : MI := (yJ0_coder_7d493, cJ0_coder_7d493, 1, (some .byte), 1)
def mi_J0_isLatin1_aae02 : MI := (yJ0_isLatin1_aae02, cJ0_isLatin1_aae02, 1, (some .boolean), 1)
def mi_J0_length_8abf5 : MI := (yJ0_length_8abf5, cJ0_length_8abf5, 1, (some .int), 2)
def mi_J1_charAt_3b067 : MI := (yJ1_charAt_3b067, cJ1_charAt_3b067, 2, (some .char), 3)
def mi_J2_charAt_3b067 : MI := (yJ2_charAt_3b067, cJ2_charAt_3b067, 2, (some .char), 4)
def mi_J2_checkIndex_2214a : MI := (yJ2_checkIndex_2214a, cJ2_checkIndex_2214a, 2, none, 3)
def mi_J2_getChar_3b067 : MI := (yJ2_getChar_3b067, cJ2_getChar_3b067, 2, (some .char), 2)
def mi_J2_length_9d52b : MI := (yJ2_length_9d52b, cJ2_length_9d52b, 1, (some .int), 1)
def mi_J3_checkIndex_8e157 : MI := (yJ3_checkIndex_8e157, cJ3_checkIndex_8e157, 3, (some .int), 1)
set_option maxRecDepth 20000 in
theorem fin_X0 : ∀ w ∈ u_ws RX0 TX0 8, w ∈ Big := bgs [136, 138, 140, 142, 144, 146, 148, 150] (by decide +kernel) (by decide +kernel)
set_option maxRecDepth 20000 in
theorem fin_X1 : ∀ w ∈ u_ws RX1 TX1 2, w ∈ Big := bgs [102, 104] (by decide +kernel) (by decide +kernel)
set_option maxRecDepth 20000 in
theorem fin_X2 : ∀ w ∈ u_ws RX2 TX2 7, w ∈ Big := bgs [173, 175, 177, 179, 181, 183, 185] (by decide +kernel) (by decide +kernel)
set_option maxRecDepth 20000 in
theorem fin_X3 : ∀ w ∈ u_ws RX3 TX3 8, w ∈ Big := bgs [207, 209, 211, 213, 215, 217, 219, 221] (by decide +kernel) (by decide +kernel)
set_option maxRecDepth 20000 in
theorem fin_X4 : ∀ w ∈ u_ws RX4 TX4 2, w ∈ Big := bgs [84, 86] (by decide +kernel) (by decide +kernel)
set_option maxRecDepth 20000 in
theorem fin_X5 : ∀ w ∈ u_ws RX5 TX5 11, w ∈ Big := bgs [235, 237, 239, 241, 243, 245, 247, 249, 251, 253, 255] (by decide +kernel) (by decide +kernel)
set_option maxRecDepth 20000 in
theorem fin_X6 : ∀ w ∈ u_ws RX6 TX6 31, w ∈ Big := bgs [697, 699, 701, 703, 705, 707, 709, 711, 713, 715, 717, 719, 721, 723, 725, 727, 729, 731, 733, 735, 737, 739, 741, 743, 745, 747, 749, 751, 753, 755, 757] (by decide +kernel) (by decide +kernel)
theorem fl_X5_12 : FL RX5 12 5 0 := ⟨RX5, TX5, 11, rfl, fin_X5, by decide, bg 224 (by decide +kernel) (by decide +kernel), rfl⟩
theorem fl_X5_19 : FL RX5 19 5 1 := ⟨RX5, TX5, 11, rfl, fin_X5, by decide, bg 225 (by decide +kernel) (by decide +kernel), rfl⟩
theorem fl_X5_26 : FL RX5 26 5 2 := ⟨RX5, TX5, 11, rfl, fin_X5, by decide, bg 226 (by decide +kernel) (by decide +kernel), rfl⟩
theorem fl_X5_35 : FL RX5 35 5 3 := ⟨RX5, TX5, 11, rfl, fin_X5, by decide, bg 227 (by decide +kernel) (by decide +kernel), rfl⟩
theorem fl_X5_39 : FL RX5 39 5 4 := ⟨RX5, TX5, 11, rfl, fin_X5, by decide, bg 228 (by decide +kernel) (by decide +kernel), rfl⟩
theorem fl_X5_42 : FL RX5 42 5 5 := ⟨RX5, TX5, 11, rfl, fin_X5, by decide, bg 229 (by decide +kernel) (by decide +kernel), rfl⟩
theorem fl_X5_45 : FL RX5 45 5 6 := ⟨RX5, TX5, 11, rfl, fin_X5, by decide, bg 230 (by decide +kernel) (by decide +kernel), rfl⟩
theorem fp_X5_45 : FP RX5 45 5 6 .boolean := ⟨RX5, TX5, 11, tyX5, ⟨rfl, fin_X5, by decide, bg 230 (by decide +kernel) (by decide +kernel), rfl⟩, tyX5_ok, nmX5, rfl, by decide +kernel⟩
theorem fl_X5_49 : FL RX5 49 5 7 := ⟨RX5, TX5, 11, rfl, fin_X5, by decide, bg 231 (by decide +kernel) (by decide +kernel), rfl⟩
theorem fp_X5_49 : FP RX5 49 5 7 .boolean := ⟨RX5, TX5, 11, tyX5, ⟨rfl, fin_X5, by decide, bg 231 (by decide +kernel) (by decide +kernel), rfl⟩, tyX5_ok, nmX5, rfl, by decide +kernel⟩
theorem fl_X5_55 : FL RX5 55 5 8 := ⟨RX5, TX5, 11, rfl, fin_X5, by decide, bg 232 (by decide +kernel) (by decide +kernel), rfl⟩
theorem fl_X5_59 : FL RX5 59 5 9 := ⟨RX5, TX5, 11, rfl, fin_X5, by decide, bg 233 (by decide +kernel) (by decide +kernel), rfl⟩
theorem fl_X5_62 : FL RX5 62 5 10 := ⟨RX5, TX5, 11, rfl, fin_X5, by decide, bg 234 (by decide +kernel) (by decide +kernel), rfl⟩
theorem fp_X5_62 : FP RX5 62 5 10 .long := ⟨RX5, TX5, 11, tyX5, ⟨rfl, fin_X5, by decide, bg 234 (by decide +kernel) (by decide +kernel), rfl⟩, tyX5_ok, nmX5, rfl, by decide +kernel⟩
theorem fl_X5_66 : FL RX5 66 4 1 := ⟨RX4, TX4, 2, rfl, fin_X4, by decide, bg 82 (by decide +kernel) (by decide +kernel), rfl⟩
theorem fp_X5_66 : FP RX5 66 4 1 .int := ⟨RX4, TX4, 2, tyX4, ⟨rfl, fin_X4, by decide, bg 82 (by decide +kernel) (by decide +kernel), rfl⟩, tyX4_ok, nmX4, rfl, by decide +kernel⟩
theorem fl_X5_78 : FL RX5 78 2 6 := ⟨RX2, TX2, 7, rfl, fin_X2, by decide, bg 172 (by decide +kernel) (by decide +kernel), rfl⟩
theorem fl_X5_81 : FL RX5 81 2 0 := ⟨RX2, TX2, 7, rfl, fin_X2, by decide, bg 164 (by decide +kernel) (by decide +kernel), rfl⟩
theorem fl_X5_86 : FL RX5 86 2 1 := ⟨RX2, TX2, 7, rfl, fin_X2, by decide, bg 166 (by decide +kernel) (by decide +kernel), rfl⟩
theorem fl_X5_90 : FL RX5 90 0 5 := ⟨RX0, TX0, 8, rfl, fin_X0, by decide, bg 130 (by decide +kernel) (by decide +kernel), rfl⟩
theorem fl_X5_91 : FL RX5 91 0 0 := ⟨RX0, TX0, 8, rfl, fin_X0, by decide, bg 115 (by decide +kernel) (by decide +kernel), rfl⟩
theorem fl_X5_95 : FL RX5 95 0 1 := ⟨RX0, TX0, 8, rfl, fin_X0, by decide, bg 118 (by decide +kernel) (by decide +kernel), rfl⟩
theorem fl_X5_98 : FL RX5 98 0 2 := ⟨RX0, TX0, 8, rfl, fin_X0, by decide, bg 121 (by decide +kernel) (by decide +kernel), rfl⟩
theorem fl_X5_101 : FL RX5 101 0 3 := ⟨RX0, TX0, 8, rfl, fin_X0, by decide, bg 124 (by decide +kernel) (by decide +kernel), rfl⟩
theorem fl_X5_118 : FL RX5 118 0 7 := ⟨RX0, TX0, 8, rfl, fin_X0, by decide, bg 135 (by decide +kernel) (by decide +kernel), rfl⟩
theorem fp_X5_118 : FP RX5 118 0 7 .int := ⟨RX0, TX0, 8, tyX0, ⟨rfl, fin_X0, by decide, bg 135 (by decide +kernel) (by decide +kernel), rfl⟩, tyX0_ok, nmX0, rfl, by decide +kernel⟩
theorem fl_X5_131 : FL RX5 131 3 1 := ⟨RX3, TX3, 8, rfl, fin_X3, by decide, bg 197 (by decide +kernel) (by decide +kernel), rfl⟩
theorem fl_X5_134 : FL RX5 134 3 2 := ⟨RX3, TX3, 8, rfl, fin_X3, by decide, bg 199 (by decide +kernel) (by decide +kernel), rfl⟩
theorem fl_X5_137 : FL RX5 137 3 7 := ⟨RX3, TX3, 8, rfl, fin_X3, by decide, bg 206 (by decide +kernel) (by decide +kernel), rfl⟩
theorem fl_X5_140 : FL RX5 140 3 6 := ⟨RX3, TX3, 8, rfl, fin_X3, by decide, bg 204 (by decide +kernel) (by decide +kernel), rfl⟩
theorem fl_X5_143 : FL RX5 143 3 0 := ⟨RX3, TX3, 8, rfl, fin_X3, by decide, bg 195 (by decide +kernel) (by decide +kernel), rfl⟩
theorem fl_X5_154 : FL RX5 154 0 6 := ⟨RX0, TX0, 8, rfl, fin_X0, by decide, bg 132 (by decide +kernel) (by decide +kernel), rfl⟩
theorem fl_X5_225 : FL RX5 225 1 1 := ⟨RX1, TX1, 2, rfl, fin_X1, by decide, bg 101 (by decide +kernel) (by decide +kernel), rfl⟩
theorem fl_X5_234 : FL RX5 234 0 4 := ⟨RX0, TX0, 8, rfl, fin_X0, by decide, bg 127 (by decide +kernel) (by decide +kernel), rfl⟩
theorem fl_X0_9 : FL RX0 9 0 0 := ⟨RX0, TX0, 8, rfl, fin_X0, by decide, bg 113 (by decide +kernel) (by decide +kernel), rfl⟩
theorem fl_X0_15 : FL RX0 15 0 1 := ⟨RX0, TX0, 8, rfl, fin_X0, by decide, bg 116 (by decide +kernel) (by decide +kernel), rfl⟩
theorem fl_X0_18 : FL RX0 18 0 2 := ⟨RX0, TX0, 8, rfl, fin_X0, by decide, bg 119 (by decide +kernel) (by decide +kernel), rfl⟩
theorem fl_X0_21 : FL RX0 21 0 3 := ⟨RX0, TX0, 8, rfl, fin_X0, by decide, bg 122 (by decide +kernel) (by decide +kernel), rfl⟩
theorem fl_X0_24 : FL RX0 24 0 4 := ⟨RX0, TX0, 8, rfl, fin_X0, by decide, bg 125 (by decide +kernel) (by decide +kernel), rfl⟩
theorem fl_X0_27 : FL RX0 27 0 5 := ⟨RX0, TX0, 8, rfl, fin_X0, by decide, bg 128 (by decide +kernel) (by decide +kernel), rfl⟩
theorem fp_X0_27 : FP RX0 27 0 5 .int := ⟨RX0, TX0, 8, tyX0, ⟨rfl, fin_X0, by decide, bg 128 (by decide +kernel) (by decide +kernel), rfl⟩, tyX0_ok, nmX0, rfl, by decide +kernel⟩
theorem fl_X0_31 : FL RX0 31 0 6 := ⟨RX0, TX0, 8, rfl, fin_X0, by decide, bg 131 (by decide +kernel) (by decide +kernel), rfl⟩
theorem fp_X0_31 : FP RX0 31 0 6 .int := ⟨RX0, TX0, 8, tyX0, ⟨rfl, fin_X0, by decide, bg 131 (by decide +kernel) (by decide +kernel), rfl⟩, tyX0_ok, nmX0, rfl, by decide +kernel⟩
theorem fl_X0_34 : FL RX0 34 0 7 := ⟨RX0, TX0, 8, rfl, fin_X0, by decide, bg 133 (by decide +kernel) (by decide +kernel), rfl⟩
theorem fp_X0_34 : FP RX0 34 0 7 .int := ⟨RX0, TX0, 8, tyX0, ⟨rfl, fin_X0, by decide, bg 133 (by decide +kernel) (by decide +kernel), rfl⟩, tyX0_ok, nmX0, rfl, by decide +kernel⟩
theorem fl_X1_9 : FL RX1 9 1 0 := ⟨RX1, TX1, 2, rfl, fin_X1, by decide, bg 96 (by decide +kernel) (by decide +kernel), rfl⟩
theorem fl_X1_15 : FL RX1 15 1 1 := ⟨RX1, TX1, 2, rfl, fin_X1, by decide, bg 98 (by decide +kernel) (by decide +kernel), rfl⟩
theorem fp_X1_15 : FP RX1 15 1 1 .int := ⟨RX1, TX1, 2, tyX1, ⟨rfl, fin_X1, by decide, bg 98 (by decide +kernel) (by decide +kernel), rfl⟩, tyX1_ok, nmX1, rfl, by decide +kernel⟩
theorem fl_X2_12 : FL RX2 12 2 0 := ⟨RX2, TX2, 7, rfl, fin_X2, by decide, bg 163 (by decide +kernel) (by decide +kernel), rfl⟩
theorem fl_X2_21 : FL RX2 21 2 1 := ⟨RX2, TX2, 7, rfl, fin_X2, by decide, bg 165 (by decide +kernel) (by decide +kernel), rfl⟩
theorem fl_X2_25 : FL RX2 25 2 3 := ⟨RX2, TX2, 7, rfl, fin_X2, by decide, bg 168 (by decide +kernel) (by decide +kernel), rfl⟩
theorem fp_X2_25 : FP RX2 25 2 3 .int := ⟨RX2, TX2, 7, tyX2, ⟨rfl, fin_X2, by decide, bg 168 (by decide +kernel) (by decide +kernel), rfl⟩, tyX2_ok, nmX2, rfl, by decide +kernel⟩
theorem fl_X2_29 : FL RX2 29 2 4 := ⟨RX2, TX2, 7, rfl, fin_X2, by decide, bg 169 (by decide +kernel) (by decide +kernel), rfl⟩
theorem fp_X2_29 : FP RX2 29 2 4 .int := ⟨RX2, TX2, 7, tyX2, ⟨rfl, fin_X2, by decide, bg 169 (by decide +kernel) (by decide +kernel), rfl⟩, tyX2_ok, nmX2, rfl, by decide +kernel⟩
theorem fl_X2_32 : FL RX2 32 2 5 := ⟨RX2, TX2, 7, rfl, fin_X2, by decide, bg 170 (by decide +kernel) (by decide +kernel), rfl⟩
theorem fp_X2_32 : FP RX2 32 2 5 .int := ⟨RX2, TX2, 7, tyX2, ⟨rfl, fin_X2, by decide, bg 170 (by decide +kernel) (by decide +kernel), rfl⟩, tyX2_ok, nmX2, rfl, by decide +kernel⟩
theorem fl_X2_35 : FL RX2 35 2 6 := ⟨RX2, TX2, 7, rfl, fin_X2, by decide, bg 171 (by decide +kernel) (by decide +kernel), rfl⟩
theorem fp_X2_35 : FP RX2 35 2 6 .int := ⟨RX2, TX2, 7, tyX2, ⟨rfl, fin_X2, by decide, bg 171 (by decide +kernel) (by decide +kernel), rfl⟩, tyX2_ok, nmX2, rfl, by decide +kernel⟩
theorem fl_X2_38 : FL RX2 38 2 2 := ⟨RX2, TX2, 7, rfl, fin_X2, by decide, bg 167 (by decide +kernel) (by decide +kernel), rfl⟩
theorem fl_X2_42 : FL RX2 42 1 1 := ⟨RX1, TX1, 2, rfl, fin_X1, by decide, bg 99 (by decide +kernel) (by decide +kernel), rfl⟩
theorem fp_X2_42 : FP RX2 42 1 1 .int := ⟨RX1, TX1, 2, tyX1, ⟨rfl, fin_X1, by decide, bg 99 (by decide +kernel) (by decide +kernel), rfl⟩, tyX1_ok, nmX1, rfl, by decide +kernel⟩
theorem fl_X2_86 : FL RX2 86 0 7 := ⟨RX0, TX0, 8, rfl, fin_X0, by decide, bg 134 (by decide +kernel) (by decide +kernel), rfl⟩
theorem fp_X2_86 : FP RX2 86 0 7 .int := ⟨RX0, TX0, 8, tyX0, ⟨rfl, fin_X0, by decide, bg 134 (by decide +kernel) (by decide +kernel), rfl⟩, tyX0_ok, nmX0, rfl, by decide +kernel⟩
theorem fl_X2_121 : FL RX2 121 4 1 := ⟨RX4, TX4, 2, rfl, fin_X4, by decide, bg 83 (by decide +kernel) (by decide +kernel), rfl⟩
theorem fl_X3_9 : FL RX3 9 3 0 := ⟨RX3, TX3, 8, rfl, fin_X3, by decide, bg 194 (by decide +kernel) (by decide +kernel), rfl⟩
theorem fl_X3_15 : FL RX3 15 3 1 := ⟨RX3, TX3, 8, rfl, fin_X3, by decide, bg 196 (by decide +kernel) (by decide +kernel), rfl⟩
theorem fl_X3_18 : FL RX3 18 3 2 := ⟨RX3, TX3, 8, rfl, fin_X3, by decide, bg 198 (by decide +kernel) (by decide +kernel), rfl⟩
theorem fl_X3_21 : FL RX3 21 3 3 := ⟨RX3, TX3, 8, rfl, fin_X3, by decide, bg 200 (by decide +kernel) (by decide +kernel), rfl⟩
theorem fp_X3_21 : FP RX3 21 3 3 .int := ⟨RX3, TX3, 8, tyX3, ⟨rfl, fin_X3, by decide, bg 200 (by decide +kernel) (by decide +kernel), rfl⟩, tyX3_ok, nmX3, rfl, by decide +kernel⟩
theorem fl_X3_25 : FL RX3 25 3 4 := ⟨RX3, TX3, 8, rfl, fin_X3, by decide, bg 201 (by decide +kernel) (by decide +kernel), rfl⟩
theorem fp_X3_25 : FP RX3 25 3 4 .int := ⟨RX3, TX3, 8, tyX3, ⟨rfl, fin_X3, by decide, bg 201 (by decide +kernel) (by decide +kernel), rfl⟩, tyX3_ok, nmX3, rfl, by decide +kernel⟩
theorem fl_X3_28 : FL RX3 28 3 5 := ⟨RX3, TX3, 8, rfl, fin_X3, by decide, bg 202 (by decide +kernel) (by decide +kernel), rfl⟩
theorem fp_X3_28 : FP RX3 28 3 5 .int := ⟨RX3, TX3, 8, tyX3, ⟨rfl, fin_X3, by decide, bg 202 (by decide +kernel) (by decide +kernel), rfl⟩, tyX3_ok, nmX3, rfl, by decide +kernel⟩
theorem fl_X3_31 : FL RX3 31 3 6 := ⟨RX3, TX3, 8, rfl, fin_X3, by decide, bg 203 (by decide +kernel) (by decide +kernel), rfl⟩
theorem fp_X3_31 : FP RX3 31 3 6 .int := ⟨RX3, TX3, 8, tyX3, ⟨rfl, fin_X3, by decide, bg 203 (by decide +kernel) (by decide +kernel), rfl⟩, tyX3_ok, nmX3, rfl, by decide +kernel⟩
theorem fl_X3_34 : FL RX3 34 3 7 := ⟨RX3, TX3, 8, rfl, fin_X3, by decide, bg 205 (by decide +kernel) (by decide +kernel), rfl⟩
theorem fp_X3_34 : FP RX3 34 3 7 .int := ⟨RX3, TX3, 8, tyX3, ⟨rfl, fin_X3, by decide, bg 205 (by decide +kernel) (by decide +kernel), rfl⟩, tyX3_ok, nmX3, rfl, by decide +kernel⟩
theorem fl_X3_37 : FL RX3 37 1 0 := ⟨RX1, TX1, 2, rfl, fin_X1, by decide, bg 97 (by decide +kernel) (by decide +kernel), rfl⟩
theorem fl_X3_42 : FL RX3 42 1 1 := ⟨RX1, TX1, 2, rfl, fin_X1, by decide, bg 100 (by decide +kernel) (by decide +kernel), rfl⟩
theorem fl_X3_55 : FL RX3 55 0 5 := ⟨RX0, TX0, 8, rfl, fin_X0, by decide, bg 129 (by decide +kernel) (by decide +kernel), rfl⟩
theorem fl_X3_58 : FL RX3 58 0 2 := ⟨RX0, TX0, 8, rfl, fin_X0, by decide, bg 120 (by decide +kernel) (by decide +kernel), rfl⟩
theorem fl_X3_61 : FL RX3 61 0 3 := ⟨RX0, TX0, 8, rfl, fin_X0, by decide, bg 123 (by decide +kernel) (by decide +kernel), rfl⟩
theorem fl_X3_64 : FL RX3 64 0 0 := ⟨RX0, TX0, 8, rfl, fin_X0, by decide, bg 114 (by decide +kernel) (by decide +kernel), rfl⟩
theorem fl_X3_67 : FL RX3 67 0 4 := ⟨RX0, TX0, 8, rfl, fin_X0, by decide, bg 126 (by decide +kernel) (by decide +kernel), rfl⟩
theorem fl_X3_74 : FL RX3 74 0 1 := ⟨RX0, TX0, 8, rfl, fin_X0, by decide, bg 117 (by decide +kernel) (by decide +kernel), rfl⟩
theorem fl_X4_9 : FL RX4 9 4 0 := ⟨RX4, TX4, 2, rfl, fin_X4, by decide, bg 80 (by decide +kernel) (by decide +kernel), rfl⟩
theorem fl_X4_15 : FL RX4 15 4 1 := ⟨RX4, TX4, 2, rfl, fin_X4, by decide, bg 81 (by decide +kernel) (by decide +kernel), rfl⟩
theorem fp_X4_15 : FP RX4 15 4 1 .int := ⟨RX4, TX4, 2, tyX4, ⟨rfl, fin_X4, by decide, bg 81 (by decide +kernel) (by decide +kernel), rfl⟩, tyX4_ok, nmX4, rfl, by decide +kernel⟩
theorem fl_X6_7 : FL RX6 7 6 1 := ⟨RX6, TX6, 31, rfl, fin_X6, by decide, bg 667 (by decide +kernel) (by decide +kernel), rfl⟩
theorem fl_X6_13 : FL RX6 13 6 3 := ⟨RX6, TX6, 31, rfl, fin_X6, by decide, bg 669 (by decide +kernel) (by decide +kernel), rfl⟩
theorem fl_X6_17 : FL RX6 17 6 4 := ⟨RX6, TX6, 31, rfl, fin_X6, by decide, bg 670 (by decide +kernel) (by decide +kernel), rfl⟩
theorem fl_X6_20 : FL RX6 20 6 5 := ⟨RX6, TX6, 31, rfl, fin_X6, by decide, bg 671 (by decide +kernel) (by decide +kernel), rfl⟩
theorem fl_X6_23 : FL RX6 23 6 6 := ⟨RX6, TX6, 31, rfl, fin_X6, by decide, bg 672 (by decide +kernel) (by decide +kernel), rfl⟩
theorem fl_X6_26 : FL RX6 26 6 7 := ⟨RX6, TX6, 31, rfl, fin_X6, by decide, bg 673 (by decide +kernel) (by decide +kernel), rfl⟩
theorem fl_X6_29 : FL RX6 29 6 8 := ⟨RX6, TX6, 31, rfl, fin_X6, by decide, bg 674 (by decide +kernel) (by decide +kernel), rfl⟩
theorem fl_X6_32 : FL RX6 32 6 9 := ⟨RX6, TX6, 31, rfl, fin_X6, by decide, bg 675 (by decide +kernel) (by decide +kernel), rfl⟩
theorem fl_X6_35 : FL RX6 35 6 10 := ⟨RX6, TX6, 31, rfl, fin_X6, by decide, bg 676 (by decide +kernel) (by decide +kernel), rfl⟩
theorem fl_X6_38 : FL RX6 38 6 11 := ⟨RX6, TX6, 31, rfl, fin_X6, by decide, bg 677 (by decide +kernel) (by decide +kernel), rfl⟩
theorem fl_X6_42 : FL RX6 42 6 17 := ⟨RX6, TX6, 31, rfl, fin_X6, by decide, bg 683 (by decide +kernel) (by decide +kernel), rfl⟩
theorem fl_X6_45 : FL RX6 45 6 18 := ⟨RX6, TX6, 31, rfl, fin_X6, by decide, bg 684 (by decide +kernel) (by decide +kernel), rfl⟩
theorem fl_X6_48 : FL RX6 48 6 19 := ⟨RX6, TX6, 31, rfl, fin_X6, by decide, bg 685 (by decide +kernel) (by decide +kernel), rfl⟩
theorem fl_X6_51 : FL RX6 51 6 20 := ⟨RX6, TX6, 31, rfl, fin_X6, by decide, bg 686 (by decide +kernel) (by decide +kernel), rfl⟩
theorem fl_X6_54 : FL RX6 54 6 21 := ⟨RX6, TX6, 31, rfl, fin_X6, by decide, bg 687 (by decide +kernel) (by decide +kernel), rfl⟩
theorem fl_X6_57 : FL RX6 57 6 23 := ⟨RX6, TX6, 31, rfl, fin_X6, by decide, bg 689 (by decide +kernel) (by decide +kernel), rfl⟩
theorem fl_X6_60 : FL RX6 60 6 30 := ⟨RX6, TX6, 31, rfl, fin_X6, by decide, bg 696 (by decide +kernel) (by decide +kernel), rfl⟩
theorem fl_X6_67 : FL RX6 67 6 2 := ⟨RX6, TX6, 31, rfl, fin_X6, by decide, bg 668 (by decide +kernel) (by decide +kernel), rfl⟩
theorem fp_X6_67 : FP RX6 67 6 2 .int := ⟨RX6, TX6, 31, tyX6, ⟨rfl, fin_X6, by decide, bg 668 (by decide +kernel) (by decide +kernel), rfl⟩, tyX6_ok, nmX6, rfl, by decide +kernel⟩
theorem fl_X6_73 : FL RX6 73 6 12 := ⟨RX6, TX6, 31, rfl, fin_X6, by decide, bg 678 (by decide +kernel) (by decide +kernel), rfl⟩
theorem fp_X6_73 : FP RX6 73 6 12 .int := ⟨RX6, TX6, 31, tyX6, ⟨rfl, fin_X6, by decide, bg 678 (by decide +kernel) (by decide +kernel), rfl⟩, tyX6_ok, nmX6, rfl, by decide +kernel⟩
theorem fl_X6_80 : FL RX6 80 6 13 := ⟨RX6, TX6, 31, rfl, fin_X6, by decide, bg 679 (by decide +kernel) (by decide +kernel), rfl⟩
theorem fp_X6_80 : FP RX6 80 6 13 .int := ⟨RX6, TX6, 31, tyX6, ⟨rfl, fin_X6, by decide, bg 679 (by decide +kernel) (by decide +kernel), rfl⟩, tyX6_ok, nmX6, rfl, by decide +kernel⟩
theorem fl_X6_83 : FL RX6 83 6 15 := ⟨RX6, TX6, 31, rfl, fin_X6, by decide, bg 681 (by decide +kernel) (by decide +kernel), rfl⟩
theorem fp_X6_83 : FP RX6 83 6 15 .int := ⟨RX6, TX6, 31, tyX6, ⟨rfl, fin_X6, by decide, bg 681 (by decide +kernel) (by decide +kernel), rfl⟩, tyX6_ok, nmX6, rfl, by decide +kernel⟩
theorem fl_X6_86 : FL RX6 86 6 14 := ⟨RX6, TX6, 31, rfl, fin_X6, by decide, bg 680 (by decide +kernel) (by decide +kernel), rfl⟩
theorem fp_X6_86 : FP RX6 86 6 14 .int := ⟨RX6, TX6, 31, tyX6, ⟨rfl, fin_X6, by decide, bg 680 (by decide +kernel) (by decide +kernel), rfl⟩, tyX6_ok, nmX6, rfl, by decide +kernel⟩
theorem fl_X6_93 : FL RX6 93 6 16 := ⟨RX6, TX6, 31, rfl, fin_X6, by decide, bg 682 (by decide +kernel) (by decide +kernel), rfl⟩
theorem fp_X6_93 : FP RX6 93 6 16 .int := ⟨RX6, TX6, 31, tyX6, ⟨rfl, fin_X6, by decide, bg 682 (by decide +kernel) (by decide +kernel), rfl⟩, tyX6_ok, nmX6, rfl, by decide +kernel⟩
theorem fl_X6_121 : FL RX6 121 6 24 := ⟨RX6, TX6, 31, rfl, fin_X6, by decide, bg 690 (by decide +kernel) (by decide +kernel), rfl⟩
theorem fp_X6_121 : FP RX6 121 6 24 .int := ⟨RX6, TX6, 31, tyX6, ⟨rfl, fin_X6, by decide, bg 690 (by decide +kernel) (by decide +kernel), rfl⟩, tyX6_ok, nmX6, rfl, by decide +kernel⟩
theorem fl_X6_124 : FL RX6 124 6 26 := ⟨RX6, TX6, 31, rfl, fin_X6, by decide, bg 692 (by decide +kernel) (by decide +kernel), rfl⟩
theorem fp_X6_124 : FP RX6 124 6 26 .int := ⟨RX6, TX6, 31, tyX6, ⟨rfl, fin_X6, by decide, bg 692 (by decide +kernel) (by decide +kernel), rfl⟩, tyX6_ok, nmX6, rfl, by decide +kernel⟩
theorem fl_X6_127 : FL RX6 127 6 27 := ⟨RX6, TX6, 31, rfl, fin_X6, by decide, bg 693 (by decide +kernel) (by decide +kernel), rfl⟩
theorem fp_X6_127 : FP RX6 127 6 27 .int := ⟨RX6, TX6, 31, tyX6, ⟨rfl, fin_X6, by decide, bg 693 (by decide +kernel) (by decide +kernel), rfl⟩, tyX6_ok, nmX6, rfl, by decide +kernel⟩
theorem fl_X6_134 : FL RX6 134 6 29 := ⟨RX6, TX6, 31, rfl, fin_X6, by decide, bg 695 (by decide +kernel) (by decide +kernel), rfl⟩
theorem fp_X6_134 : FP RX6 134 6 29 .int := ⟨RX6, TX6, 31, tyX6, ⟨rfl, fin_X6, by decide, bg 695 (by decide +kernel) (by decide +kernel), rfl⟩, tyX6_ok, nmX6, rfl, by decide +kernel⟩
theorem fl_X6_137 : FL RX6 137 6 25 := ⟨RX6, TX6, 31, rfl, fin_X6, by decide, bg 691 (by decide +kernel) (by decide +kernel), rfl⟩
theorem fp_X6_137 : FP RX6 137 6 25 .int := ⟨RX6, TX6, 31, tyX6, ⟨rfl, fin_X6, by decide, bg 691 (by decide +kernel) (by decide +kernel), rfl⟩, tyX6_ok, nmX6, rfl, by decide +kernel⟩
theorem fl_X6_147 : FL RX6 147 6 28 := ⟨RX6, TX6, 31, rfl, fin_X6, by decide, bg 694 (by decide +kernel) (by decide +kernel), rfl⟩
theorem fp_X6_147 : FP RX6 147 6 28 .int := ⟨RX6, TX6, 31, tyX6, ⟨rfl, fin_X6, by decide, bg 694 (by decide +kernel) (by decide +kernel), rfl⟩, tyX6_ok, nmX6, rfl, by decide +kernel⟩
theorem fl_X6_150 : FL RX6 150 6 22 := ⟨RX6, TX6, 31, rfl, fin_X6, by decide, bg 688 (by decide +kernel) (by decide +kernel), rfl⟩
theorem fp_X6_150 : FP RX6 150 6 22 .int := ⟨RX6, TX6, 31, tyX6, ⟨rfl, fin_X6, by decide, bg 688 (by decide +kernel) (by decide +kernel), rfl⟩, tyX6_ok, nmX6, rfl, by decide +kernel⟩
theorem fl_X6_202 : FL RX6 202 6 0 := ⟨RX6, TX6, 31, rfl, fin_X6, by decide, bg 666 (by decide +kernel) (by decide +kernel), rfl⟩
theorem fp_X6_202 : FP RX6 202 6 0 .long := ⟨RX6, TX6, 31, tyX6, ⟨rfl, fin_X6, by decide, bg 666 (by decide +kernel) (by decide +kernel), rfl⟩, tyX6_ok, nmX6, rfl, by decide +kernel⟩
theorem ok_X5_type : okV mi_X5_type 2 := ⟨bg 259 (by decide +kernel) (by decide +kernel), bg 260 (by decide +kernel) (by decide +kernel), bg 52 (by decide +kernel) (by decide +kernel), bg 261 (by decide +kernel) (by decide +kernel), by decide +kernel⟩
theorem ok_X5_clear : okV mi_X5_clear 0 := ⟨bg 267 (by decide +kernel) (by decide +kernel), bg 268 (by decide +kernel) (by decide +kernel), bg 52 (by decide +kernel) (by decide +kernel), bg 269 (by decide +kernel) (by decide +kernel), by decide +kernel⟩
theorem ok_X5_tell : okV mi_X5_tell 0 := ⟨bg 271 (by decide +kernel) (by decide +kernel), bg 272 (by decide +kernel) (by decide +kernel), bg 52 (by decide +kernel) (by decide +kernel), bg 273 (by decide +kernel) (by decide +kernel), by decide +kernel⟩
theorem ok_X5_event : okV mi_X5_event 2 := ⟨bg 424 (by decide +kernel) (by decide +kernel), bg 425 (by decide +kernel) (by decide +kernel), bg 52 (by decide +kernel) (by decide +kernel), bg 426 (by decide +kernel) (by decide +kernel), by decide +kernel⟩
theorem ok_X5_comes : okV mi_X5_comes 3 := ⟨bg 428 (by decide +kernel) (by decide +kernel), bg 429 (by decide +kernel) (by decide +kernel), bg 52 (by decide +kernel) (by decide +kernel), bg 430 (by decide +kernel) (by decide +kernel), by decide +kernel⟩
theorem ok_X5_days : okV mi_X5_days 1 := ⟨bg 436 (by decide +kernel) (by decide +kernel), bg 437 (by decide +kernel) (by decide +kernel), bg 52 (by decide +kernel) (by decide +kernel), bg 438 (by decide +kernel) (by decide +kernel), by decide +kernel⟩
theorem ok_X5_undo : okV mi_X5_undo 0 := ⟨bg 440 (by decide +kernel) (by decide +kernel), bg 441 (by decide +kernel) (by decide +kernel), bg 52 (by decide +kernel) (by decide +kernel), bg 442 (by decide +kernel) (by decide +kernel), by decide +kernel⟩
theorem ok_X5_origins : okV mi_X5_origins 3 := ⟨bg 448 (by decide +kernel) (by decide +kernel), bg 449 (by decide +kernel) (by decide +kernel), bg 52 (by decide +kernel) (by decide +kernel), bg 450 (by decide +kernel) (by decide +kernel), by decide +kernel⟩
theorem ok_X5_voice : okV mi_X5_voice 3 := ⟨bg 486 (by decide +kernel) (by decide +kernel), bg 487 (by decide +kernel) (by decide +kernel), bg 52 (by decide +kernel) (by decide +kernel), bg 488 (by decide +kernel) (by decide +kernel), by decide +kernel⟩
theorem ok_X5_law : okV mi_X5_law 3 := ⟨bg 490 (by decide +kernel) (by decide +kernel), bg 491 (by decide +kernel) (by decide +kernel), bg 52 (by decide +kernel) (by decide +kernel), bg 492 (by decide +kernel) (by decide +kernel), by decide +kernel⟩
theorem ok_X5_place : okV mi_X5_place 1 := ⟨bg 494 (by decide +kernel) (by decide +kernel), bg 495 (by decide +kernel) (by decide +kernel), bg 52 (by decide +kernel) (by decide +kernel), bg 496 (by decide +kernel) (by decide +kernel), by decide +kernel⟩
theorem ok_X5_stands : okV mi_X5_stands 1 := ⟨bg 498 (by decide +kernel) (by decide +kernel), bg 499 (by decide +kernel) (by decide +kernel), bg 52 (by decide +kernel) (by decide +kernel), bg 500 (by decide +kernel) (by decide +kernel), by decide +kernel⟩
theorem ok_X5_falls : okV mi_X5_falls 1 := ⟨bg 516 (by decide +kernel) (by decide +kernel), bg 517 (by decide +kernel) (by decide +kernel), bg 52 (by decide +kernel) (by decide +kernel), bg 518 (by decide +kernel) (by decide +kernel), by decide +kernel⟩
theorem ok_X5_alone : okV mi_X5_alone 1 := ⟨bg 520 (by decide +kernel) (by decide +kernel), bg 521 (by decide +kernel) (by decide +kernel), bg 52 (by decide +kernel) (by decide +kernel), bg 522 (by decide +kernel) (by decide +kernel), by decide +kernel⟩
theorem ok_X5_empty : okV mi_X5_empty 0 := ⟨bg 524 (by decide +kernel) (by decide +kernel), bg 525 (by decide +kernel) (by decide +kernel), bg 52 (by decide +kernel) (by decide +kernel), bg 526 (by decide +kernel) (by decide +kernel), by decide +kernel⟩
theorem ok_X5_hints : okV mi_X5_hints 2 := ⟨bg 532 (by decide +kernel) (by decide +kernel), bg 533 (by decide +kernel) (by decide +kernel), bg 52 (by decide +kernel) (by decide +kernel), bg 534 (by decide +kernel) (by decide +kernel), by decide +kernel⟩
theorem ok_X5_hinder : okV mi_X5_hinder 2 := ⟨bg 565 (by decide +kernel) (by decide +kernel), bg 566 (by decide +kernel) (by decide +kernel), bg 52 (by decide +kernel) (by decide +kernel), bg 567 (by decide +kernel) (by decide +kernel), by decide +kernel⟩
theorem ok_X5_turns : okV mi_X5_turns 3 := ⟨bg 569 (by decide +kernel) (by decide +kernel), bg 570 (by decide +kernel) (by decide +kernel), bg 52 (by decide +kernel) (by decide +kernel), bg 571 (by decide +kernel) (by decide +kernel), by decide +kernel⟩
theorem ok_X5_keepAt : okV mi_X5_keepAt 2 := ⟨bg 581 (by decide +kernel) (by decide +kernel), bg 582 (by decide +kernel) (by decide +kernel), bg 52 (by decide +kernel) (by decide +kernel), bg 583 (by decide +kernel) (by decide +kernel), by decide +kernel⟩
theorem ok_X5_chance : okV mi_X5_chance 5 := ⟨bg 593 (by decide +kernel) (by decide +kernel), bg 594 (by decide +kernel) (by decide +kernel), bg 52 (by decide +kernel) (by decide +kernel), bg 595 (by decide +kernel) (by decide +kernel), by decide +kernel⟩
theorem ok_X5_mark : okV mi_X5_mark 3 := ⟨bg 611 (by decide +kernel) (by decide +kernel), bg 612 (by decide +kernel) (by decide +kernel), bg 52 (by decide +kernel) (by decide +kernel), bg 613 (by decide +kernel) (by decide +kernel), by decide +kernel⟩
theorem ok_X5_keep : okV mi_X5_keep 1 := ⟨bg 645 (by decide +kernel) (by decide +kernel), bg 646 (by decide +kernel) (by decide +kernel), bg 52 (by decide +kernel) (by decide +kernel), bg 647 (by decide +kernel) (by decide +kernel), by decide +kernel⟩
theorem ok_X5_back : okV mi_X5_back 1 := ⟨bg 649 (by decide +kernel) (by decide +kernel), bg 650 (by decide +kernel) (by decide +kernel), bg 52 (by decide +kernel) (by decide +kernel), bg 651 (by decide +kernel) (by decide +kernel), by decide +kernel⟩
theorem ok_X5_count : okV mi_X5_count 1 := ⟨bg 653 (by decide +kernel) (by decide +kernel), bg 654 (by decide +kernel) (by decide +kernel), bg 52 (by decide +kernel) (by decide +kernel), bg 655 (by decide +kernel) (by decide +kernel), by decide +kernel⟩
theorem ok_X5_trace : okV mi_X5_trace 0 := ⟨bg 657 (by decide +kernel) (by decide +kernel), bg 658 (by decide +kernel) (by decide +kernel), bg 52 (by decide +kernel) (by decide +kernel), bg 659 (by decide +kernel) (by decide +kernel), by decide +kernel⟩
theorem ok_X5_isThing : okS mi_X5_isThing 1 := ⟨bg 452 (by decide +kernel) (by decide +kernel), bg 52 (by decide +kernel) (by decide +kernel), bg 453 (by decide +kernel) (by decide +kernel), by decide +kernel⟩
theorem ok_X5_isDay : okS mi_X5_isDay 1 := ⟨bg 536 (by decide +kernel) (by decide +kernel), bg 52 (by decide +kernel) (by decide +kernel), bg 537 (by decide +kernel) (by decide +kernel), by decide +kernel⟩
theorem ok_X5_isShare : okS mi_X5_isShare 2 := ⟨bg 597 (by decide +kernel) (by decide +kernel), bg 52 (by decide +kernel) (by decide +kernel), bg 598 (by decide +kernel) (by decide +kernel), by decide +kernel⟩
theorem ok_X5_tellStory : okV mi_X5_tellStory 2 := ⟨bg 456 (by decide +kernel) (by decide +kernel), bg 10 (by decide +kernel) (by decide +kernel), bg 52 (by decide +kernel) (by decide +kernel), bg 457 (by decide +kernel) (by decide +kernel), by decide +kernel⟩
theorem ok_X5_isLawWith : okV mi_X5_isLawWith 2 := ⟨bg 513 (by decide +kernel) (by decide +kernel), bg 15 (by decide +kernel) (by decide +kernel), bg 52 (by decide +kernel) (by decide +kernel), bg 514 (by decide +kernel) (by decide +kernel), by decide +kernel⟩
theorem ok_X5_fewestAgainst : okV mi_X5_fewestAgainst 1 := ⟨bg 503 (by decide +kernel) (by decide +kernel), bg 14 (by decide +kernel) (by decide +kernel), bg 52 (by decide +kernel) (by decide +kernel), bg 504 (by decide +kernel) (by decide +kernel), by decide +kernel⟩
theorem ok_X5_maybesThatCarry : okV mi_X5_maybesThatCarry 1 := ⟨bg 529 (by decide +kernel) (by decide +kernel), bg 16 (by decide +kernel) (by decide +kernel), bg 52 (by decide +kernel) (by decide +kernel), bg 530 (by decide +kernel) (by decide +kernel), by decide +kernel⟩
theorem ok_X5_tellAhead : okV mi_X5_tellAhead 2 := ⟨bg 544 (by decide +kernel) (by decide +kernel), bg 18 (by decide +kernel) (by decide +kernel), bg 52 (by decide +kernel) (by decide +kernel), bg 545 (by decide +kernel) (by decide +kernel), by decide +kernel⟩
theorem ok_X5_isLawIf : okV mi_X5_isLawIf 3 := ⟨bg 552 (by decide +kernel) (by decide +kernel), bg 19 (by decide +kernel) (by decide +kernel), bg 52 (by decide +kernel) (by decide +kernel), bg 553 (by decide +kernel) (by decide +kernel), by decide +kernel⟩
theorem ok_X5_fewestChosen : okV mi_X5_fewestChosen 3 := ⟨bg 540 (by decide +kernel) (by decide +kernel), bg 17 (by decide +kernel) (by decide +kernel), bg 52 (by decide +kernel) (by decide +kernel), bg 541 (by decide +kernel) (by decide +kernel), by decide +kernel⟩
theorem ok_X5_isLawByTurns0 : okV (mi_X5_isLawByTurns 0) 2 := ⟨bg 574 (by decide +kernel) (by decide +kernel), bg 20 (by decide +kernel) (by decide +kernel), bg 52 (by decide +kernel) (by decide +kernel), bg 575 (by decide +kernel) (by decide +kernel), by decide +kernel⟩
theorem ok_X5_isLawByTurns (k : Nat) : okV (mi_X5_isLawByTurns k) 2 := ok_X5_isLawByTurns0
theorem ok_X5_isReachedBy0 : okV (mi_X5_isReachedBy 0) 3 := ⟨bg 578 (by decide +kernel) (by decide +kernel), bg 21 (by decide +kernel) (by decide +kernel), bg 52 (by decide +kernel) (by decide +kernel), bg 579 (by decide +kernel) (by decide +kernel), by decide +kernel⟩
theorem ok_X5_isReachedBy (k : Nat) : okV (mi_X5_isReachedBy k) 3 := ok_X5_isReachedBy0
theorem ok_X5_thingsHadAt : okV mi_X5_thingsHadAt 3 := ⟨bg 586 (by decide +kernel) (by decide +kernel), bg 22 (by decide +kernel) (by decide +kernel), bg 52 (by decide +kernel) (by decide +kernel), bg 587 (by decide +kernel) (by decide +kernel), by decide +kernel⟩
theorem ok_X5_power : okS mi_X5_power 2 := ⟨bg 605 (by decide +kernel) (by decide +kernel), bg 52 (by decide +kernel) (by decide +kernel), bg 606 (by decide +kernel) (by decide +kernel), by decide +kernel⟩
theorem ok_X5_commonDivisor : okS mi_X5_commonDivisor 2 := ⟨bg 608 (by decide +kernel) (by decide +kernel), bg 52 (by decide +kernel) (by decide +kernel), bg 609 (by decide +kernel) (by decide +kernel), by decide +kernel⟩
theorem ok_X5_markSaying : okV mi_X5_markSaying 1 := ⟨bg 622 (by decide +kernel) (by decide +kernel), bg 24 (by decide +kernel) (by decide +kernel), bg 52 (by decide +kernel) (by decide +kernel), bg 623 (by decide +kernel) (by decide +kernel), by decide +kernel⟩
theorem ok_X5_markHeard : okV mi_X5_markHeard 1 := ⟨bg 617 (by decide +kernel) (by decide +kernel), bg 23 (by decide +kernel) (by decide +kernel), bg 52 (by decide +kernel) (by decide +kernel), bg 618 (by decide +kernel) (by decide +kernel), by decide +kernel⟩
theorem ok_X5_markOwn : okV mi_X5_markOwn 1 := ⟨bg 626 (by decide +kernel) (by decide +kernel), bg 25 (by decide +kernel) (by decide +kernel), bg 52 (by decide +kernel) (by decide +kernel), bg 627 (by decide +kernel) (by decide +kernel), by decide +kernel⟩
theorem ok_X5_markSong : okV mi_X5_markSong 2 := ⟨bg 631 (by decide +kernel) (by decide +kernel), bg 26 (by decide +kernel) (by decide +kernel), bg 52 (by decide +kernel) (by decide +kernel), bg 632 (by decide +kernel) (by decide +kernel), by decide +kernel⟩
theorem ok_X5_markHum : okV mi_X5_markHum 1 := ⟨bg 636 (by decide +kernel) (by decide +kernel), bg 27 (by decide +kernel) (by decide +kernel), bg 52 (by decide +kernel) (by decide +kernel), bg 637 (by decide +kernel) (by decide +kernel), by decide +kernel⟩
theorem ok_X5_markWritten : okV mi_X5_markWritten 1 := ⟨bg 641 (by decide +kernel) (by decide +kernel), bg 28 (by decide +kernel) (by decide +kernel), bg 52 (by decide +kernel) (by decide +kernel), bg 642 (by decide +kernel) (by decide +kernel), by decide +kernel⟩
theorem ok_X6_in : okS mi_X6_in 3 := ⟨bg 766 (by decide +kernel) (by decide +kernel), bg 58 (by decide +kernel) (by decide +kernel), bg 767 (by decide +kernel) (by decide +kernel), by decide +kernel⟩
theorem ok_X6_type : okV mi_X6_type 2 := ⟨bg 762 (by decide +kernel) (by decide +kernel), bg 763 (by decide +kernel) (by decide +kernel), bg 58 (by decide +kernel) (by decide +kernel), bg 764 (by decide +kernel) (by decide +kernel), by decide +kernel⟩
theorem ok_X6_clear : okV mi_X6_clear 0 := ⟨bg 770 (by decide +kernel) (by decide +kernel), bg 771 (by decide +kernel) (by decide +kernel), bg 58 (by decide +kernel) (by decide +kernel), bg 772 (by decide +kernel) (by decide +kernel), by decide +kernel⟩
theorem ok_X6_here : okV mi_X6_here 0 := ⟨bg 783 (by decide +kernel) (by decide +kernel), bg 30 (by decide +kernel) (by decide +kernel), bg 58 (by decide +kernel) (by decide +kernel), bg 784 (by decide +kernel) (by decide +kernel), by decide +kernel⟩
theorem ok_X6_meaning : okS mi_X6_meaning 1 := ⟨bg 786 (by decide +kernel) (by decide +kernel), bg 58 (by decide +kernel) (by decide +kernel), bg 787 (by decide +kernel) (by decide +kernel), by decide +kernel⟩
theorem ok_X6_next : okV mi_X6_next 0 := ⟨bg 779 (by decide +kernel) (by decide +kernel), bg 29 (by decide +kernel) (by decide +kernel), bg 58 (by decide +kernel) (by decide +kernel), bg 780 (by decide +kernel) (by decide +kernel), by decide +kernel⟩
theorem ok_X6_due : okV mi_X6_due 1 := ⟨bg 798 (by decide +kernel) (by decide +kernel), bg 33 (by decide +kernel) (by decide +kernel), bg 58 (by decide +kernel) (by decide +kernel), bg 799 (by decide +kernel) (by decide +kernel), by decide +kernel⟩
theorem ok_X6_number : okV mi_X6_number 2 := ⟨bg 802 (by decide +kernel) (by decide +kernel), bg 34 (by decide +kernel) (by decide +kernel), bg 58 (by decide +kernel) (by decide +kernel), bg 803 (by decide +kernel) (by decide +kernel), by decide +kernel⟩
theorem ok_X6_maybesIn : okV mi_X6_maybesIn 1 := ⟨bg 794 (by decide +kernel) (by decide +kernel), bg 32 (by decide +kernel) (by decide +kernel), bg 58 (by decide +kernel) (by decide +kernel), bg 795 (by decide +kernel) (by decide +kernel), by decide +kernel⟩
theorem ok_X6_readItem : okV mi_X6_readItem 0 := ⟨bg 790 (by decide +kernel) (by decide +kernel), bg 31 (by decide +kernel) (by decide +kernel), bg 58 (by decide +kernel) (by decide +kernel), bg 791 (by decide +kernel) (by decide +kernel), by decide +kernel⟩
theorem ok_X6_copy : okV mi_X6_copy 2 := ⟨bg 806 (by decide +kernel) (by decide +kernel), bg 35 (by decide +kernel) (by decide +kernel), bg 58 (by decide +kernel) (by decide +kernel), bg 807 (by decide +kernel) (by decide +kernel), by decide +kernel⟩
theorem ok_X6_tell : okV mi_X6_tell 0 := ⟨bg 774 (by decide +kernel) (by decide +kernel), bg 775 (by decide +kernel) (by decide +kernel), bg 58 (by decide +kernel) (by decide +kernel), bg 776 (by decide +kernel) (by decide +kernel), by decide +kernel⟩
theorem ok_X6_isOne : okV mi_X6_isOne 1 := ⟨bg 818 (by decide +kernel) (by decide +kernel), bg 36 (by decide +kernel) (by decide +kernel), bg 58 (by decide +kernel) (by decide +kernel), bg 819 (by decide +kernel) (by decide +kernel), by decide +kernel⟩
theorem ok_X6_isThing : okS mi_X6_isThing 1 := ⟨bg 833 (by decide +kernel) (by decide +kernel), bg 58 (by decide +kernel) (by decide +kernel), bg 834 (by decide +kernel) (by decide +kernel), by decide +kernel⟩
theorem ok_X6_event : okV mi_X6_event 2 := ⟨bg 809 (by decide +kernel) (by decide +kernel), bg 810 (by decide +kernel) (by decide +kernel), bg 58 (by decide +kernel) (by decide +kernel), bg 811 (by decide +kernel) (by decide +kernel), by decide +kernel⟩
theorem ok_X6_comes : okV mi_X6_comes 3 := ⟨bg 813 (by decide +kernel) (by decide +kernel), bg 814 (by decide +kernel) (by decide +kernel), bg 58 (by decide +kernel) (by decide +kernel), bg 815 (by decide +kernel) (by decide +kernel), by decide +kernel⟩
theorem ok_X6_days : okV mi_X6_days 1 := ⟨bg 821 (by decide +kernel) (by decide +kernel), bg 822 (by decide +kernel) (by decide +kernel), bg 58 (by decide +kernel) (by decide +kernel), bg 823 (by decide +kernel) (by decide +kernel), by decide +kernel⟩
theorem ok_X6_undo : okV mi_X6_undo 0 := ⟨bg 825 (by decide +kernel) (by decide +kernel), bg 826 (by decide +kernel) (by decide +kernel), bg 58 (by decide +kernel) (by decide +kernel), bg 827 (by decide +kernel) (by decide +kernel), by decide +kernel⟩
theorem ok_X6_plain : okV mi_X6_plain 0 := ⟨bg 841 (by decide +kernel) (by decide +kernel), bg 38 (by decide +kernel) (by decide +kernel), bg 58 (by decide +kernel) (by decide +kernel), bg 842 (by decide +kernel) (by decide +kernel), by decide +kernel⟩
theorem ok_X6_think : okV mi_X6_think 2 := ⟨bg 853 (by decide +kernel) (by decide +kernel), bg 41 (by decide +kernel) (by decide +kernel), bg 58 (by decide +kernel) (by decide +kernel), bg 854 (by decide +kernel) (by decide +kernel), by decide +kernel⟩
theorem ok_X6_areApart : okV mi_X6_areApart 4 := ⟨bg 861 (by decide +kernel) (by decide +kernel), bg 43 (by decide +kernel) (by decide +kernel), bg 58 (by decide +kernel) (by decide +kernel), bg 862 (by decide +kernel) (by decide +kernel), by decide +kernel⟩
theorem ok_X6_speak : okV mi_X6_speak 3 := ⟨bg 857 (by decide +kernel) (by decide +kernel), bg 42 (by decide +kernel) (by decide +kernel), bg 58 (by decide +kernel) (by decide +kernel), bg 858 (by decide +kernel) (by decide +kernel), by decide +kernel⟩
theorem ok_X6_act : okV mi_X6_act 0 := ⟨bg 849 (by decide +kernel) (by decide +kernel), bg 40 (by decide +kernel) (by decide +kernel), bg 58 (by decide +kernel) (by decide +kernel), bg 850 (by decide +kernel) (by decide +kernel), by decide +kernel⟩
theorem ok_X6_hasAny : okV mi_X6_hasAny 1 := ⟨bg 865 (by decide +kernel) (by decide +kernel), bg 44 (by decide +kernel) (by decide +kernel), bg 58 (by decide +kernel) (by decide +kernel), bg 866 (by decide +kernel) (by decide +kernel), by decide +kernel⟩
theorem ok_X6_goEvent : okV mi_X6_goEvent 1 := ⟨bg 869 (by decide +kernel) (by decide +kernel), bg 45 (by decide +kernel) (by decide +kernel), bg 58 (by decide +kernel) (by decide +kernel), bg 870 (by decide +kernel) (by decide +kernel), by decide +kernel⟩
theorem ok_X6_go : okV mi_X6_go 1 := ⟨bg 845 (by decide +kernel) (by decide +kernel), bg 39 (by decide +kernel) (by decide +kernel), bg 58 (by decide +kernel) (by decide +kernel), bg 846 (by decide +kernel) (by decide +kernel), by decide +kernel⟩
theorem ok_X6_goPlain : okV mi_X6_goPlain 1 := ⟨bg 837 (by decide +kernel) (by decide +kernel), bg 37 (by decide +kernel) (by decide +kernel), bg 58 (by decide +kernel) (by decide +kernel), bg 838 (by decide +kernel) (by decide +kernel), by decide +kernel⟩
theorem ok_X6_origins : okV mi_X6_origins 3 := ⟨bg 829 (by decide +kernel) (by decide +kernel), bg 830 (by decide +kernel) (by decide +kernel), bg 58 (by decide +kernel) (by decide +kernel), bg 831 (by decide +kernel) (by decide +kernel), by decide +kernel⟩
theorem ok_X6_voice : okV mi_X6_voice 3 := ⟨bg 872 (by decide +kernel) (by decide +kernel), bg 873 (by decide +kernel) (by decide +kernel), bg 58 (by decide +kernel) (by decide +kernel), bg 874 (by decide +kernel) (by decide +kernel), by decide +kernel⟩
theorem ok_X6_law : okV mi_X6_law 3 := ⟨bg 876 (by decide +kernel) (by decide +kernel), bg 877 (by decide +kernel) (by decide +kernel), bg 58 (by decide +kernel) (by decide +kernel), bg 878 (by decide +kernel) (by decide +kernel), by decide +kernel⟩
theorem ok_X6_place : okV mi_X6_place 1 := ⟨bg 880 (by decide +kernel) (by decide +kernel), bg 881 (by decide +kernel) (by decide +kernel), bg 58 (by decide +kernel) (by decide +kernel), bg 882 (by decide +kernel) (by decide +kernel), by decide +kernel⟩
theorem ok_X6_bitsIn : okS mi_X6_bitsIn 1 := ⟨bg 892 (by decide +kernel) (by decide +kernel), bg 58 (by decide +kernel) (by decide +kernel), bg 893 (by decide +kernel) (by decide +kernel), by decide +kernel⟩
theorem ok_X6_isLaw : okV mi_X6_isLaw 2 := ⟨bg 896 (by decide +kernel) (by decide +kernel), bg 47 (by decide +kernel) (by decide +kernel), bg 58 (by decide +kernel) (by decide +kernel), bg 897 (by decide +kernel) (by decide +kernel), by decide +kernel⟩
theorem ok_X6_fallsBy : okV mi_X6_fallsBy 1 := ⟨bg 889 (by decide +kernel) (by decide +kernel), bg 46 (by decide +kernel) (by decide +kernel), bg 58 (by decide +kernel) (by decide +kernel), bg 890 (by decide +kernel) (by decide +kernel), by decide +kernel⟩
theorem ok_X6_stands : okV mi_X6_stands 1 := ⟨bg 884 (by decide +kernel) (by decide +kernel), bg 885 (by decide +kernel) (by decide +kernel), bg 58 (by decide +kernel) (by decide +kernel), bg 886 (by decide +kernel) (by decide +kernel), by decide +kernel⟩
theorem ok_X6_falls : okV mi_X6_falls 1 := ⟨bg 899 (by decide +kernel) (by decide +kernel), bg 900 (by decide +kernel) (by decide +kernel), bg 58 (by decide +kernel) (by decide +kernel), bg 901 (by decide +kernel) (by decide +kernel), by decide +kernel⟩
theorem ok_X6_alone : okV mi_X6_alone 1 := ⟨bg 903 (by decide +kernel) (by decide +kernel), bg 904 (by decide +kernel) (by decide +kernel), bg 58 (by decide +kernel) (by decide +kernel), bg 905 (by decide +kernel) (by decide +kernel), by decide +kernel⟩
theorem ok_X6_empty : okV mi_X6_empty 0 := ⟨bg 907 (by decide +kernel) (by decide +kernel), bg 908 (by decide +kernel) (by decide +kernel), bg 58 (by decide +kernel) (by decide +kernel), bg 909 (by decide +kernel) (by decide +kernel), by decide +kernel⟩
theorem ok_X6_isLawBy : okV mi_X6_isLawBy 4 := ⟨bg 920 (by decide +kernel) (by decide +kernel), bg 49 (by decide +kernel) (by decide +kernel), bg 58 (by decide +kernel) (by decide +kernel), bg 921 (by decide +kernel) (by decide +kernel), by decide +kernel⟩
theorem ok_X6_fewestBy : okV mi_X6_fewestBy 4 := ⟨bg 916 (by decide +kernel) (by decide +kernel), bg 48 (by decide +kernel) (by decide +kernel), bg 58 (by decide +kernel) (by decide +kernel), bg 917 (by decide +kernel) (by decide +kernel), by decide +kernel⟩
theorem ok_X6_hints : okV mi_X6_hints 2 := ⟨bg 911 (by decide +kernel) (by decide +kernel), bg 912 (by decide +kernel) (by decide +kernel), bg 58 (by decide +kernel) (by decide +kernel), bg 913 (by decide +kernel) (by decide +kernel), by decide +kernel⟩
theorem ok_X6_hinder : okV mi_X6_hinder 2 := ⟨bg 923 (by decide +kernel) (by decide +kernel), bg 924 (by decide +kernel) (by decide +kernel), bg 58 (by decide +kernel) (by decide +kernel), bg 925 (by decide +kernel) (by decide +kernel), by decide +kernel⟩
theorem ok_X6_isLawByTurns : okV mi_X6_isLawByTurns 4 := ⟨bg 932 (by decide +kernel) (by decide +kernel), bg 50 (by decide +kernel) (by decide +kernel), bg 58 (by decide +kernel) (by decide +kernel), bg 933 (by decide +kernel) (by decide +kernel), by decide +kernel⟩
theorem ok_X6_turns : okV mi_X6_turns 3 := ⟨bg 927 (by decide +kernel) (by decide +kernel), bg 928 (by decide +kernel) (by decide +kernel), bg 58 (by decide +kernel) (by decide +kernel), bg 929 (by decide +kernel) (by decide +kernel), by decide +kernel⟩
theorem ok_X6_keepAt : okV mi_X6_keepAt 2 := ⟨bg 935 (by decide +kernel) (by decide +kernel), bg 936 (by decide +kernel) (by decide +kernel), bg 58 (by decide +kernel) (by decide +kernel), bg 937 (by decide +kernel) (by decide +kernel), by decide +kernel⟩
theorem ok_X6_common : okS mi_X6_common 2 := ⟨bg 944 (by decide +kernel) (by decide +kernel), bg 58 (by decide +kernel) (by decide +kernel), bg 945 (by decide +kernel) (by decide +kernel), by decide +kernel⟩
theorem ok_X6_chance : okV mi_X6_chance 5 := ⟨bg 939 (by decide +kernel) (by decide +kernel), bg 940 (by decide +kernel) (by decide +kernel), bg 58 (by decide +kernel) (by decide +kernel), bg 941 (by decide +kernel) (by decide +kernel), by decide +kernel⟩
theorem ok_X6_mark : okV mi_X6_mark 3 := ⟨bg 947 (by decide +kernel) (by decide +kernel), bg 948 (by decide +kernel) (by decide +kernel), bg 58 (by decide +kernel) (by decide +kernel), bg 949 (by decide +kernel) (by decide +kernel), by decide +kernel⟩
theorem ok_X6_keep : okV mi_X6_keep 1 := ⟨bg 957 (by decide +kernel) (by decide +kernel), bg 958 (by decide +kernel) (by decide +kernel), bg 58 (by decide +kernel) (by decide +kernel), bg 959 (by decide +kernel) (by decide +kernel), by decide +kernel⟩
theorem ok_X6_back : okV mi_X6_back 1 := ⟨bg 961 (by decide +kernel) (by decide +kernel), bg 962 (by decide +kernel) (by decide +kernel), bg 58 (by decide +kernel) (by decide +kernel), bg 963 (by decide +kernel) (by decide +kernel), by decide +kernel⟩
theorem ok_X6_count : okV mi_X6_count 1 := ⟨bg 965 (by decide +kernel) (by decide +kernel), bg 966 (by decide +kernel) (by decide +kernel), bg 58 (by decide +kernel) (by decide +kernel), bg 967 (by decide +kernel) (by decide +kernel), by decide +kernel⟩
theorem ok_X6_trace : okV mi_X6_trace 0 := ⟨bg 969 (by decide +kernel) (by decide +kernel), bg 970 (by decide +kernel) (by decide +kernel), bg 58 (by decide +kernel) (by decide +kernel), bg 971 (by decide +kernel) (by decide +kernel), by decide +kernel⟩
theorem ok_X0_hasRoomFor : okV mi_X0_hasRoomFor 1 := ⟨bg 394 (by decide +kernel) (by decide +kernel), bg 395 (by decide +kernel) (by decide +kernel), bg 55 (by decide +kernel) (by decide +kernel), bg 396 (by decide +kernel) (by decide +kernel), by decide +kernel⟩
theorem ok_X0_add : okV mi_X0_add 3 := ⟨bg 406 (by decide +kernel) (by decide +kernel), bg 407 (by decide +kernel) (by decide +kernel), bg 55 (by decide +kernel) (by decide +kernel), bg 408 (by decide +kernel) (by decide +kernel), by decide +kernel⟩
theorem ok_X0_dropLast : okV mi_X0_dropLast 0 := ⟨bg 444 (by decide +kernel) (by decide +kernel), bg 445 (by decide +kernel) (by decide +kernel), bg 55 (by decide +kernel) (by decide +kernel), bg 446 (by decide +kernel) (by decide +kernel), by decide +kernel⟩
theorem ok_X0_forget : okV mi_X0_forget 0 := ⟨bg 279 (by decide +kernel) (by decide +kernel), bg 280 (by decide +kernel) (by decide +kernel), bg 55 (by decide +kernel) (by decide +kernel), bg 281 (by decide +kernel) (by decide +kernel), by decide +kernel⟩
theorem ok_X0_takeFrom : okV mi_X0_takeFrom 1 := ⟨bg 418 (by decide +kernel) (by decide +kernel), bg 419 (by decide +kernel) (by decide +kernel), bg 55 (by decide +kernel) (by decide +kernel), bg 420 (by decide +kernel) (by decide +kernel), by decide +kernel⟩
theorem ok_X0_firstFrom : okV mi_X0_firstFrom 1 := ⟨bg 547 (by decide +kernel) (by decide +kernel), bg 548 (by decide +kernel) (by decide +kernel), bg 55 (by decide +kernel) (by decide +kernel), bg 549 (by decide +kernel) (by decide +kernel), by decide +kernel⟩
theorem ok_X1_add : okV mi_X1_add 1 := ⟨bg 377 (by decide +kernel) (by decide +kernel), bg 378 (by decide +kernel) (by decide +kernel), bg 54 (by decide +kernel) (by decide +kernel), bg 379 (by decide +kernel) (by decide +kernel), by decide +kernel⟩
theorem ok_X1_takeFrom : okV mi_X1_takeFrom 1 := ⟨bg 411 (by decide +kernel) (by decide +kernel), bg 412 (by decide +kernel) (by decide +kernel), bg 54 (by decide +kernel) (by decide +kernel), bg 413 (by decide +kernel) (by decide +kernel), by decide +kernel⟩
theorem ok_X1_knows : okV mi_X1_knows 1 := ⟨bg 402 (by decide +kernel) (by decide +kernel), bg 403 (by decide +kernel) (by decide +kernel), bg 54 (by decide +kernel) (by decide +kernel), bg 404 (by decide +kernel) (by decide +kernel), by decide +kernel⟩
theorem ok_X1_allows : okV mi_X1_allows 3 := ⟨bg 398 (by decide +kernel) (by decide +kernel), bg 399 (by decide +kernel) (by decide +kernel), bg 54 (by decide +kernel) (by decide +kernel), bg 400 (by decide +kernel) (by decide +kernel), by decide +kernel⟩
theorem ok_X2_readText : okV mi_X2_readText 0 := ⟨bg 275 (by decide +kernel) (by decide +kernel), bg 276 (by decide +kernel) (by decide +kernel), bg 56 (by decide +kernel) (by decide +kernel), bg 277 (by decide +kernel) (by decide +kernel), by decide +kernel⟩
theorem ok_X2_readItem : okV mi_X2_readItem 0 := ⟨bg 309 (by decide +kernel) (by decide +kernel), bg 3 (by decide +kernel) (by decide +kernel), bg 56 (by decide +kernel) (by decide +kernel), bg 310 (by decide +kernel) (by decide +kernel), by decide +kernel⟩
theorem ok_X2_readPerson : okV mi_X2_readPerson 0 := ⟨bg 366 (by decide +kernel) (by decide +kernel), bg 5 (by decide +kernel) (by decide +kernel), bg 56 (by decide +kernel) (by decide +kernel), bg 367 (by decide +kernel) (by decide +kernel), by decide +kernel⟩
theorem ok_X2_readEvent : okV mi_X2_readEvent 1 := ⟨bg 391 (by decide +kernel) (by decide +kernel), bg 9 (by decide +kernel) (by decide +kernel), bg 56 (by decide +kernel) (by decide +kernel), bg 392 (by decide +kernel) (by decide +kernel), by decide +kernel⟩
theorem ok_X2_readNumber : okV mi_X2_readNumber 2 := ⟨bg 370 (by decide +kernel) (by decide +kernel), bg 6 (by decide +kernel) (by decide +kernel), bg 56 (by decide +kernel) (by decide +kernel), bg 371 (by decide +kernel) (by decide +kernel), by decide +kernel⟩
theorem ok_X2_readStop : okV mi_X2_readStop 0 := ⟨bg 374 (by decide +kernel) (by decide +kernel), bg 7 (by decide +kernel) (by decide +kernel), bg 56 (by decide +kernel) (by decide +kernel), bg 375 (by decide +kernel) (by decide +kernel), by decide +kernel⟩
theorem ok_X2_sortOfWord : okV mi_X2_sortOfWord 0 := ⟨bg 382 (by decide +kernel) (by decide +kernel), bg 8 (by decide +kernel) (by decide +kernel), bg 56 (by decide +kernel) (by decide +kernel), bg 383 (by decide +kernel) (by decide +kernel), by decide +kernel⟩
theorem ok_X2_isWord : okV mi_X2_isWord 1 := ⟨bg 314 (by decide +kernel) (by decide +kernel), bg 4 (by decide +kernel) (by decide +kernel), bg 56 (by decide +kernel) (by decide +kernel), bg 315 (by decide +kernel) (by decide +kernel), by decide +kernel⟩
theorem ok_X2_readToken : okV mi_X2_readToken 0 := ⟨bg 284 (by decide +kernel) (by decide +kernel), bg 0 (by decide +kernel) (by decide +kernel), bg 56 (by decide +kernel) (by decide +kernel), bg 285 (by decide +kernel) (by decide +kernel), by decide +kernel⟩
theorem ok_X2_readWord : okV mi_X2_readWord 0 := ⟨bg 295 (by decide +kernel) (by decide +kernel), bg 1 (by decide +kernel) (by decide +kernel), bg 56 (by decide +kernel) (by decide +kernel), bg 296 (by decide +kernel) (by decide +kernel), by decide +kernel⟩
theorem ok_X2_readDigits : okV mi_X2_readDigits 0 := ⟨bg 302 (by decide +kernel) (by decide +kernel), bg 2 (by decide +kernel) (by decide +kernel), bg 56 (by decide +kernel) (by decide +kernel), bg 303 (by decide +kernel) (by decide +kernel), by decide +kernel⟩
theorem ok_X2_isLetter : okS mi_X2_isLetter 1 := ⟨bg 291 (by decide +kernel) (by decide +kernel), bg 56 (by decide +kernel) (by decide +kernel), bg 292 (by decide +kernel) (by decide +kernel), by decide +kernel⟩
theorem ok_X2_isDigit : okS mi_X2_isDigit 1 := ⟨bg 298 (by decide +kernel) (by decide +kernel), bg 56 (by decide +kernel) (by decide +kernel), bg 299 (by decide +kernel) (by decide +kernel), by decide +kernel⟩
theorem ok_X3_begin : okV mi_X3_begin 2 := ⟨bg 459 (by decide +kernel) (by decide +kernel), bg 460 (by decide +kernel) (by decide +kernel), bg 57 (by decide +kernel) (by decide +kernel), bg 461 (by decide +kernel) (by decide +kernel), by decide +kernel⟩
theorem ok_X3_takeFrom : okV mi_X3_takeFrom 1 := ⟨bg 555 (by decide +kernel) (by decide +kernel), bg 556 (by decide +kernel) (by decide +kernel), bg 57 (by decide +kernel) (by decide +kernel), bg 557 (by decide +kernel) (by decide +kernel), by decide +kernel⟩
theorem ok_X3_play : okV mi_X3_play 4 := ⟨bg 463 (by decide +kernel) (by decide +kernel), bg 464 (by decide +kernel) (by decide +kernel), bg 57 (by decide +kernel) (by decide +kernel), bg 465 (by decide +kernel) (by decide +kernel), by decide +kernel⟩
theorem ok_X3_think : okV mi_X3_think 1 := ⟨bg 471 (by decide +kernel) (by decide +kernel), bg 11 (by decide +kernel) (by decide +kernel), bg 57 (by decide +kernel) (by decide +kernel), bg 472 (by decide +kernel) (by decide +kernel), by decide +kernel⟩
theorem ok_X3_say : okV mi_X3_say 2 := ⟨bg 475 (by decide +kernel) (by decide +kernel), bg 12 (by decide +kernel) (by decide +kernel), bg 57 (by decide +kernel) (by decide +kernel), bg 476 (by decide +kernel) (by decide +kernel), by decide +kernel⟩
theorem ok_X3_choose : okV mi_X3_choose 2 := ⟨bg 560 (by decide +kernel) (by decide +kernel), bg 561 (by decide +kernel) (by decide +kernel), bg 57 (by decide +kernel) (by decide +kernel), bg 562 (by decide +kernel) (by decide +kernel), by decide +kernel⟩
theorem ok_X3_stay : okV mi_X3_stay 2 := ⟨bg 589 (by decide +kernel) (by decide +kernel), bg 590 (by decide +kernel) (by decide +kernel), bg 57 (by decide +kernel) (by decide +kernel), bg 591 (by decide +kernel) (by decide +kernel), by decide +kernel⟩
theorem ok_X3_thoseWithout : okV mi_X3_thoseWithout 0 := ⟨bg 601 (by decide +kernel) (by decide +kernel), bg 602 (by decide +kernel) (by decide +kernel), bg 57 (by decide +kernel) (by decide +kernel), bg 603 (by decide +kernel) (by decide +kernel), by decide +kernel⟩
theorem ok_X3_leastThree : okV mi_X3_leastThree 0 := ⟨bg 478 (by decide +kernel) (by decide +kernel), bg 479 (by decide +kernel) (by decide +kernel), bg 57 (by decide +kernel) (by decide +kernel), bg 480 (by decide +kernel) (by decide +kernel), by decide +kernel⟩
theorem ok_X3_leastThird : okV mi_X3_leastThird 2 := ⟨bg 483 (by decide +kernel) (by decide +kernel), bg 13 (by decide +kernel) (by decide +kernel), bg 57 (by decide +kernel) (by decide +kernel), bg 484 (by decide +kernel) (by decide +kernel), by decide +kernel⟩
theorem ok_X4_add : okV mi_X4_add 1 := ⟨bg 263 (by decide +kernel) (by decide +kernel), bg 264 (by decide +kernel) (by decide +kernel), bg 53 (by decide +kernel) (by decide +kernel), bg 265 (by decide +kernel) (by decide +kernel), by decide +kernel⟩
theorem ok_X4_byteAt : okV mi_X4_byteAt 1 := ⟨bg 287 (by decide +kernel) (by decide +kernel), bg 288 (by decide +kernel) (by decide +kernel), bg 53 (by decide +kernel) (by decide +kernel), bg 289 (by decide +kernel) (by decide +kernel), by decide +kernel⟩
theorem ok_J6_bitCount_0f7a4 : okS mi_J6_bitCount_0f7a4 1 := ⟨bg 506 (by decide +kernel) (by decide +kernel), bg 65 (by decide +kernel) (by decide +kernel), bg 507 (by decide +kernel) (by decide +kernel), by decide +kernel⟩
theorem ok_J9_max_7cf53 : okS mi_J9_max_7cf53 2 := ⟨bg 467 (by decide +kernel) (by decide +kernel), bg 59 (by decide +kernel) (by decide +kernel), bg 468 (by decide +kernel) (by decide +kernel), by decide +kernel⟩
theorem ok_J9_min_7cf53 : okS mi_J9_min_7cf53 2 := ⟨bg 305 (by decide +kernel) (by decide +kernel), bg 59 (by decide +kernel) (by decide +kernel), bg 306 (by decide +kernel) (by decide +kernel), by decide +kernel⟩
theorem ok_J0_charAt_5068e : okV mi_J0_charAt_5068e 1 := ⟨bg 327 (by decide +kernel) (by decide +kernel), bg 328 (by decide +kernel) (by decide +kernel), bg 60 (by decide +kernel) (by decide +kernel), bg 329 (by decide +kernel) (by decide +kernel), by decide +kernel⟩
theorem ok_J0_checkIndex_df160 : okS mi_J0_checkIndex_df160 2 := ⟨bg 338 (by decide +kernel) (by decide +kernel), bg 60 (by decide +kernel) (by decide +kernel), bg 339 (by decide +kernel) (by decide +kernel), by decide +kernel⟩
theorem ok_J0_coder_7d493 : okV mi_J0_coder_7d493 0 := ⟨bg 321 (by decide +kernel) (by decide +kernel), bg 322 (by decide +kernel) (by decide +kernel), bg 60 (by decide +kernel) (by decide +kernel), bg 323 (by decide +kernel) (by decide +kernel), by decide +kernel⟩
theorem ok_J0_isLatin1_aae02 : okV mi_J0_isLatin1_aae02 0 := ⟨bg 331 (by decide +kernel) (by decide +kernel), bg 332 (by decide +kernel) (by decide +kernel), bg 60 (by decide +kernel) (by decide +kernel), bg 333 (by decide +kernel) (by decide +kernel), by decide +kernel⟩
theorem ok_J0_length_8abf5 : okV mi_J0_length_8abf5 0 := ⟨bg 317 (by decide +kernel) (by decide +kernel), bg 318 (by decide +kernel) (by decide +kernel), bg 60 (by decide +kernel) (by decide +kernel), bg 319 (by decide +kernel) (by decide +kernel), by decide +kernel⟩
theorem ok_J1_charAt_3b067 : okS mi_J1_charAt_3b067 2 := ⟨bg 335 (by decide +kernel) (by decide +kernel), bg 61 (by decide +kernel) (by decide +kernel), bg 336 (by decide +kernel) (by decide +kernel), by decide +kernel⟩
theorem ok_J2_charAt_3b067 : okS mi_J2_charAt_3b067 2 := ⟨bg 346 (by decide +kernel) (by decide +kernel), bg 63 (by decide +kernel) (by decide +kernel), bg 347 (by decide +kernel) (by decide +kernel), by decide +kernel⟩
theorem ok_J2_checkIndex_2214a : okS mi_J2_checkIndex_2214a 2 := ⟨bg 349 (by decide +kernel) (by decide +kernel), bg 63 (by decide +kernel) (by decide +kernel), bg 350 (by decide +kernel) (by decide +kernel), by decide +kernel⟩
theorem ok_J2_getChar_3b067 : okS mi_J2_getChar_3b067 2 := ⟨bg 356 (by decide +kernel) (by decide +kernel), bg 63 (by decide +kernel) (by decide +kernel), bg 357 (by decide +kernel) (by decide +kernel), by decide +kernel⟩
theorem ok_J2_length_9d52b : okS mi_J2_length_9d52b 1 := ⟨bg 352 (by decide +kernel) (by decide +kernel), bg 63 (by decide +kernel) (by decide +kernel), bg 353 (by decide +kernel) (by decide +kernel), by decide +kernel⟩
theorem ok_J3_checkIndex_8e157 : okS mi_J3_checkIndex_8e157 3 := ⟨bg 343 (by decide +kernel) (by decide +kernel), bg 62 (by decide +kernel) (by decide +kernel), bg 344 (by decide +kernel) (by decide +kernel), by decide +kernel⟩
theorem ml_X5_70 : Cond.methodLink RX5 70 yX4_add ∈ Big := bg 262 (by decide +kernel) (by decide +kernel)
theorem ml_X5_74 : Cond.methodLink RX5 74 yX2_readText ∈ Big := bg 274 (by decide +kernel) (by decide +kernel)
theorem ml_X5_82 : Cond.methodLink RX5 82 yX1_takeFrom ∈ Big := bg 410 (by decide +kernel) (by decide +kernel)
theorem ml_X5_87 : Cond.methodLink RX5 87 yX0_takeFrom ∈ Big := bg 417 (by decide +kernel) (by decide +kernel)
theorem ml_X5_104 : Cond.methodLink RX5 104 yX1_knows ∈ Big := bg 431 (by decide +kernel) (by decide +kernel)
theorem ml_X5_108 : Cond.methodLink RX5 108 yX1_allows ∈ Big := bg 432 (by decide +kernel) (by decide +kernel)
theorem ml_X5_112 : Cond.methodLink RX5 112 yX0_hasRoomFor ∈ Big := bg 433 (by decide +kernel) (by decide +kernel)
theorem ml_X5_115 : Cond.methodLink RX5 115 yX0_add ∈ Big := bg 434 (by decide +kernel) (by decide +kernel)
theorem ml_X5_121 : Cond.methodLink RX5 121 yX0_dropLast ∈ Big := bg 443 (by decide +kernel) (by decide +kernel)
theorem ml_X5_124 : Cond.methodLink RX5 124 yX5_isThing ∈ Big := bg 451 (by decide +kernel) (by decide +kernel)
theorem ml_X5_127 : Cond.methodLink RX5 127 yX5_tellStory ∈ Big := bg 454 (by decide +kernel) (by decide +kernel)
theorem ml_X5_146 : Cond.methodLink RX5 146 yX5_fewestAgainst ∈ Big := bg 501 (by decide +kernel) (by decide +kernel)
theorem ml_X5_150 : Cond.methodLink RX5 150 yX5_isLawWith ∈ Big := bg 511 (by decide +kernel) (by decide +kernel)
theorem ml_X5_157 : Cond.methodLink RX5 157 yX5_maybesThatCarry ∈ Big := bg 527 (by decide +kernel) (by decide +kernel)
theorem ml_X5_160 : Cond.methodLink RX5 160 yX5_isDay ∈ Big := bg 535 (by decide +kernel) (by decide +kernel)
theorem ml_X5_163 : Cond.methodLink RX5 163 yX5_fewestChosen ∈ Big := bg 538 (by decide +kernel) (by decide +kernel)
theorem ml_X5_167 : Cond.methodLink RX5 167 yX5_tellAhead ∈ Big := bg 542 (by decide +kernel) (by decide +kernel)
theorem ml_X5_170 : Cond.methodLink RX5 170 yX0_firstFrom ∈ Big := bg 546 (by decide +kernel) (by decide +kernel)
theorem ml_X5_173 : Cond.methodLink RX5 173 yX5_isLawByTurns ∈ Big := bg 572 (by decide +kernel) (by decide +kernel)
theorem ml_X5_176 : Cond.methodLink RX5 176 yX5_thingsHadAt ∈ Big := bg 584 (by decide +kernel) (by decide +kernel)
theorem ml_X5_180 : Cond.methodLink RX5 180 yX5_isShare ∈ Big := bg 596 (by decide +kernel) (by decide +kernel)
theorem ml_X5_185 : Cond.methodLink RX5 185 yX3_thoseWithout ∈ Big := bg 600 (by decide +kernel) (by decide +kernel)
theorem ml_X5_188 : Cond.methodLink RX5 188 yX5_isLawIf ∈ Big := bg 550 (by decide +kernel) (by decide +kernel)
theorem ml_X5_192 : Cond.methodLink RX5 192 yJ6_bitCount_0f7a4 ∈ Big := bg 505 (by decide +kernel) (by decide +kernel)
theorem ml_X5_197 : Cond.methodLink RX5 197 yX5_power ∈ Big := bg 604 (by decide +kernel) (by decide +kernel)
theorem ml_X5_201 : Cond.methodLink RX5 201 yX5_commonDivisor ∈ Big := bg 607 (by decide +kernel) (by decide +kernel)
theorem ml_X5_206 : Cond.methodLink RX5 206 yX5_markHeard ∈ Big := bg 615 (by decide +kernel) (by decide +kernel)
theorem ml_X5_209 : Cond.methodLink RX5 209 yX5_markOwn ∈ Big := bg 624 (by decide +kernel) (by decide +kernel)
theorem ml_X5_212 : Cond.methodLink RX5 212 yX5_markSong ∈ Big := bg 629 (by decide +kernel) (by decide +kernel)
theorem ml_X5_216 : Cond.methodLink RX5 216 yX5_markHum ∈ Big := bg 634 (by decide +kernel) (by decide +kernel)
theorem ml_X5_219 : Cond.methodLink RX5 219 yX5_markWritten ∈ Big := bg 639 (by decide +kernel) (by decide +kernel)
theorem ml_X5_222 : Cond.methodLink RX5 222 yX5_markSaying ∈ Big := bg 620 (by decide +kernel) (by decide +kernel)
theorem ml_X5_226 : Cond.methodLink RX5 226 yX3_begin ∈ Big := bg 458 (by decide +kernel) (by decide +kernel)
theorem ml_X5_230 : Cond.methodLink RX5 230 yX3_play ∈ Big := bg 462 (by decide +kernel) (by decide +kernel)
theorem ml_X5_237 : Cond.methodLink RX5 237 yX3_takeFrom ∈ Big := bg 554 (by decide +kernel) (by decide +kernel)
theorem ml_X5_240 : Cond.methodLink RX5 240 yX3_choose ∈ Big := bg 559 (by decide +kernel) (by decide +kernel)
theorem ml_X5_244 : Cond.methodLink RX5 244 yX3_leastThree ∈ Big := bg 563 (by decide +kernel) (by decide +kernel)
theorem ml_X5_247 : Cond.methodLink RX5 247 yX5_isReachedBy ∈ Big := bg 576 (by decide +kernel) (by decide +kernel)
theorem ml_X5_250 : Cond.methodLink RX5 250 yX3_stay ∈ Big := bg 588 (by decide +kernel) (by decide +kernel)
theorem ml_X0_37 : Cond.methodLink RX0 37 yX0_hasRoomFor ∈ Big := bg 409 (by decide +kernel) (by decide +kernel)
theorem ml_X0_41 : Cond.methodLink RX0 41 arraycopyName ∈ Big ∧ Cond.native arraycopyName ∈ Big ∧ Cond.static arraycopyName ∈ Big ∧ Cond.initialized "java/lang/System" ∈ Big := ⟨bg 421 (by decide +kernel) (by decide +kernel), bg 416 (by decide +kernel) (by decide +kernel), bg 415 (by decide +kernel) (by decide +kernel), bg 64 (by decide +kernel) (by decide +kernel)⟩
theorem ml_X1_19 : Cond.methodLink RX1 19 arraycopyName ∈ Big ∧ Cond.native arraycopyName ∈ Big ∧ Cond.static arraycopyName ∈ Big ∧ Cond.initialized "java/lang/System" ∈ Big := ⟨bg 414 (by decide +kernel) (by decide +kernel), bg 416 (by decide +kernel) (by decide +kernel), bg 415 (by decide +kernel) (by decide +kernel), bg 64 (by decide +kernel) (by decide +kernel)⟩
theorem ml_X1_25 : Cond.methodLink RX1 25 yX1_knows ∈ Big := bg 401 (by decide +kernel) (by decide +kernel)
theorem ml_X2_45 : Cond.methodLink RX2 45 yX0_forget ∈ Big := bg 278 (by decide +kernel) (by decide +kernel)
theorem ml_X2_48 : Cond.methodLink RX2 48 yX2_readToken ∈ Big := bg 282 (by decide +kernel) (by decide +kernel)
theorem ml_X2_51 : Cond.methodLink RX2 51 yX2_readItem ∈ Big := bg 307 (by decide +kernel) (by decide +kernel)
theorem ml_X2_57 : Cond.methodLink RX2 57 yX2_isWord ∈ Big := bg 312 (by decide +kernel) (by decide +kernel)
theorem ml_X2_61 : Cond.methodLink RX2 61 yX2_readPerson ∈ Big := bg 364 (by decide +kernel) (by decide +kernel)
theorem ml_X2_64 : Cond.methodLink RX2 64 yX2_sortOfWord ∈ Big := bg 380 (by decide +kernel) (by decide +kernel)
theorem ml_X2_68 : Cond.methodLink RX2 68 yX2_readEvent ∈ Big := bg 389 (by decide +kernel) (by decide +kernel)
theorem ml_X2_72 : Cond.methodLink RX2 72 yX2_readNumber ∈ Big := bg 368 (by decide +kernel) (by decide +kernel)
theorem ml_X2_76 : Cond.methodLink RX2 76 yX2_readStop ∈ Big := bg 372 (by decide +kernel) (by decide +kernel)
theorem ml_X2_79 : Cond.methodLink RX2 79 yX1_add ∈ Big := bg 376 (by decide +kernel) (by decide +kernel)
theorem ml_X2_83 : Cond.methodLink RX2 83 yX0_hasRoomFor ∈ Big := bg 393 (by decide +kernel) (by decide +kernel)
theorem ml_X2_89 : Cond.methodLink RX2 89 yX1_allows ∈ Big := bg 397 (by decide +kernel) (by decide +kernel)
theorem ml_X2_93 : Cond.methodLink RX2 93 yX0_add ∈ Big := bg 405 (by decide +kernel) (by decide +kernel)
theorem ml_X2_106 : Cond.methodLink RX2 106 yJ0_length_8abf5 ∈ Big := bg 316 (by decide +kernel) (by decide +kernel)
theorem ml_X2_111 : Cond.methodLink RX2 111 yX4_byteAt ∈ Big := bg 286 (by decide +kernel) (by decide +kernel)
theorem ml_X2_117 : Cond.methodLink RX2 117 yJ0_charAt_5068e ∈ Big := bg 326 (by decide +kernel) (by decide +kernel)
theorem ml_X2_122 : Cond.methodLink RX2 122 yX2_isLetter ∈ Big := bg 290 (by decide +kernel) (by decide +kernel)
theorem ml_X2_125 : Cond.methodLink RX2 125 yX2_readWord ∈ Big := bg 293 (by decide +kernel) (by decide +kernel)
theorem ml_X2_128 : Cond.methodLink RX2 128 yX2_isDigit ∈ Big := bg 297 (by decide +kernel) (by decide +kernel)
theorem ml_X2_131 : Cond.methodLink RX2 131 yX2_readDigits ∈ Big := bg 300 (by decide +kernel) (by decide +kernel)
theorem ml_X2_134 : Cond.methodLink RX2 134 yJ9_min_7cf53 ∈ Big := bg 304 (by decide +kernel) (by decide +kernel)
theorem ml_X3_43 : Cond.methodLink RX3 43 arraycopyName ∈ Big ∧ Cond.native arraycopyName ∈ Big ∧ Cond.static arraycopyName ∈ Big ∧ Cond.initialized "java/lang/System" ∈ Big := ⟨bg 558 (by decide +kernel) (by decide +kernel), bg 416 (by decide +kernel) (by decide +kernel), bg 415 (by decide +kernel) (by decide +kernel), bg 64 (by decide +kernel) (by decide +kernel)⟩
theorem ml_X3_49 : Cond.methodLink RX3 49 yJ9_max_7cf53 ∈ Big := bg 466 (by decide +kernel) (by decide +kernel)
theorem ml_X3_70 : Cond.methodLink RX3 70 yX3_think ∈ Big := bg 469 (by decide +kernel) (by decide +kernel)
theorem ml_X3_77 : Cond.methodLink RX3 77 yX3_say ∈ Big := bg 473 (by decide +kernel) (by decide +kernel)
theorem ml_X3_81 : Cond.methodLink RX3 81 yX3_leastThree ∈ Big := bg 477 (by decide +kernel) (by decide +kernel)
theorem ml_X3_85 : Cond.methodLink RX3 85 yX3_leastThird ∈ Big := bg 481 (by decide +kernel) (by decide +kernel)
theorem ml_X6_63 : Cond.methodLink RX6 63 yX6_in ∈ Big := bg 765 (by decide +kernel) (by decide +kernel)
theorem ml_X6_76 : Cond.methodLink RX6 76 yX6_here ∈ Big := bg 781 (by decide +kernel) (by decide +kernel)
theorem ml_X6_89 : Cond.methodLink RX6 89 yX6_meaning ∈ Big := bg 785 (by decide +kernel) (by decide +kernel)
theorem ml_X6_96 : Cond.methodLink RX6 96 yX6_next ∈ Big := bg 777 (by decide +kernel) (by decide +kernel)
theorem ml_X6_99 : Cond.methodLink RX6 99 yX6_due ∈ Big := bg 796 (by decide +kernel) (by decide +kernel)
theorem ml_X6_103 : Cond.methodLink RX6 103 yX6_maybesIn ∈ Big := bg 792 (by decide +kernel) (by decide +kernel)
theorem ml_X6_106 : Cond.methodLink RX6 106 yX6_number ∈ Big := bg 800 (by decide +kernel) (by decide +kernel)
theorem ml_X6_110 : Cond.methodLink RX6 110 yX6_readItem ∈ Big := bg 788 (by decide +kernel) (by decide +kernel)
theorem ml_X6_113 : Cond.methodLink RX6 113 yX6_copy ∈ Big := bg 804 (by decide +kernel) (by decide +kernel)
theorem ml_X6_117 : Cond.methodLink RX6 117 yX6_isOne ∈ Big := bg 816 (by decide +kernel) (by decide +kernel)
theorem ml_X6_130 : Cond.methodLink RX6 130 yX6_areApart ∈ Big := bg 859 (by decide +kernel) (by decide +kernel)
theorem ml_X6_140 : Cond.methodLink RX6 140 yX6_think ∈ Big := bg 851 (by decide +kernel) (by decide +kernel)
theorem ml_X6_143 : Cond.methodLink RX6 143 yX6_speak ∈ Big := bg 855 (by decide +kernel) (by decide +kernel)
theorem ml_X6_153 : Cond.methodLink RX6 153 yX6_act ∈ Big := bg 847 (by decide +kernel) (by decide +kernel)
theorem ml_X6_156 : Cond.methodLink RX6 156 yX6_hasAny ∈ Big := bg 863 (by decide +kernel) (by decide +kernel)
theorem ml_X6_159 : Cond.methodLink RX6 159 yX6_goEvent ∈ Big := bg 867 (by decide +kernel) (by decide +kernel)
theorem ml_X6_163 : Cond.methodLink RX6 163 yX6_plain ∈ Big := bg 839 (by decide +kernel) (by decide +kernel)
theorem ml_X6_166 : Cond.methodLink RX6 166 yX6_go ∈ Big := bg 843 (by decide +kernel) (by decide +kernel)
theorem ml_X6_169 : Cond.methodLink RX6 169 yX6_isThing ∈ Big := bg 832 (by decide +kernel) (by decide +kernel)
theorem ml_X6_172 : Cond.methodLink RX6 172 yX6_goPlain ∈ Big := bg 835 (by decide +kernel) (by decide +kernel)
theorem ml_X6_175 : Cond.methodLink RX6 175 yX6_bitsIn ∈ Big := bg 891 (by decide +kernel) (by decide +kernel)
theorem ml_X6_178 : Cond.methodLink RX6 178 yX6_isLaw ∈ Big := bg 894 (by decide +kernel) (by decide +kernel)
theorem ml_X6_182 : Cond.methodLink RX6 182 yX6_fallsBy ∈ Big := bg 887 (by decide +kernel) (by decide +kernel)
theorem ml_X6_185 : Cond.methodLink RX6 185 yX6_isLawBy ∈ Big := bg 918 (by decide +kernel) (by decide +kernel)
theorem ml_X6_188 : Cond.methodLink RX6 188 yX6_fewestBy ∈ Big := bg 914 (by decide +kernel) (by decide +kernel)
theorem ml_X6_192 : Cond.methodLink RX6 192 yX6_isLawByTurns ∈ Big := bg 930 (by decide +kernel) (by decide +kernel)
theorem ml_X6_197 : Cond.methodLink RX6 197 yX6_common ∈ Big := bg 943 (by decide +kernel) (by decide +kernel)
theorem ml_J0_335 : Cond.methodLink RJ0 335 yJ0_coder_7d493 ∈ Big := bg 320 (by decide +kernel) (by decide +kernel)
theorem ml_J0_492 : Cond.methodLink RJ0 492 yJ0_isLatin1_aae02 ∈ Big := bg 330 (by decide +kernel) (by decide +kernel)
theorem ml_J0_495 : Cond.methodLink RJ0 495 yJ1_charAt_3b067 ∈ Big := bg 334 (by decide +kernel) (by decide +kernel)
theorem ml_J0_498 : Cond.methodLink RJ0 498 yJ2_charAt_3b067 ∈ Big := bg 345 (by decide +kernel) (by decide +kernel)
theorem ml_J0_1059 : Cond.methodLink RJ0 1059 yJ3_checkIndex_8e157 ∈ Big := bg 342 (by decide +kernel) (by decide +kernel)
theorem ml_J1_9 : Cond.methodLink RJ1 9 yJ0_checkIndex_df160 ∈ Big := bg 337 (by decide +kernel) (by decide +kernel)
theorem ml_J2_48 : Cond.methodLink RJ2 48 yJ2_length_9d52b ∈ Big := bg 351 (by decide +kernel) (by decide +kernel)
theorem ml_J2_67 : Cond.methodLink RJ2 67 yJ2_checkIndex_2214a ∈ Big := bg 348 (by decide +kernel) (by decide +kernel)
theorem ml_J2_71 : Cond.methodLink RJ2 71 yJ2_getChar_3b067 ∈ Big := bg 355 (by decide +kernel) (by decide +kernel)
theorem ml_J2_414 : Cond.methodLink RJ2 414 yJ0_checkIndex_df160 ∈ Big := bg 354 (by decide +kernel) (by decide +kernel)
theorem ml_L_15 : Cond.methodLink RL 15 yX5_type ∈ Big := bg 258 (by decide +kernel) (by decide +kernel)
theorem ml_L_19 : Cond.methodLink RL 19 yX6_type ∈ Big := bg 761 (by decide +kernel) (by decide +kernel)
theorem ml_L_20 : Cond.methodLink RL 20 yX5_clear ∈ Big := bg 266 (by decide +kernel) (by decide +kernel)
theorem ml_L_24 : Cond.methodLink RL 24 yX6_clear ∈ Big := bg 769 (by decide +kernel) (by decide +kernel)
theorem ml_L_25 : Cond.methodLink RL 25 yX5_tell ∈ Big := bg 270 (by decide +kernel) (by decide +kernel)
theorem ml_L_28 : Cond.methodLink RL 28 yX6_tell ∈ Big := bg 773 (by decide +kernel) (by decide +kernel)
theorem ml_L_29 : Cond.methodLink RL 29 yX5_event ∈ Big := bg 423 (by decide +kernel) (by decide +kernel)
theorem ml_L_33 : Cond.methodLink RL 33 yX6_event ∈ Big := bg 808 (by decide +kernel) (by decide +kernel)
theorem ml_L_34 : Cond.methodLink RL 34 yX5_comes ∈ Big := bg 427 (by decide +kernel) (by decide +kernel)
theorem ml_L_38 : Cond.methodLink RL 38 yX6_comes ∈ Big := bg 812 (by decide +kernel) (by decide +kernel)
theorem ml_L_39 : Cond.methodLink RL 39 yX5_days ∈ Big := bg 435 (by decide +kernel) (by decide +kernel)
theorem ml_L_43 : Cond.methodLink RL 43 yX6_days ∈ Big := bg 820 (by decide +kernel) (by decide +kernel)
theorem ml_L_44 : Cond.methodLink RL 44 yX5_undo ∈ Big := bg 439 (by decide +kernel) (by decide +kernel)
theorem ml_L_47 : Cond.methodLink RL 47 yX6_undo ∈ Big := bg 824 (by decide +kernel) (by decide +kernel)
theorem ml_L_48 : Cond.methodLink RL 48 yX5_origins ∈ Big := bg 447 (by decide +kernel) (by decide +kernel)
theorem ml_L_51 : Cond.methodLink RL 51 yX6_origins ∈ Big := bg 828 (by decide +kernel) (by decide +kernel)
theorem ml_L_52 : Cond.methodLink RL 52 yX5_voice ∈ Big := bg 485 (by decide +kernel) (by decide +kernel)
theorem ml_L_55 : Cond.methodLink RL 55 yX6_voice ∈ Big := bg 871 (by decide +kernel) (by decide +kernel)
theorem ml_L_56 : Cond.methodLink RL 56 yX5_law ∈ Big := bg 489 (by decide +kernel) (by decide +kernel)
theorem ml_L_59 : Cond.methodLink RL 59 yX6_law ∈ Big := bg 875 (by decide +kernel) (by decide +kernel)
theorem ml_L_60 : Cond.methodLink RL 60 yX5_place ∈ Big := bg 493 (by decide +kernel) (by decide +kernel)
theorem ml_L_63 : Cond.methodLink RL 63 yX6_place ∈ Big := bg 879 (by decide +kernel) (by decide +kernel)
theorem ml_L_64 : Cond.methodLink RL 64 yX5_stands ∈ Big := bg 497 (by decide +kernel) (by decide +kernel)
theorem ml_L_67 : Cond.methodLink RL 67 yX6_stands ∈ Big := bg 883 (by decide +kernel) (by decide +kernel)
theorem ml_L_68 : Cond.methodLink RL 68 yX5_falls ∈ Big := bg 515 (by decide +kernel) (by decide +kernel)
theorem ml_L_71 : Cond.methodLink RL 71 yX6_falls ∈ Big := bg 898 (by decide +kernel) (by decide +kernel)
theorem ml_L_72 : Cond.methodLink RL 72 yX5_alone ∈ Big := bg 519 (by decide +kernel) (by decide +kernel)
theorem ml_L_75 : Cond.methodLink RL 75 yX6_alone ∈ Big := bg 902 (by decide +kernel) (by decide +kernel)
theorem ml_L_76 : Cond.methodLink RL 76 yX5_empty ∈ Big := bg 523 (by decide +kernel) (by decide +kernel)
theorem ml_L_79 : Cond.methodLink RL 79 yX6_empty ∈ Big := bg 906 (by decide +kernel) (by decide +kernel)
theorem ml_L_80 : Cond.methodLink RL 80 yX5_hints ∈ Big := bg 531 (by decide +kernel) (by decide +kernel)
theorem ml_L_83 : Cond.methodLink RL 83 yX6_hints ∈ Big := bg 910 (by decide +kernel) (by decide +kernel)
theorem ml_L_84 : Cond.methodLink RL 84 yX5_hinder ∈ Big := bg 564 (by decide +kernel) (by decide +kernel)
theorem ml_L_87 : Cond.methodLink RL 87 yX6_hinder ∈ Big := bg 922 (by decide +kernel) (by decide +kernel)
theorem ml_L_88 : Cond.methodLink RL 88 yX5_turns ∈ Big := bg 568 (by decide +kernel) (by decide +kernel)
theorem ml_L_91 : Cond.methodLink RL 91 yX6_turns ∈ Big := bg 926 (by decide +kernel) (by decide +kernel)
theorem ml_L_92 : Cond.methodLink RL 92 yX5_keepAt ∈ Big := bg 580 (by decide +kernel) (by decide +kernel)
theorem ml_L_95 : Cond.methodLink RL 95 yX6_keepAt ∈ Big := bg 934 (by decide +kernel) (by decide +kernel)
theorem ml_L_96 : Cond.methodLink RL 96 yX5_chance ∈ Big := bg 592 (by decide +kernel) (by decide +kernel)
theorem ml_L_100 : Cond.methodLink RL 100 yX6_chance ∈ Big := bg 938 (by decide +kernel) (by decide +kernel)
theorem ml_L_101 : Cond.methodLink RL 101 yX5_mark ∈ Big := bg 610 (by decide +kernel) (by decide +kernel)
theorem ml_L_104 : Cond.methodLink RL 104 yX6_mark ∈ Big := bg 946 (by decide +kernel) (by decide +kernel)
theorem ml_L_105 : Cond.methodLink RL 105 yX5_keep ∈ Big := bg 644 (by decide +kernel) (by decide +kernel)
theorem ml_L_108 : Cond.methodLink RL 108 yX6_keep ∈ Big := bg 956 (by decide +kernel) (by decide +kernel)
theorem ml_L_109 : Cond.methodLink RL 109 yX5_back ∈ Big := bg 648 (by decide +kernel) (by decide +kernel)
theorem ml_L_112 : Cond.methodLink RL 112 yX6_back ∈ Big := bg 960 (by decide +kernel) (by decide +kernel)
theorem ml_L_113 : Cond.methodLink RL 113 yX5_count ∈ Big := bg 652 (by decide +kernel) (by decide +kernel)
theorem ml_L_116 : Cond.methodLink RL 116 yX6_count ∈ Big := bg 964 (by decide +kernel) (by decide +kernel)
theorem ml_L_117 : Cond.methodLink RL 117 yX5_trace ∈ Big := bg 656 (by decide +kernel) (by decide +kernel)
theorem ml_L_121 : Cond.methodLink RL 121 yX6_trace ∈ Big := bg 968 (by decide +kernel) (by decide +kernel)
theorem kc_J6_265 : Cond.constant RJ6 265 (1431655765 : Int32) ∈ Big := bg 508 (by decide +kernel) (by decide +kernel)
theorem kc_J6_266 : Cond.constant RJ6 266 (858993459 : Int32) ∈ Big := bg 509 (by decide +kernel) (by decide +kernel)
theorem kc_J6_267 : Cond.constant RJ6 267 (252645135 : Int32) ∈ Big := bg 510 (by decide +kernel) (by decide +kernel)
theorem kc_X5_183 : Cond.constantLong RX5 183 (-1 : Int64) ∈ Big := bg 599 (by decide +kernel) (by decide +kernel)
theorem kc_X5_205 : Cond.constant RX5 205 (-1000000 : Int32) ∈ Big := bg 614 (by decide +kernel) (by decide +kernel)
theorem kc_X5_253 : Cond.constantLong RX5 253 (10 : Int64) ∈ Big := bg 619 (by decide +kernel) (by decide +kernel)
theorem kc_X5_255 : Cond.constantLong RX5 255 (100 : Int64) ∈ Big := bg 628 (by decide +kernel) (by decide +kernel)
theorem kc_X5_257 : Cond.constantLong RX5 257 (1000 : Int64) ∈ Big := bg 633 (by decide +kernel) (by decide +kernel)
theorem kc_X5_259 : Cond.constantLong RX5 259 (10000 : Int64) ∈ Big := bg 638 (by decide +kernel) (by decide +kernel)
theorem kc_X5_261 : Cond.constantLong RX5 261 (100000 : Int64) ∈ Big := bg 643 (by decide +kernel) (by decide +kernel)
theorem kc_X6_71 : Cond.constantLong RX6 71 (255 : Int64) ∈ Big := bg 768 (by decide +kernel) (by decide +kernel)
theorem kc_X6_195 : Cond.constantLong RX6 195 (-1 : Int64) ∈ Big := bg 942 (by decide +kernel) (by decide +kernel)
theorem kc_X6_201 : Cond.constant RX6 201 (-1000000 : Int32) ∈ Big := bg 950 (by decide +kernel) (by decide +kernel)
theorem kc_X6_206 : Cond.constantLong RX6 206 (11 : Int64) ∈ Big := bg 951 (by decide +kernel) (by decide +kernel)
theorem kc_X6_208 : Cond.constantLong RX6 208 (101 : Int64) ∈ Big := bg 952 (by decide +kernel) (by decide +kernel)
theorem kc_X6_210 : Cond.constantLong RX6 210 (1011 : Int64) ∈ Big := bg 953 (by decide +kernel) (by decide +kernel)
theorem kc_X6_212 : Cond.constantLong RX6 212 (10101 : Int64) ∈ Big := bg 954 (by decide +kernel) (by decide +kernel)
theorem kc_X6_214 : Cond.constantLong RX6 214 (100001 : Int64) ∈ Big := bg 955 (by decide +kernel) (by decide +kernel)
theorem kc_L_13 : Cond.constantLong RL 13 (4294967295 : Int64) ∈ Big := bg 972 (by decide +kernel) (by decide +kernel)
theorem ic_m1 : Int32.ofInt (-1) = -1 := by decide
theorem ic_0 : Int32.ofInt (0) = 0 := by decide
theorem ic_1 : Int32.ofInt (1) = 1 := by decide
theorem ic_2 : Int32.ofInt (2) = 2 := by decide
theorem ic_3 : Int32.ofInt (3) = 3 := by decide
theorem ic_4 : Int32.ofInt (4) = 4 := by decide
theorem ic_5 : Int32.ofInt (5) = 5 := by decide
theorem bp_m10 : (Int8.ofInt (-10)).toInt32 = -10 := by decide
theorem bp_m9 : (Int8.ofInt (-9)).toInt32 = -9 := by decide
theorem bp_m3 : (Int8.ofInt (-3)).toInt32 = -3 := by decide
theorem bp_m2 : (Int8.ofInt (-2)).toInt32 = -2 := by decide
theorem bp_6 : (Int8.ofInt (6)).toInt32 = 6 := by decide
theorem bp_7 : (Int8.ofInt (7)).toInt32 = 7 := by decide
theorem bp_8 : (Int8.ofInt (8)).toInt32 = 8 := by decide
theorem bp_9 : (Int8.ofInt (9)).toInt32 = 9 := by decide
theorem bp_10 : (Int8.ofInt (10)).toInt32 = 10 := by decide
theorem bp_16 : (Int8.ofInt (16)).toInt32 = 16 := by decide
theorem bp_27 : (Int8.ofInt (27)).toInt32 = 27 := by decide
theorem bp_32 : (Int8.ofInt (32)).toInt32 = 32 := by decide
theorem bp_40 : (Int8.ofInt (40)).toInt32 = 40 := by decide
theorem bp_48 : (Int8.ofInt (48)).toInt32 = 48 := by decide
theorem bp_57 : (Int8.ofInt (57)).toInt32 = 57 := by decide
theorem bp_59 : (Int8.ofInt (59)).toInt32 = 59 := by decide
theorem bp_63 : (Int8.ofInt (63)).toInt32 = 63 := by decide
theorem bp_96 : (Int8.ofInt (96)).toInt32 = 96 := by decide
theorem bp_97 : (Int8.ofInt (97)).toInt32 = 97 := by decide
theorem bp_99 : (Int8.ofInt (99)).toInt32 = 99 := by decide
theorem bp_100 : (Int8.ofInt (100)).toInt32 = 100 := by decide
theorem bp_122 : (Int8.ofInt (122)).toInt32 = 122 := by decide
theorem sp_160 : (Int16.ofInt (160)).toInt32 = 160 := by decide
theorem sp_255 : (Int16.ofInt (255)).toInt32 = 255 := by decide
theorem sp_256 : (Int16.ofInt (256)).toInt32 = 256 := by decide
theorem sp_400 : (Int16.ofInt (400)).toInt32 = 400 := by decide
theorem sp_6561 : (Int16.ofInt (6561)).toInt32 = 6561 := by decide
theorem lc_0 : Int64.ofNat ((0 : Fin 2) : Nat) = 0 := by decide
theorem lc_1 : Int64.ofNat ((1 : Fin 2) : Nat) = 1 := by decide
end
