/-- a private method of a class that the tables say can be made, by its rows of tables_1 -/
def lw_okq (q : MethodName × Nat) : Prop := (q.1.cls ≠ "java/lang/invoke/MethodHandle" ∧ q.1.cls ≠ "java/lang/invoke/VarHandle") ∧ Cond.instantiable q.1.cls q.2 ∈ tables_1 ∧ Cond.privateMethod q.1 ∈ tables_1 ∧ Cond.instanceMethod q.1 ∈ tables_1
theorem lw_p0 : lw_okq (⟨"ThreeVoices$Reader", "readToken", "()V"⟩, 7) := ⟨⟨by decide +kernel, by decide +kernel⟩, List.mem_of_getElem? (i := 103) (by decide +kernel), List.mem_of_getElem? (i := 232) (by decide +kernel), List.mem_of_getElem? (i := 233) (by decide +kernel)⟩
theorem lw_p1 : lw_okq (⟨"ThreeVoices$Reader", "readWord", "()V"⟩, 7) := ⟨⟨by decide +kernel, by decide +kernel⟩, List.mem_of_getElem? (i := 103) (by decide +kernel), List.mem_of_getElem? (i := 243) (by decide +kernel), List.mem_of_getElem? (i := 244) (by decide +kernel)⟩
theorem lw_p2 : lw_okq (⟨"ThreeVoices$Reader", "readDigits", "()V"⟩, 7) := ⟨⟨by decide +kernel, by decide +kernel⟩, List.mem_of_getElem? (i := 103) (by decide +kernel), List.mem_of_getElem? (i := 250) (by decide +kernel), List.mem_of_getElem? (i := 251) (by decide +kernel)⟩
theorem lw_p3 : lw_okq (⟨"ThreeVoices$Reader", "readItem", "()Z"⟩, 7) := ⟨⟨by decide +kernel, by decide +kernel⟩, List.mem_of_getElem? (i := 103) (by decide +kernel), List.mem_of_getElem? (i := 257) (by decide +kernel), List.mem_of_getElem? (i := 258) (by decide +kernel)⟩
theorem lw_p4 : lw_okq (⟨"ThreeVoices$Reader", "isWord", "(Ljava/lang/String;)Z"⟩, 7) := ⟨⟨by decide +kernel, by decide +kernel⟩, List.mem_of_getElem? (i := 103) (by decide +kernel), List.mem_of_getElem? (i := 262) (by decide +kernel), List.mem_of_getElem? (i := 263) (by decide +kernel)⟩
theorem lw_p5 : lw_okq (⟨"ThreeVoices$Reader", "readPerson", "()Z"⟩, 7) := ⟨⟨by decide +kernel, by decide +kernel⟩, List.mem_of_getElem? (i := 103) (by decide +kernel), List.mem_of_getElem? (i := 314) (by decide +kernel), List.mem_of_getElem? (i := 315) (by decide +kernel)⟩
theorem lw_p6 : lw_okq (⟨"ThreeVoices$Reader", "readNumber", "(II)Z"⟩, 7) := ⟨⟨by decide +kernel, by decide +kernel⟩, List.mem_of_getElem? (i := 103) (by decide +kernel), List.mem_of_getElem? (i := 318) (by decide +kernel), List.mem_of_getElem? (i := 319) (by decide +kernel)⟩
theorem lw_p7 : lw_okq (⟨"ThreeVoices$Reader", "readStop", "()Z"⟩, 7) := ⟨⟨by decide +kernel, by decide +kernel⟩, List.mem_of_getElem? (i := 103) (by decide +kernel), List.mem_of_getElem? (i := 322) (by decide +kernel), List.mem_of_getElem? (i := 323) (by decide +kernel)⟩
theorem lw_p8 : lw_okq (⟨"ThreeVoices$Reader", "sortOfWord", "()I"⟩, 7) := ⟨⟨by decide +kernel, by decide +kernel⟩, List.mem_of_getElem? (i := 103) (by decide +kernel), List.mem_of_getElem? (i := 330) (by decide +kernel), List.mem_of_getElem? (i := 331) (by decide +kernel)⟩
theorem lw_p9 : lw_okq (⟨"ThreeVoices$Reader", "readEvent", "(I)Z"⟩, 7) := ⟨⟨by decide +kernel, by decide +kernel⟩, List.mem_of_getElem? (i := 103) (by decide +kernel), List.mem_of_getElem? (i := 339) (by decide +kernel), List.mem_of_getElem? (i := 340) (by decide +kernel)⟩
theorem lw_p10 : lw_okq (⟨"ThreeVoices", "tellStory", "(II)V"⟩, 11) := ⟨⟨by decide +kernel, by decide +kernel⟩, List.mem_of_getElem? (i := 16) (by decide +kernel), List.mem_of_getElem? (i := 404) (by decide +kernel), List.mem_of_getElem? (i := 405) (by decide +kernel)⟩
theorem lw_p11 : lw_okq (⟨"ThreeVoices$Story", "think", "(I)V"⟩, 8) := ⟨⟨by decide +kernel, by decide +kernel⟩, List.mem_of_getElem? (i := 138) (by decide +kernel), List.mem_of_getElem? (i := 419) (by decide +kernel), List.mem_of_getElem? (i := 420) (by decide +kernel)⟩
theorem lw_p12 : lw_okq (⟨"ThreeVoices$Story", "say", "(II)V"⟩, 8) := ⟨⟨by decide +kernel, by decide +kernel⟩, List.mem_of_getElem? (i := 138) (by decide +kernel), List.mem_of_getElem? (i := 423) (by decide +kernel), List.mem_of_getElem? (i := 424) (by decide +kernel)⟩
theorem lw_p13 : lw_okq (⟨"ThreeVoices$Story", "leastThird", "(II)I"⟩, 8) := ⟨⟨by decide +kernel, by decide +kernel⟩, List.mem_of_getElem? (i := 138) (by decide +kernel), List.mem_of_getElem? (i := 431) (by decide +kernel), List.mem_of_getElem? (i := 432) (by decide +kernel)⟩
theorem lw_p14 : lw_okq (⟨"ThreeVoices", "fewestAgainst", "(I)I"⟩, 11) := ⟨⟨by decide +kernel, by decide +kernel⟩, List.mem_of_getElem? (i := 16) (by decide +kernel), List.mem_of_getElem? (i := 451) (by decide +kernel), List.mem_of_getElem? (i := 452) (by decide +kernel)⟩
theorem lw_p15 : lw_okq (⟨"ThreeVoices", "isLawWith", "(II)Z"⟩, 11) := ⟨⟨by decide +kernel, by decide +kernel⟩, List.mem_of_getElem? (i := 16) (by decide +kernel), List.mem_of_getElem? (i := 461) (by decide +kernel), List.mem_of_getElem? (i := 462) (by decide +kernel)⟩
def lw_privs_1 : List (MethodName × Nat) := [(⟨"ThreeVoices$Reader", "readToken", "()V"⟩, 7), (⟨"ThreeVoices$Reader", "readWord", "()V"⟩, 7), (⟨"ThreeVoices$Reader", "readDigits", "()V"⟩, 7), (⟨"ThreeVoices$Reader", "readItem", "()Z"⟩, 7), (⟨"ThreeVoices$Reader", "isWord", "(Ljava/lang/String;)Z"⟩, 7), (⟨"ThreeVoices$Reader", "readPerson", "()Z"⟩, 7), (⟨"ThreeVoices$Reader", "readNumber", "(II)Z"⟩, 7), (⟨"ThreeVoices$Reader", "readStop", "()Z"⟩, 7), (⟨"ThreeVoices$Reader", "sortOfWord", "()I"⟩, 7), (⟨"ThreeVoices$Reader", "readEvent", "(I)Z"⟩, 7), (⟨"ThreeVoices", "tellStory", "(II)V"⟩, 11), (⟨"ThreeVoices$Story", "think", "(I)V"⟩, 8), (⟨"ThreeVoices$Story", "say", "(II)V"⟩, 8), (⟨"ThreeVoices$Story", "leastThird", "(II)I"⟩, 8), (⟨"ThreeVoices", "fewestAgainst", "(I)I"⟩, 11), (⟨"ThreeVoices", "isLawWith", "(II)Z"⟩, 11)]
theorem lw_r1 : ∀ q ∈ lw_privs_1, lw_okq q := List.forall_mem_cons.mpr ⟨lw_p0, List.forall_mem_cons.mpr ⟨lw_p1, List.forall_mem_cons.mpr ⟨lw_p2, List.forall_mem_cons.mpr ⟨lw_p3, List.forall_mem_cons.mpr ⟨lw_p4, List.forall_mem_cons.mpr ⟨lw_p5, List.forall_mem_cons.mpr ⟨lw_p6, List.forall_mem_cons.mpr ⟨lw_p7, List.forall_mem_cons.mpr ⟨lw_p8, List.forall_mem_cons.mpr ⟨lw_p9, List.forall_mem_cons.mpr ⟨lw_p10, List.forall_mem_cons.mpr ⟨lw_p11, List.forall_mem_cons.mpr ⟨lw_p12, List.forall_mem_cons.mpr ⟨lw_p13, List.forall_mem_cons.mpr ⟨lw_p14, List.forall_mem_cons.mpr ⟨lw_p15, fun _ h => absurd h List.not_mem_nil⟩⟩⟩⟩⟩⟩⟩⟩⟩⟩⟩⟩⟩⟩⟩⟩
theorem lw_p16 : lw_okq (⟨"ThreeVoices", "maybesThatCarry", "(I)I"⟩, 11) := ⟨⟨by decide +kernel, by decide +kernel⟩, List.mem_of_getElem? (i := 16) (by decide +kernel), List.mem_of_getElem? (i := 477) (by decide +kernel), List.mem_of_getElem? (i := 478) (by decide +kernel)⟩
theorem lw_p17 : lw_okq (⟨"ThreeVoices", "fewestChosen", "(IIZ)I"⟩, 11) := ⟨⟨by decide +kernel, by decide +kernel⟩, List.mem_of_getElem? (i := 16) (by decide +kernel), List.mem_of_getElem? (i := 488) (by decide +kernel), List.mem_of_getElem? (i := 489) (by decide +kernel)⟩
theorem lw_p18 : lw_okq (⟨"ThreeVoices", "tellAhead", "(II)V"⟩, 11) := ⟨⟨by decide +kernel, by decide +kernel⟩, List.mem_of_getElem? (i := 16) (by decide +kernel), List.mem_of_getElem? (i := 492) (by decide +kernel), List.mem_of_getElem? (i := 493) (by decide +kernel)⟩
theorem lw_p19 : lw_okq (⟨"ThreeVoices", "isLawIf", "(IZI)Z"⟩, 11) := ⟨⟨by decide +kernel, by decide +kernel⟩, List.mem_of_getElem? (i := 16) (by decide +kernel), List.mem_of_getElem? (i := 500) (by decide +kernel), List.mem_of_getElem? (i := 501) (by decide +kernel)⟩
theorem lw_p20 : lw_okq (⟨"ThreeVoices", "isLawByTurns", "(II)Z"⟩, 11) := ⟨⟨by decide +kernel, by decide +kernel⟩, List.mem_of_getElem? (i := 16) (by decide +kernel), List.mem_of_getElem? (i := 522) (by decide +kernel), List.mem_of_getElem? (i := 523) (by decide +kernel)⟩
theorem lw_p21 : lw_okq (⟨"ThreeVoices", "isReachedBy", "(III)Z"⟩, 11) := ⟨⟨by decide +kernel, by decide +kernel⟩, List.mem_of_getElem? (i := 16) (by decide +kernel), List.mem_of_getElem? (i := 526) (by decide +kernel), List.mem_of_getElem? (i := 527) (by decide +kernel)⟩
theorem lw_p22 : lw_okq (⟨"ThreeVoices", "thingsHadAt", "(III)I"⟩, 11) := ⟨⟨by decide +kernel, by decide +kernel⟩, List.mem_of_getElem? (i := 16) (by decide +kernel), List.mem_of_getElem? (i := 534) (by decide +kernel), List.mem_of_getElem? (i := 535) (by decide +kernel)⟩
theorem lw_p23 : lw_okq (⟨"ThreeVoices", "markHeard", "(I)I"⟩, 11) := ⟨⟨by decide +kernel, by decide +kernel⟩, List.mem_of_getElem? (i := 16) (by decide +kernel), List.mem_of_getElem? (i := 565) (by decide +kernel), List.mem_of_getElem? (i := 566) (by decide +kernel)⟩
theorem lw_p24 : lw_okq (⟨"ThreeVoices", "markSaying", "(I)I"⟩, 11) := ⟨⟨by decide +kernel, by decide +kernel⟩, List.mem_of_getElem? (i := 16) (by decide +kernel), List.mem_of_getElem? (i := 570) (by decide +kernel), List.mem_of_getElem? (i := 571) (by decide +kernel)⟩
theorem lw_p25 : lw_okq (⟨"ThreeVoices", "markOwn", "(I)I"⟩, 11) := ⟨⟨by decide +kernel, by decide +kernel⟩, List.mem_of_getElem? (i := 16) (by decide +kernel), List.mem_of_getElem? (i := 574) (by decide +kernel), List.mem_of_getElem? (i := 575) (by decide +kernel)⟩
theorem lw_p26 : lw_okq (⟨"ThreeVoices", "markSong", "(II)I"⟩, 11) := ⟨⟨by decide +kernel, by decide +kernel⟩, List.mem_of_getElem? (i := 16) (by decide +kernel), List.mem_of_getElem? (i := 579) (by decide +kernel), List.mem_of_getElem? (i := 580) (by decide +kernel)⟩
theorem lw_p27 : lw_okq (⟨"ThreeVoices", "markHum", "(I)I"⟩, 11) := ⟨⟨by decide +kernel, by decide +kernel⟩, List.mem_of_getElem? (i := 16) (by decide +kernel), List.mem_of_getElem? (i := 584) (by decide +kernel), List.mem_of_getElem? (i := 585) (by decide +kernel)⟩
theorem lw_p28 : lw_okq (⟨"ThreeVoices", "markWritten", "(I)I"⟩, 11) := ⟨⟨by decide +kernel, by decide +kernel⟩, List.mem_of_getElem? (i := 16) (by decide +kernel), List.mem_of_getElem? (i := 589) (by decide +kernel), List.mem_of_getElem? (i := 590) (by decide +kernel)⟩
theorem lw_p29 : lw_okq (⟨"ThreeVoicesModel", "next", "()V"⟩, 31) := ⟨⟨by decide +kernel, by decide +kernel⟩, List.mem_of_getElem? (i := 610) (by decide +kernel), List.mem_of_getElem? (i := 727) (by decide +kernel), List.mem_of_getElem? (i := 728) (by decide +kernel)⟩
theorem lw_p30 : lw_okq (⟨"ThreeVoicesModel", "here", "()I"⟩, 31) := ⟨⟨by decide +kernel, by decide +kernel⟩, List.mem_of_getElem? (i := 610) (by decide +kernel), List.mem_of_getElem? (i := 731) (by decide +kernel), List.mem_of_getElem? (i := 732) (by decide +kernel)⟩
theorem lw_p31 : lw_okq (⟨"ThreeVoicesModel", "readItem", "()V"⟩, 31) := ⟨⟨by decide +kernel, by decide +kernel⟩, List.mem_of_getElem? (i := 610) (by decide +kernel), List.mem_of_getElem? (i := 738) (by decide +kernel), List.mem_of_getElem? (i := 739) (by decide +kernel)⟩
def lw_privs_2 : List (MethodName × Nat) := [(⟨"ThreeVoices", "maybesThatCarry", "(I)I"⟩, 11), (⟨"ThreeVoices", "fewestChosen", "(IIZ)I"⟩, 11), (⟨"ThreeVoices", "tellAhead", "(II)V"⟩, 11), (⟨"ThreeVoices", "isLawIf", "(IZI)Z"⟩, 11), (⟨"ThreeVoices", "isLawByTurns", "(II)Z"⟩, 11), (⟨"ThreeVoices", "isReachedBy", "(III)Z"⟩, 11), (⟨"ThreeVoices", "thingsHadAt", "(III)I"⟩, 11), (⟨"ThreeVoices", "markHeard", "(I)I"⟩, 11), (⟨"ThreeVoices", "markSaying", "(I)I"⟩, 11), (⟨"ThreeVoices", "markOwn", "(I)I"⟩, 11), (⟨"ThreeVoices", "markSong", "(II)I"⟩, 11), (⟨"ThreeVoices", "markHum", "(I)I"⟩, 11), (⟨"ThreeVoices", "markWritten", "(I)I"⟩, 11), (⟨"ThreeVoicesModel", "next", "()V"⟩, 31), (⟨"ThreeVoicesModel", "here", "()I"⟩, 31), (⟨"ThreeVoicesModel", "readItem", "()V"⟩, 31)]
theorem lw_r2 : ∀ q ∈ lw_privs_2, lw_okq q := List.forall_mem_cons.mpr ⟨lw_p16, List.forall_mem_cons.mpr ⟨lw_p17, List.forall_mem_cons.mpr ⟨lw_p18, List.forall_mem_cons.mpr ⟨lw_p19, List.forall_mem_cons.mpr ⟨lw_p20, List.forall_mem_cons.mpr ⟨lw_p21, List.forall_mem_cons.mpr ⟨lw_p22, List.forall_mem_cons.mpr ⟨lw_p23, List.forall_mem_cons.mpr ⟨lw_p24, List.forall_mem_cons.mpr ⟨lw_p25, List.forall_mem_cons.mpr ⟨lw_p26, List.forall_mem_cons.mpr ⟨lw_p27, List.forall_mem_cons.mpr ⟨lw_p28, List.forall_mem_cons.mpr ⟨lw_p29, List.forall_mem_cons.mpr ⟨lw_p30, List.forall_mem_cons.mpr ⟨lw_p31, fun _ h => absurd h List.not_mem_nil⟩⟩⟩⟩⟩⟩⟩⟩⟩⟩⟩⟩⟩⟩⟩⟩
theorem lw_p32 : lw_okq (⟨"ThreeVoicesModel", "maybesIn", "(I)I"⟩, 31) := ⟨⟨by decide +kernel, by decide +kernel⟩, List.mem_of_getElem? (i := 610) (by decide +kernel), List.mem_of_getElem? (i := 742) (by decide +kernel), List.mem_of_getElem? (i := 743) (by decide +kernel)⟩
theorem lw_p33 : lw_okq (⟨"ThreeVoicesModel", "due", "(Z)I"⟩, 31) := ⟨⟨by decide +kernel, by decide +kernel⟩, List.mem_of_getElem? (i := 610) (by decide +kernel), List.mem_of_getElem? (i := 746) (by decide +kernel), List.mem_of_getElem? (i := 747) (by decide +kernel)⟩
theorem lw_p34 : lw_okq (⟨"ThreeVoicesModel", "number", "(II)I"⟩, 31) := ⟨⟨by decide +kernel, by decide +kernel⟩, List.mem_of_getElem? (i := 610) (by decide +kernel), List.mem_of_getElem? (i := 750) (by decide +kernel), List.mem_of_getElem? (i := 751) (by decide +kernel)⟩
theorem lw_p35 : lw_okq (⟨"ThreeVoicesModel", "copy", "(II)V"⟩, 31) := ⟨⟨by decide +kernel, by decide +kernel⟩, List.mem_of_getElem? (i := 610) (by decide +kernel), List.mem_of_getElem? (i := 754) (by decide +kernel), List.mem_of_getElem? (i := 755) (by decide +kernel)⟩
theorem lw_p36 : lw_okq (⟨"ThreeVoicesModel", "isOne", "(I)Z"⟩, 31) := ⟨⟨by decide +kernel, by decide +kernel⟩, List.mem_of_getElem? (i := 610) (by decide +kernel), List.mem_of_getElem? (i := 766) (by decide +kernel), List.mem_of_getElem? (i := 767) (by decide +kernel)⟩
theorem lw_p37 : lw_okq (⟨"ThreeVoicesModel", "goPlain", "(I)V"⟩, 31) := ⟨⟨by decide +kernel, by decide +kernel⟩, List.mem_of_getElem? (i := 610) (by decide +kernel), List.mem_of_getElem? (i := 785) (by decide +kernel), List.mem_of_getElem? (i := 786) (by decide +kernel)⟩
theorem lw_p38 : lw_okq (⟨"ThreeVoicesModel", "plain", "()V"⟩, 31) := ⟨⟨by decide +kernel, by decide +kernel⟩, List.mem_of_getElem? (i := 610) (by decide +kernel), List.mem_of_getElem? (i := 789) (by decide +kernel), List.mem_of_getElem? (i := 790) (by decide +kernel)⟩
theorem lw_p39 : lw_okq (⟨"ThreeVoicesModel", "go", "(I)V"⟩, 31) := ⟨⟨by decide +kernel, by decide +kernel⟩, List.mem_of_getElem? (i := 610) (by decide +kernel), List.mem_of_getElem? (i := 793) (by decide +kernel), List.mem_of_getElem? (i := 794) (by decide +kernel)⟩
theorem lw_p40 : lw_okq (⟨"ThreeVoicesModel", "act", "()V"⟩, 31) := ⟨⟨by decide +kernel, by decide +kernel⟩, List.mem_of_getElem? (i := 610) (by decide +kernel), List.mem_of_getElem? (i := 797) (by decide +kernel), List.mem_of_getElem? (i := 798) (by decide +kernel)⟩
theorem lw_p41 : lw_okq (⟨"ThreeVoicesModel", "think", "(II)V"⟩, 31) := ⟨⟨by decide +kernel, by decide +kernel⟩, List.mem_of_getElem? (i := 610) (by decide +kernel), List.mem_of_getElem? (i := 801) (by decide +kernel), List.mem_of_getElem? (i := 802) (by decide +kernel)⟩
theorem lw_p42 : lw_okq (⟨"ThreeVoicesModel", "speak", "(III)V"⟩, 31) := ⟨⟨by decide +kernel, by decide +kernel⟩, List.mem_of_getElem? (i := 610) (by decide +kernel), List.mem_of_getElem? (i := 805) (by decide +kernel), List.mem_of_getElem? (i := 806) (by decide +kernel)⟩
theorem lw_p43 : lw_okq (⟨"ThreeVoicesModel", "areApart", "(IIII)Z"⟩, 31) := ⟨⟨by decide +kernel, by decide +kernel⟩, List.mem_of_getElem? (i := 610) (by decide +kernel), List.mem_of_getElem? (i := 809) (by decide +kernel), List.mem_of_getElem? (i := 810) (by decide +kernel)⟩
theorem lw_p44 : lw_okq (⟨"ThreeVoicesModel", "hasAny", "(I)Z"⟩, 31) := ⟨⟨by decide +kernel, by decide +kernel⟩, List.mem_of_getElem? (i := 610) (by decide +kernel), List.mem_of_getElem? (i := 813) (by decide +kernel), List.mem_of_getElem? (i := 814) (by decide +kernel)⟩
theorem lw_p45 : lw_okq (⟨"ThreeVoicesModel", "goEvent", "(I)V"⟩, 31) := ⟨⟨by decide +kernel, by decide +kernel⟩, List.mem_of_getElem? (i := 610) (by decide +kernel), List.mem_of_getElem? (i := 817) (by decide +kernel), List.mem_of_getElem? (i := 818) (by decide +kernel)⟩
theorem lw_p46 : lw_okq (⟨"ThreeVoicesModel", "fallsBy", "(I)I"⟩, 31) := ⟨⟨by decide +kernel, by decide +kernel⟩, List.mem_of_getElem? (i := 610) (by decide +kernel), List.mem_of_getElem? (i := 837) (by decide +kernel), List.mem_of_getElem? (i := 838) (by decide +kernel)⟩
theorem lw_p47 : lw_okq (⟨"ThreeVoicesModel", "isLaw", "(II)Z"⟩, 31) := ⟨⟨by decide +kernel, by decide +kernel⟩, List.mem_of_getElem? (i := 610) (by decide +kernel), List.mem_of_getElem? (i := 844) (by decide +kernel), List.mem_of_getElem? (i := 845) (by decide +kernel)⟩
def lw_privs_3 : List (MethodName × Nat) := [(⟨"ThreeVoicesModel", "maybesIn", "(I)I"⟩, 31), (⟨"ThreeVoicesModel", "due", "(Z)I"⟩, 31), (⟨"ThreeVoicesModel", "number", "(II)I"⟩, 31), (⟨"ThreeVoicesModel", "copy", "(II)V"⟩, 31), (⟨"ThreeVoicesModel", "isOne", "(I)Z"⟩, 31), (⟨"ThreeVoicesModel", "goPlain", "(I)V"⟩, 31), (⟨"ThreeVoicesModel", "plain", "()V"⟩, 31), (⟨"ThreeVoicesModel", "go", "(I)V"⟩, 31), (⟨"ThreeVoicesModel", "act", "()V"⟩, 31), (⟨"ThreeVoicesModel", "think", "(II)V"⟩, 31), (⟨"ThreeVoicesModel", "speak", "(III)V"⟩, 31), (⟨"ThreeVoicesModel", "areApart", "(IIII)Z"⟩, 31), (⟨"ThreeVoicesModel", "hasAny", "(I)Z"⟩, 31), (⟨"ThreeVoicesModel", "goEvent", "(I)V"⟩, 31), (⟨"ThreeVoicesModel", "fallsBy", "(I)I"⟩, 31), (⟨"ThreeVoicesModel", "isLaw", "(II)Z"⟩, 31)]
theorem lw_r3 : ∀ q ∈ lw_privs_3, lw_okq q := List.forall_mem_cons.mpr ⟨lw_p32, List.forall_mem_cons.mpr ⟨lw_p33, List.forall_mem_cons.mpr ⟨lw_p34, List.forall_mem_cons.mpr ⟨lw_p35, List.forall_mem_cons.mpr ⟨lw_p36, List.forall_mem_cons.mpr ⟨lw_p37, List.forall_mem_cons.mpr ⟨lw_p38, List.forall_mem_cons.mpr ⟨lw_p39, List.forall_mem_cons.mpr ⟨lw_p40, List.forall_mem_cons.mpr ⟨lw_p41, List.forall_mem_cons.mpr ⟨lw_p42, List.forall_mem_cons.mpr ⟨lw_p43, List.forall_mem_cons.mpr ⟨lw_p44, List.forall_mem_cons.mpr ⟨lw_p45, List.forall_mem_cons.mpr ⟨lw_p46, List.forall_mem_cons.mpr ⟨lw_p47, fun _ h => absurd h List.not_mem_nil⟩⟩⟩⟩⟩⟩⟩⟩⟩⟩⟩⟩⟩⟩⟩⟩
theorem lw_p48 : lw_okq (⟨"ThreeVoicesModel", "fewestBy", "(IIIZ)I"⟩, 31) := ⟨⟨by decide +kernel, by decide +kernel⟩, List.mem_of_getElem? (i := 610) (by decide +kernel), List.mem_of_getElem? (i := 864) (by decide +kernel), List.mem_of_getElem? (i := 865) (by decide +kernel)⟩
theorem lw_p49 : lw_okq (⟨"ThreeVoicesModel", "isLawBy", "(IIII)Z"⟩, 31) := ⟨⟨by decide +kernel, by decide +kernel⟩, List.mem_of_getElem? (i := 610) (by decide +kernel), List.mem_of_getElem? (i := 868) (by decide +kernel), List.mem_of_getElem? (i := 869) (by decide +kernel)⟩
theorem lw_p50 : lw_okq (⟨"ThreeVoicesModel", "isLawByTurns", "(IIII)Z"⟩, 31) := ⟨⟨by decide +kernel, by decide +kernel⟩, List.mem_of_getElem? (i := 610) (by decide +kernel), List.mem_of_getElem? (i := 880) (by decide +kernel), List.mem_of_getElem? (i := 881) (by decide +kernel)⟩
def lw_privs_4 : List (MethodName × Nat) := [(⟨"ThreeVoicesModel", "fewestBy", "(IIIZ)I"⟩, 31), (⟨"ThreeVoicesModel", "isLawBy", "(IIII)Z"⟩, 31), (⟨"ThreeVoicesModel", "isLawByTurns", "(IIII)Z"⟩, 31)]
theorem lw_r4 : ∀ q ∈ lw_privs_4, lw_okq q := List.forall_mem_cons.mpr ⟨lw_p48, List.forall_mem_cons.mpr ⟨lw_p49, List.forall_mem_cons.mpr ⟨lw_p50, fun _ h => absurd h List.not_mem_nil⟩⟩⟩
def lw_privs : List (MethodName × Nat) := lw_privs_1 ++ (lw_privs_2 ++ (lw_privs_3 ++ (lw_privs_4)))
def lw_tbl : List Cond := k2_sels lw_privs ++ tables_1
theorem lw_privs_ok : ∀ q ∈ lw_privs, lw_okq q := by
  show ∀ q ∈ lw_privs_1 ++ (lw_privs_2 ++ (lw_privs_3 ++ (lw_privs_4))), lw_okq q
  exact List.forall_mem_append.mpr ⟨lw_r1, List.forall_mem_append.mpr ⟨lw_r2, List.forall_mem_append.mpr ⟨lw_r3, lw_r4⟩⟩⟩
def RX0 : String := "ThreeVoices$Events"
def TX0 : u_T := fun k => match k with
  | 0 => ("ThreeVoices$Events", "sorts", "[I", true)
  | 1 => ("ThreeVoices$Events", "dates", "[I", true)
  | 2 => ("ThreeVoices$Events", "actors", "[I", true)
  | 3 => ("ThreeVoices$Events", "objects", "[I", true)
  | 4 => ("ThreeVoices$Events", "bits", "[I", true)
  | 5 => ("ThreeVoices$Events", "size", "I", false)
  | 6 => ("ThreeVoices$Events", "maybes", "I", false)
  | _ => ("ThreeVoices$Events", "today", "I", false)
def tyX0 : Nat → FieldType := fun k => match k with
  | 0 => .array .int
  | 1 => .array .int
  | 2 => .array .int
  | 3 => .array .int
  | 4 => .array .int
  | 5 => .int
  | 6 => .int
  | _ => .int
abbrev wsX00 : List Cond := u_ws RX0 TX0 8
theorem nmX0 : ∀ a, a < 8 → ∀ b, b < 8 → a ≠ b → (TX0 a).2.1 ≠ (TX0 b).2.1 := by decide +kernel
theorem tyX0_ok : ∀ k, k < 8 → parseFieldDescriptor (TX0 k).2.2.1 = some (tyX0 k) := by decide +kernel
abbrev cX0_init : ByteArray := prog_2_method_1_code
def yX0_init : MethodName := ⟨RX0, "<init>", "()V"⟩
abbrev cX0_hasRoomFor : ByteArray := prog_2_method_2_code
def yX0_hasRoomFor : MethodName := ⟨RX0, "hasRoomFor", "(I)Z"⟩
abbrev cX0_add : ByteArray := prog_2_method_3_code
def yX0_add : MethodName := ⟨RX0, "add", "(III)V"⟩
abbrev cX0_dropLast : ByteArray := prog_2_method_4_code
def yX0_dropLast : MethodName := ⟨RX0, "dropLast", "()V"⟩
abbrev cX0_forget : ByteArray := prog_2_method_5_code
def yX0_forget : MethodName := ⟨RX0, "forget", "()V"⟩
abbrev cX0_takeFrom : ByteArray := prog_2_method_6_code
def yX0_takeFrom : MethodName := ⟨RX0, "takeFrom", "(LThreeVoices$Events;)V"⟩
abbrev cX0_firstFrom : ByteArray := prog_2_method_7_code
def yX0_firstFrom : MethodName := ⟨RX0, "firstFrom", "(I)I"⟩
def RX1 : String := "ThreeVoices$Folk"
def TX1 : u_T := fun k => match k with
  | 0 => ("ThreeVoices$Folk", "homes", "[I", true)
  | _ => ("ThreeVoices$Folk", "size", "I", false)
def tyX1 : Nat → FieldType := fun k => match k with
  | 0 => .array .int
  | _ => .int
abbrev wsX10 : List Cond := u_ws RX1 TX1 2
theorem nmX1 : ∀ a, a < 2 → ∀ b, b < 2 → a ≠ b → (TX1 a).2.1 ≠ (TX1 b).2.1 := by decide +kernel
theorem tyX1_ok : ∀ k, k < 2 → parseFieldDescriptor (TX1 k).2.2.1 = some (tyX1 k) := by decide +kernel
abbrev cX1_init : ByteArray := prog_3_method_1_code
def yX1_init : MethodName := ⟨RX1, "<init>", "()V"⟩
abbrev cX1_add : ByteArray := prog_3_method_2_code
def yX1_add : MethodName := ⟨RX1, "add", "(I)V"⟩
abbrev cX1_takeFrom : ByteArray := prog_3_method_3_code
def yX1_takeFrom : MethodName := ⟨RX1, "takeFrom", "(LThreeVoices$Folk;)V"⟩
abbrev cX1_knows : ByteArray := prog_3_method_4_code
def yX1_knows : MethodName := ⟨RX1, "knows", "(I)Z"⟩
abbrev cX1_allows : ByteArray := prog_3_method_5_code
def yX1_allows : MethodName := ⟨RX1, "allows", "(III)Z"⟩
def RX2 : String := "ThreeVoices$Reader"
def TX2 : u_T := fun k => match k with
  | 0 => ("ThreeVoices$Reader", "folk", "LThreeVoices$Folk;", true)
  | 1 => ("ThreeVoices$Reader", "events", "LThreeVoices$Events;", true)
  | 2 => ("ThreeVoices$Reader", "source", "LThreeVoices$Text;", true)
  | 3 => ("ThreeVoices$Reader", "position", "I", false)
  | 4 => ("ThreeVoices$Reader", "token", "I", false)
  | 5 => ("ThreeVoices$Reader", "number", "I", false)
  | _ => ("ThreeVoices$Reader", "start", "I", false)
def tyX2 : Nat → FieldType := fun k => match k with
  | 0 => .object "ThreeVoices$Folk"
  | 1 => .object "ThreeVoices$Events"
  | 2 => .object "ThreeVoices$Text"
  | 3 => .int
  | 4 => .int
  | 5 => .int
  | _ => .int
abbrev wsX20 : List Cond := u_ws RX2 TX2 7
theorem nmX2 : ∀ a, a < 7 → ∀ b, b < 7 → a ≠ b → (TX2 a).2.1 ≠ (TX2 b).2.1 := by decide +kernel
theorem tyX2_ok : ∀ k, k < 7 → parseFieldDescriptor (TX2 k).2.2.1 = some (tyX2 k) := by decide +kernel
abbrev cX2_init : ByteArray := prog_4_method_1_code
def yX2_init : MethodName := ⟨RX2, "<init>", "(LThreeVoices$Text;)V"⟩
abbrev cX2_readText : ByteArray := prog_4_method_2_code
def yX2_readText : MethodName := ⟨RX2, "readText", "()I"⟩
abbrev cX2_readItem : ByteArray := prog_4_method_3_code
def yX2_readItem : MethodName := ⟨RX2, "readItem", "()Z"⟩
abbrev cX2_readPerson : ByteArray := prog_4_method_4_code
def yX2_readPerson : MethodName := ⟨RX2, "readPerson", "()Z"⟩
abbrev cX2_readEvent : ByteArray := prog_4_method_5_code
def yX2_readEvent : MethodName := ⟨RX2, "readEvent", "(I)Z"⟩
abbrev cX2_readNumber : ByteArray := prog_4_method_6_code
def yX2_readNumber : MethodName := ⟨RX2, "readNumber", "(II)Z"⟩
abbrev cX2_readStop : ByteArray := prog_4_method_7_code
def yX2_readStop : MethodName := ⟨RX2, "readStop", "()Z"⟩
abbrev cX2_sortOfWord : ByteArray := prog_4_method_8_code
def yX2_sortOfWord : MethodName := ⟨RX2, "sortOfWord", "()I"⟩
abbrev cX2_isWord : ByteArray := prog_4_method_9_code
def yX2_isWord : MethodName := ⟨RX2, "isWord", "(Ljava/lang/String;)Z"⟩
abbrev cX2_readToken : ByteArray := prog_4_method_10_code
def yX2_readToken : MethodName := ⟨RX2, "readToken", "()V"⟩
abbrev cX2_readWord : ByteArray := prog_4_method_11_code
def yX2_readWord : MethodName := ⟨RX2, "readWord", "()V"⟩
abbrev cX2_readDigits : ByteArray := prog_4_method_12_code
def yX2_readDigits : MethodName := ⟨RX2, "readDigits", "()V"⟩
abbrev cX2_isLetter : ByteArray := prog_4_method_13_code
def yX2_isLetter : MethodName := ⟨RX2, "isLetter", "(I)Z"⟩
abbrev cX2_isDigit : ByteArray := prog_4_method_14_code
def yX2_isDigit : MethodName := ⟨RX2, "isDigit", "(I)Z"⟩
def RX3 : String := "ThreeVoices$Story"
def TX3 : u_T := fun k => match k with
  | 0 => ("ThreeVoices$Story", "at", "[I", true)
  | 1 => ("ThreeVoices$Story", "from", "[I", true)
  | 2 => ("ThreeVoices$Story", "voices", "[I", true)
  | 3 => ("ThreeVoices$Story", "size", "I", false)
  | 4 => ("ThreeVoices$Story", "thing", "I", false)
  | 5 => ("ThreeVoices$Story", "staying", "I", false)
  | 6 => ("ThreeVoices$Story", "lawDay", "I", false)
  | _ => ("ThreeVoices$Story", "three", "I", false)
def tyX3 : Nat → FieldType := fun k => match k with
  | 0 => .array .int
  | 1 => .array .int
  | 2 => .array .int
  | 3 => .int
  | 4 => .int
  | 5 => .int
  | 6 => .int
  | _ => .int
abbrev wsX30 : List Cond := u_ws RX3 TX3 8
theorem nmX3 : ∀ a, a < 8 → ∀ b, b < 8 → a ≠ b → (TX3 a).2.1 ≠ (TX3 b).2.1 := by decide +kernel
theorem tyX3_ok : ∀ k, k < 8 → parseFieldDescriptor (TX3 k).2.2.1 = some (tyX3 k) := by decide +kernel
abbrev cX3_init : ByteArray := prog_5_method_1_code
def yX3_init : MethodName := ⟨RX3, "<init>", "()V"⟩
abbrev cX3_begin : ByteArray := prog_5_method_2_code
def yX3_begin : MethodName := ⟨RX3, "begin", "(LThreeVoices$Folk;I)V"⟩
abbrev cX3_takeFrom : ByteArray := prog_5_method_3_code
def yX3_takeFrom : MethodName := ⟨RX3, "takeFrom", "(LThreeVoices$Story;)V"⟩
abbrev cX3_play : ByteArray := prog_5_method_4_code
def yX3_play : MethodName := ⟨RX3, "play", "(LThreeVoices$Events;III)V"⟩
abbrev cX3_think : ByteArray := prog_5_method_5_code
def yX3_think : MethodName := ⟨RX3, "think", "(I)V"⟩
abbrev cX3_say : ByteArray := prog_5_method_6_code
def yX3_say : MethodName := ⟨RX3, "say", "(II)V"⟩
abbrev cX3_choose : ByteArray := prog_5_method_7_code
def yX3_choose : MethodName := ⟨RX3, "choose", "(IZ)Z"⟩
abbrev cX3_stay : ByteArray := prog_5_method_8_code
def yX3_stay : MethodName := ⟨RX3, "stay", "(II)V"⟩
abbrev cX3_thoseWithout : ByteArray := prog_5_method_9_code
def yX3_thoseWithout : MethodName := ⟨RX3, "thoseWithout", "()I"⟩
abbrev cX3_leastThree : ByteArray := prog_5_method_10_code
def yX3_leastThree : MethodName := ⟨RX3, "leastThree", "()I"⟩
abbrev cX3_leastThird : ByteArray := prog_5_method_11_code
def yX3_leastThird : MethodName := ⟨RX3, "leastThird", "(II)I"⟩
def RX4 : String := "ThreeVoices$Text"
def TX4 : u_T := fun k => match k with
  | 0 => ("ThreeVoices$Text", "bytes", "[I", true)
  | _ => ("ThreeVoices$Text", "size", "I", false)
def tyX4 : Nat → FieldType := fun k => match k with
  | 0 => .array .int
  | _ => .int
abbrev wsX40 : List Cond := u_ws RX4 TX4 2
theorem nmX4 : ∀ a, a < 2 → ∀ b, b < 2 → a ≠ b → (TX4 a).2.1 ≠ (TX4 b).2.1 := by decide +kernel
theorem tyX4_ok : ∀ k, k < 2 → parseFieldDescriptor (TX4 k).2.2.1 = some (tyX4 k) := by decide +kernel
abbrev cX4_init : ByteArray := prog_6_method_1_code
def yX4_init : MethodName := ⟨RX4, "<init>", "()V"⟩
abbrev cX4_add : ByteArray := prog_6_method_2_code
def yX4_add : MethodName := ⟨RX4, "add", "(I)V"⟩
abbrev cX4_byteAt : ByteArray := prog_6_method_3_code
def yX4_byteAt : MethodName := ⟨RX4, "byteAt", "(I)I"⟩
def RX5 : String := "ThreeVoices"
def TX5 : u_T := fun k => match k with
  | 0 => ("ThreeVoices", "text", "LThreeVoices$Text;", true)
  | 1 => ("ThreeVoices", "folk", "LThreeVoices$Folk;", true)
  | 2 => ("ThreeVoices", "events", "LThreeVoices$Events;", true)
  | 3 => ("ThreeVoices", "reader", "LThreeVoices$Reader;", true)
  | 4 => ("ThreeVoices", "image0", "LThreeVoices$Events;", true)
  | 5 => ("ThreeVoices", "image1", "LThreeVoices$Events;", true)
  | 6 => ("ThreeVoices", "kept0", "Z", false)
  | 7 => ("ThreeVoices", "kept1", "Z", false)
  | 8 => ("ThreeVoices", "ahead", "LThreeVoices$Story;", true)
  | 9 => ("ThreeVoices", "story", "LThreeVoices$Story;", true)
  | _ => ("ThreeVoices", "traced", "J", false)
def tyX5 : Nat → FieldType := fun k => match k with
  | 0 => .object "ThreeVoices$Text"
  | 1 => .object "ThreeVoices$Folk"
  | 2 => .object "ThreeVoices$Events"
  | 3 => .object "ThreeVoices$Reader"
  | 4 => .object "ThreeVoices$Events"
  | 5 => .object "ThreeVoices$Events"
  | 6 => .boolean
  | 7 => .boolean
  | 8 => .object "ThreeVoices$Story"
  | 9 => .object "ThreeVoices$Story"
  | _ => .long
abbrev wsX50 : List Cond := u_ws RX5 TX5 11
theorem nmX5 : ∀ a, a < 11 → ∀ b, b < 11 → a ≠ b → (TX5 a).2.1 ≠ (TX5 b).2.1 := by decide +kernel
theorem tyX5_ok : ∀ k, k < 11 → parseFieldDescriptor (TX5 k).2.2.1 = some (tyX5 k) := by decide +kernel
abbrev cX5_init : ByteArray := prog_1_method_1_code
def yX5_init : MethodName := ⟨RX5, "<init>", "()V"⟩
abbrev cX5_type : ByteArray := prog_1_method_2_code
def yX5_type : MethodName := ⟨RX5, "type", "(JI)I"⟩
abbrev cX5_clear : ByteArray := prog_1_method_3_code
def yX5_clear : MethodName := ⟨RX5, "clear", "()I"⟩
abbrev cX5_tell : ByteArray := prog_1_method_4_code
def yX5_tell : MethodName := ⟨RX5, "tell", "()I"⟩
abbrev cX5_event : ByteArray := prog_1_method_5_code
def yX5_event : MethodName := ⟨RX5, "event", "(II)I"⟩
abbrev cX5_comes : ByteArray := prog_1_method_6_code
def yX5_comes : MethodName := ⟨RX5, "comes", "(III)I"⟩
abbrev cX5_days : ByteArray := prog_1_method_7_code
def yX5_days : MethodName := ⟨RX5, "days", "(I)I"⟩
abbrev cX5_undo : ByteArray := prog_1_method_8_code
def yX5_undo : MethodName := ⟨RX5, "undo", "()I"⟩
abbrev cX5_origins : ByteArray := prog_1_method_9_code
def yX5_origins : MethodName := ⟨RX5, "origins", "(III)I"⟩
abbrev cX5_voice : ByteArray := prog_1_method_10_code
def yX5_voice : MethodName := ⟨RX5, "voice", "(III)I"⟩
abbrev cX5_law : ByteArray := prog_1_method_11_code
def yX5_law : MethodName := ⟨RX5, "law", "(III)I"⟩
abbrev cX5_place : ByteArray := prog_1_method_12_code
def yX5_place : MethodName := ⟨RX5, "place", "(I)I"⟩
abbrev cX5_stands : ByteArray := prog_1_method_13_code
def yX5_stands : MethodName := ⟨RX5, "stands", "(I)I"⟩
abbrev cX5_falls : ByteArray := prog_1_method_14_code
def yX5_falls : MethodName := ⟨RX5, "falls", "(I)I"⟩
abbrev cX5_alone : ByteArray := prog_1_method_15_code
def yX5_alone : MethodName := ⟨RX5, "alone", "(I)I"⟩
abbrev cX5_empty : ByteArray := prog_1_method_16_code
def yX5_empty : MethodName := ⟨RX5, "empty", "()I"⟩
abbrev cX5_hints : ByteArray := prog_1_method_17_code
def yX5_hints : MethodName := ⟨RX5, "hints", "(II)I"⟩
abbrev cX5_hinder : ByteArray := prog_1_method_18_code
def yX5_hinder : MethodName := ⟨RX5, "hinder", "(II)I"⟩
abbrev cX5_turns : ByteArray := prog_1_method_19_code
def yX5_turns : MethodName := ⟨RX5, "turns", "(III)I"⟩
abbrev cX5_keepAt : ByteArray := prog_1_method_20_code
def yX5_keepAt : MethodName := ⟨RX5, "keepAt", "(II)I"⟩
abbrev cX5_chance : ByteArray := prog_1_method_21_code
def yX5_chance : MethodName := ⟨RX5, "chance", "(IIIII)J"⟩
abbrev cX5_mark : ByteArray := prog_1_method_22_code
def yX5_mark : MethodName := ⟨RX5, "mark", "(III)I"⟩
abbrev cX5_keep : ByteArray := prog_1_method_23_code
def yX5_keep : MethodName := ⟨RX5, "keep", "(I)I"⟩
abbrev cX5_back : ByteArray := prog_1_method_24_code
def yX5_back : MethodName := ⟨RX5, "back", "(I)I"⟩
abbrev cX5_count : ByteArray := prog_1_method_25_code
def yX5_count : MethodName := ⟨RX5, "count", "(I)I"⟩
abbrev cX5_trace : ByteArray := prog_1_method_26_code
def yX5_trace : MethodName := ⟨RX5, "trace", "()J"⟩
abbrev cX5_isThing : ByteArray := prog_1_method_27_code
def yX5_isThing : MethodName := ⟨RX5, "isThing", "(I)Z"⟩
abbrev cX5_isDay : ByteArray := prog_1_method_28_code
def yX5_isDay : MethodName := ⟨RX5, "isDay", "(I)Z"⟩
abbrev cX5_isShare : ByteArray := prog_1_method_29_code
def yX5_isShare : MethodName := ⟨RX5, "isShare", "(II)Z"⟩
abbrev cX5_tellStory : ByteArray := prog_1_method_30_code
def yX5_tellStory : MethodName := ⟨RX5, "tellStory", "(II)V"⟩
abbrev cX5_isLawWith : ByteArray := prog_1_method_31_code
def yX5_isLawWith : MethodName := ⟨RX5, "isLawWith", "(II)Z"⟩
abbrev cX5_fewestAgainst : ByteArray := prog_1_method_32_code
def yX5_fewestAgainst : MethodName := ⟨RX5, "fewestAgainst", "(I)I"⟩
abbrev cX5_maybesThatCarry : ByteArray := prog_1_method_33_code
def yX5_maybesThatCarry : MethodName := ⟨RX5, "maybesThatCarry", "(I)I"⟩
abbrev cX5_tellAhead : ByteArray := prog_1_method_34_code
def yX5_tellAhead : MethodName := ⟨RX5, "tellAhead", "(II)V"⟩
abbrev cX5_isLawIf : ByteArray := prog_1_method_35_code
def yX5_isLawIf : MethodName := ⟨RX5, "isLawIf", "(IZI)Z"⟩
abbrev cX5_fewestChosen : ByteArray := prog_1_method_36_code
def yX5_fewestChosen : MethodName := ⟨RX5, "fewestChosen", "(IIZ)I"⟩
abbrev cX5_isLawByTurns : ByteArray := prog_1_method_37_code
def yX5_isLawByTurns : MethodName := ⟨RX5, "isLawByTurns", "(II)Z"⟩
abbrev cX5_isReachedBy : ByteArray := prog_1_method_38_code
def yX5_isReachedBy : MethodName := ⟨RX5, "isReachedBy", "(III)Z"⟩
abbrev cX5_thingsHadAt : ByteArray := prog_1_method_39_code
def yX5_thingsHadAt : MethodName := ⟨RX5, "thingsHadAt", "(III)I"⟩
abbrev cX5_power : ByteArray := prog_1_method_40_code
def yX5_power : MethodName := ⟨RX5, "power", "(II)J"⟩
abbrev cX5_commonDivisor : ByteArray := prog_1_method_41_code
def yX5_commonDivisor : MethodName := ⟨RX5, "commonDivisor", "(JJ)J"⟩
abbrev cX5_markSaying : ByteArray := prog_1_method_42_code
def yX5_markSaying : MethodName := ⟨RX5, "markSaying", "(I)I"⟩
abbrev cX5_markHeard : ByteArray := prog_1_method_43_code
def yX5_markHeard : MethodName := ⟨RX5, "markHeard", "(I)I"⟩
abbrev cX5_markOwn : ByteArray := prog_1_method_44_code
def yX5_markOwn : MethodName := ⟨RX5, "markOwn", "(I)I"⟩
abbrev cX5_markSong : ByteArray := prog_1_method_45_code
def yX5_markSong : MethodName := ⟨RX5, "markSong", "(II)I"⟩
abbrev cX5_markHum : ByteArray := prog_1_method_46_code
def yX5_markHum : MethodName := ⟨RX5, "markHum", "(I)I"⟩
abbrev cX5_markWritten : ByteArray := prog_1_method_47_code
def yX5_markWritten : MethodName := ⟨RX5, "markWritten", "(I)I"⟩
def RX6 : String := "ThreeVoicesModel"
def TX6 : u_T := fun k => match k with
  | 0 => ("ThreeVoicesModel", "trace", "J", false)
  | 1 => ("ThreeVoicesModel", "text", "[B", true)
  | 2 => ("ThreeVoicesModel", "typed", "I", false)
  | 3 => ("ThreeVoicesModel", "people", "[I", true)
  | 4 => ("ThreeVoicesModel", "places", "[I", true)
  | 5 => ("ThreeVoicesModel", "events", "[I", true)
  | 6 => ("ThreeVoicesModel", "today", "[I", true)
  | 7 => ("ThreeVoicesModel", "sorts", "[I", true)
  | 8 => ("ThreeVoicesModel", "days", "[I", true)
  | 9 => ("ThreeVoicesModel", "ones", "[I", true)
  | 10 => ("ThreeVoicesModel", "twos", "[I", true)
  | 11 => ("ThreeVoicesModel", "isKept", "[Z", true)
  | 12 => ("ThreeVoicesModel", "at", "I", false)
  | 13 => ("ThreeVoicesModel", "start", "I", false)
  | 14 => ("ThreeVoicesModel", "sort", "I", false)
  | 15 => ("ThreeVoicesModel", "value", "I", false)
  | 16 => ("ThreeVoicesModel", "fault", "I", false)
  | 17 => ("ThreeVoicesModel", "place", "[I", true)
  | 18 => ("ThreeVoicesModel", "origin", "[I", true)
  | 19 => ("ThreeVoicesModel", "voice", "[I", true)
  | 20 => ("ThreeVoicesModel", "lawDay", "[I", true)
  | 21 => ("ThreeVoicesModel", "three", "[I", true)
  | 22 => ("ThreeVoicesModel", "empties", "I", false)
  | 23 => ("ThreeVoicesModel", "acts", "[I", true)
  | 24 => ("ThreeVoicesModel", "many", "I", false)
  | 25 => ("ThreeVoicesModel", "thing", "I", false)
  | 26 => ("ThreeVoicesModel", "actDay", "I", false)
  | 27 => ("ThreeVoicesModel", "keeper", "I", false)
  | 28 => ("ThreeVoicesModel", "keptAt", "I", false)
  | 29 => ("ThreeVoicesModel", "hadIt", "I", false)
  | _ => ("ThreeVoicesModel", "wins", "[Z", true)
def tyX6 : Nat → FieldType := fun k => match k with
  | 0 => .long
  | 1 => .array .byte
  | 2 => .int
  | 3 => .array .int
  | 4 => .array .int
  | 5 => .array .int
  | 6 => .array .int
  | 7 => .array .int
  | 8 => .array .int
  | 9 => .array .int
  | 10 => .array .int
  | 11 => .array .boolean
  | 12 => .int
  | 13 => .int
  | 14 => .int
  | 15 => .int
  | 16 => .int
  | 17 => .array .int
  | 18 => .array .int
  | 19 => .array .int
  | 20 => .array .int
  | 21 => .array .int
  | 22 => .int
  | 23 => .array .int
  | 24 => .int
  | 25 => .int
  | 26 => .int
  | 27 => .int
  | 28 => .int
  | 29 => .int
  | _ => .array .boolean
abbrev wsX60 : List Cond := u_ws RX6 TX6 31
theorem nmX6 : ∀ a, a < 31 → ∀ b, b < 31 → a ≠ b → (TX6 a).2.1 ≠ (TX6 b).2.1 := by decide +kernel
theorem tyX6_ok : ∀ k, k < 31 → parseFieldDescriptor (TX6 k).2.2.1 = some (tyX6 k) := by decide +kernel
abbrev cX6_init : ByteArray := prog_8_method_1_code
def yX6_init : MethodName := ⟨RX6, "<init>", "()V"⟩
abbrev cX6_in : ByteArray := prog_8_method_3_code
def yX6_in : MethodName := ⟨RX6, "in", "(III)Z"⟩
abbrev cX6_type : ByteArray := prog_8_method_4_code
def yX6_type : MethodName := ⟨RX6, "type", "(JI)I"⟩
abbrev cX6_clear : ByteArray := prog_8_method_5_code
def yX6_clear : MethodName := ⟨RX6, "clear", "()I"⟩
abbrev cX6_here : ByteArray := prog_8_method_6_code
def yX6_here : MethodName := ⟨RX6, "here", "()I"⟩
abbrev cX6_meaning : ByteArray := prog_8_method_7_code
def yX6_meaning : MethodName := ⟨RX6, "meaning", "(I)I"⟩
abbrev cX6_next : ByteArray := prog_8_method_8_code
def yX6_next : MethodName := ⟨RX6, "next", "()V"⟩
abbrev cX6_due : ByteArray := prog_8_method_9_code
def yX6_due : MethodName := ⟨RX6, "due", "(Z)I"⟩
abbrev cX6_number : ByteArray := prog_8_method_10_code
def yX6_number : MethodName := ⟨RX6, "number", "(II)I"⟩
abbrev cX6_maybesIn : ByteArray := prog_8_method_11_code
def yX6_maybesIn : MethodName := ⟨RX6, "maybesIn", "(I)I"⟩
abbrev cX6_readItem : ByteArray := prog_8_method_12_code
def yX6_readItem : MethodName := ⟨RX6, "readItem", "()V"⟩
abbrev cX6_copy : ByteArray := prog_8_method_13_code
def yX6_copy : MethodName := ⟨RX6, "copy", "(II)V"⟩
abbrev cX6_tell : ByteArray := prog_8_method_14_code
def yX6_tell : MethodName := ⟨RX6, "tell", "()I"⟩
abbrev cX6_isOne : ByteArray := prog_8_method_15_code
def yX6_isOne : MethodName := ⟨RX6, "isOne", "(I)Z"⟩
abbrev cX6_isThing : ByteArray := prog_8_method_16_code
def yX6_isThing : MethodName := ⟨RX6, "isThing", "(I)Z"⟩
abbrev cX6_event : ByteArray := prog_8_method_17_code
def yX6_event : MethodName := ⟨RX6, "event", "(II)I"⟩
abbrev cX6_comes : ByteArray := prog_8_method_18_code
def yX6_comes : MethodName := ⟨RX6, "comes", "(III)I"⟩
abbrev cX6_days : ByteArray := prog_8_method_19_code
def yX6_days : MethodName := ⟨RX6, "days", "(I)I"⟩
abbrev cX6_undo : ByteArray := prog_8_method_20_code
def yX6_undo : MethodName := ⟨RX6, "undo", "()I"⟩
abbrev cX6_plain : ByteArray := prog_8_method_21_code
def yX6_plain : MethodName := ⟨RX6, "plain", "()V"⟩
abbrev cX6_think : ByteArray := prog_8_method_22_code
def yX6_think : MethodName := ⟨RX6, "think", "(II)V"⟩
abbrev cX6_areApart : ByteArray := prog_8_method_23_code
def yX6_areApart : MethodName := ⟨RX6, "areApart", "(IIII)Z"⟩
abbrev cX6_speak : ByteArray := prog_8_method_24_code
def yX6_speak : MethodName := ⟨RX6, "speak", "(III)V"⟩
abbrev cX6_act : ByteArray := prog_8_method_25_code
def yX6_act : MethodName := ⟨RX6, "act", "()V"⟩
abbrev cX6_hasAny : ByteArray := prog_8_method_26_code
def yX6_hasAny : MethodName := ⟨RX6, "hasAny", "(I)Z"⟩
abbrev cX6_goEvent : ByteArray := prog_8_method_27_code
def yX6_goEvent : MethodName := ⟨RX6, "goEvent", "(I)V"⟩
abbrev cX6_go : ByteArray := prog_8_method_28_code
def yX6_go : MethodName := ⟨RX6, "go", "(I)V"⟩
abbrev cX6_goPlain : ByteArray := prog_8_method_29_code
def yX6_goPlain : MethodName := ⟨RX6, "goPlain", "(I)V"⟩
abbrev cX6_origins : ByteArray := prog_8_method_30_code
def yX6_origins : MethodName := ⟨RX6, "origins", "(III)I"⟩
abbrev cX6_voice : ByteArray := prog_8_method_31_code
def yX6_voice : MethodName := ⟨RX6, "voice", "(III)I"⟩
abbrev cX6_law : ByteArray := prog_8_method_32_code
def yX6_law : MethodName := ⟨RX6, "law", "(III)I"⟩
abbrev cX6_place : ByteArray := prog_8_method_33_code
def yX6_place : MethodName := ⟨RX6, "place", "(I)I"⟩
abbrev cX6_bitsIn : ByteArray := prog_8_method_34_code
def yX6_bitsIn : MethodName := ⟨RX6, "bitsIn", "(I)I"⟩
abbrev cX6_isLaw : ByteArray := prog_8_method_35_code
def yX6_isLaw : MethodName := ⟨RX6, "isLaw", "(II)Z"⟩
abbrev cX6_fallsBy : ByteArray := prog_8_method_36_code
def yX6_fallsBy : MethodName := ⟨RX6, "fallsBy", "(I)I"⟩
abbrev cX6_stands : ByteArray := prog_8_method_37_code
def yX6_stands : MethodName := ⟨RX6, "stands", "(I)I"⟩
abbrev cX6_falls : ByteArray := prog_8_method_38_code
def yX6_falls : MethodName := ⟨RX6, "falls", "(I)I"⟩
abbrev cX6_alone : ByteArray := prog_8_method_39_code
def yX6_alone : MethodName := ⟨RX6, "alone", "(I)I"⟩
abbrev cX6_empty : ByteArray := prog_8_method_40_code
def yX6_empty : MethodName := ⟨RX6, "empty", "()I"⟩
abbrev cX6_isLawBy : ByteArray := prog_8_method_41_code
def yX6_isLawBy : MethodName := ⟨RX6, "isLawBy", "(IIII)Z"⟩
abbrev cX6_fewestBy : ByteArray := prog_8_method_42_code
def yX6_fewestBy : MethodName := ⟨RX6, "fewestBy", "(IIIZ)I"⟩
abbrev cX6_hints : ByteArray := prog_8_method_43_code
def yX6_hints : MethodName := ⟨RX6, "hints", "(II)I"⟩
abbrev cX6_hinder : ByteArray := prog_8_method_44_code
def yX6_hinder : MethodName := ⟨RX6, "hinder", "(II)I"⟩
abbrev cX6_isLawByTurns : ByteArray := prog_8_method_45_code
def yX6_isLawByTurns : MethodName := ⟨RX6, "isLawByTurns", "(IIII)Z"⟩
abbrev cX6_turns : ByteArray := prog_8_method_46_code
def yX6_turns : MethodName := ⟨RX6, "turns", "(III)I"⟩
abbrev cX6_keepAt : ByteArray := prog_8_method_47_code
def yX6_keepAt : MethodName := ⟨RX6, "keepAt", "(II)I"⟩
abbrev cX6_common : ByteArray := prog_8_method_48_code
def yX6_common : MethodName := ⟨RX6, "common", "(JJ)J"⟩
abbrev cX6_chance : ByteArray := prog_8_method_49_code
def yX6_chance : MethodName := ⟨RX6, "chance", "(IIIII)J"⟩
abbrev cX6_mark : ByteArray := prog_8_method_50_code
def yX6_mark : MethodName := ⟨RX6, "mark", "(III)I"⟩
abbrev cX6_keep : ByteArray := prog_8_method_51_code
def yX6_keep : MethodName := ⟨RX6, "keep", "(I)I"⟩
abbrev cX6_back : ByteArray := prog_8_method_52_code
def yX6_back : MethodName := ⟨RX6, "back", "(I)I"⟩
abbrev cX6_count : ByteArray := prog_8_method_53_code
def yX6_count : MethodName := ⟨RX6, "count", "(I)I"⟩
abbrev cX6_trace : ByteArray := prog_8_method_54_code
def yX6_trace : MethodName := ⟨RX6, "trace", "()J"⟩
def RJ6 : String := "java/lang/Integer"
def TJ6 : u_T := fun k => match k with
  | _ => ("", "", "", false)
def tyJ6 : Nat → FieldType := fun k => match k with
  | _ => .int
abbrev cJ6_bitCount_0f7a4 : ByteArray := prog_9_method_49_code
def yJ6_bitCount_0f7a4 : MethodName := ⟨RJ6, "bitCount", "(I)I"⟩
def RJ9 : String := "java/lang/Math"
def TJ9 : u_T := fun k => match k with
  | _ => ("", "", "", false)
def tyJ9 : Nat → FieldType := fun k => match k with
  | _ => .int
abbrev cJ9_max_7cf53 : ByteArray := prog_10_method_65_code
def yJ9_max_7cf53 : MethodName := ⟨RJ9, "max", "(II)I"⟩
abbrev cJ9_min_7cf53 : ByteArray := prog_10_method_69_code
def yJ9_min_7cf53 : MethodName := ⟨RJ9, "min", "(II)I"⟩
def RJ0 : String := "java/lang/String"
def TJ0 : u_T := fun k => match k with
  | _ => ("", "", "", false)
def tyJ0 : Nat → FieldType := fun k => match k with
  | _ => .int
abbrev cJ0_length_8abf5 : ByteArray := prog_11_method_54_code
def yJ0_length_8abf5 : MethodName := ⟨RJ0, "length", "()I"⟩
abbrev cJ0_charAt_5068e : ByteArray := prog_11_method_56_code
def yJ0_charAt_5068e : MethodName := ⟨RJ0, "charAt", "(I)C"⟩
abbrev cJ0_coder_7d493 : ByteArray := prog_11_method_152_code
def yJ0_coder_7d493 : MethodName := ⟨RJ0, "coder", "()B"⟩
abbrev cJ0_isLatin1_aae02 : ByteArray := prog_11_method_154_code
def yJ0_isLatin1_aae02 : MethodName := ⟨RJ0, "isLatin1", "()Z"⟩
abbrev cJ0_checkIndex_df160 : ByteArray := prog_11_method_155_code
def yJ0_checkIndex_df160 : MethodName := ⟨RJ0, "checkIndex", "(II)V"⟩
def RJ1 : String := "java/lang/StringLatin1"
def TJ1 : u_T := fun k => match k with
  | _ => ("", "", "", false)
def tyJ1 : Nat → FieldType := fun k => match k with
  | _ => .int
abbrev cJ1_charAt_3b067 : ByteArray := prog_12_method_2_code
def yJ1_charAt_3b067 : MethodName := ⟨RJ1, "charAt", "([BI)C"⟩
def RJ2 : String := "java/lang/StringUTF16"
def TJ2 : u_T := fun k => match k with
  | _ => ("", "", "", false)
def tyJ2 : Nat → FieldType := fun k => match k with
  | _ => .int
abbrev cJ2_getChar_3b067 : ByteArray := prog_13_method_5_code
def yJ2_getChar_3b067 : MethodName := ⟨RJ2, "getChar", "([BI)C"⟩
abbrev cJ2_length_9d52b : ByteArray := prog_13_method_6_code
def yJ2_length_9d52b : MethodName := ⟨RJ2, "length", "([B)I"⟩
abbrev cJ2_charAt_3b067 : ByteArray := prog_13_method_83_code
def yJ2_charAt_3b067 : MethodName := ⟨RJ2, "charAt", "([BI)C"⟩
abbrev cJ2_checkIndex_2214a : ByteArray := prog_13_method_91_code
def yJ2_checkIndex_2214a : MethodName := ⟨RJ2, "checkIndex", "(I[B)V"⟩
def RJ10 : String := "java/lang/System"
def TJ10 : u_T := fun k => match k with
  | _ => ("", "", "", false)
def tyJ10 : Nat → FieldType := fun k => match k with
  | _ => .int
def RJ3 : String := "jdk/internal/util/Preconditions"
def TJ3 : u_T := fun k => match k with
  | _ => ("", "", "", false)
def tyJ3 : Nat → FieldType := fun k => match k with
  | _ => .int
abbrev cJ3_checkIndex_8e157 : ByteArray := prog_15_method_11_code
def yJ3_checkIndex_8e157 : MethodName := ⟨RJ3, "checkIndex", "(IILjava/util/function/BiFunction;)I"⟩
def RL : String := "ThreeVoicesLaw"
abbrev cL_law : ByteArray := code
def yL_law : MethodName := ⟨RL, "law", "([I)Z"⟩
abbrev vwCl : List vw_C := [(RX0, TX0, 8), (RX1, TX1, 2), (RX2, TX2, 7), (RX3, TX3, 8), (RX4, TX4, 2), (RX5, TX5, 11), (RX6, TX6, 31)]
