theorem dX6_init_0 : decode cX6_init 0 = .ok (.aload_n 0, 1) := by decide +kernel
theorem dX6_init_1 : decode cX6_init 1 = .ok (.invokespecial 1, 3) := by decide +kernel
theorem dX6_init_4 : decode cX6_init 4 = .ok (.aload_n 0, 1) := by decide +kernel
theorem dX6_init_5 : decode cX6_init 5 = .ok (.sipush 400, 3) := by decide +kernel
theorem dX6_init_8 : decode cX6_init 8 = .ok (.newarray .byte, 2) := by decide +kernel
theorem dX6_init_10 : decode cX6_init 10 = .ok (.putfield 7, 3) := by decide +kernel
theorem dX6_init_13 : decode cX6_init 13 = .ok (.aload_n 0, 1) := by decide +kernel
theorem dX6_init_14 : decode cX6_init 14 = .ok (.iconst 2, 1) := by decide +kernel
theorem dX6_init_15 : decode cX6_init 15 = .ok (.newarray .int, 2) := by decide +kernel
theorem dX6_init_17 : decode cX6_init 17 = .ok (.putfield 13, 3) := by decide +kernel
theorem dX6_init_20 : decode cX6_init 20 = .ok (.aload_n 0, 1) := by decide +kernel
theorem dX6_init_21 : decode cX6_init 21 = .ok (.bipush 16, 2) := by decide +kernel
theorem dX6_init_23 : decode cX6_init 23 = .ok (.newarray .int, 2) := by decide +kernel
theorem dX6_init_25 : decode cX6_init 25 = .ok (.putfield 17, 3) := by decide +kernel
theorem dX6_init_28 : decode cX6_init 28 = .ok (.aload_n 0, 1) := by decide +kernel
theorem dX6_init_29 : decode cX6_init 29 = .ok (.iconst 4, 1) := by decide +kernel
theorem dX6_init_30 : decode cX6_init 30 = .ok (.newarray .int, 2) := by decide +kernel
theorem dX6_init_32 : decode cX6_init 32 = .ok (.putfield 20, 3) := by decide +kernel
theorem dX6_init_35 : decode cX6_init 35 = .ok (.aload_n 0, 1) := by decide +kernel
theorem dX6_init_36 : decode cX6_init 36 = .ok (.iconst 4, 1) := by decide +kernel
theorem dX6_init_37 : decode cX6_init 37 = .ok (.newarray .int, 2) := by decide +kernel
theorem dX6_init_39 : decode cX6_init 39 = .ok (.putfield 23, 3) := by decide +kernel
theorem dX6_init_42 : decode cX6_init 42 = .ok (.aload_n 0, 1) := by decide +kernel
theorem dX6_init_43 : decode cX6_init 43 = .ok (.sipush 160, 3) := by decide +kernel
theorem dX6_init_46 : decode cX6_init 46 = .ok (.newarray .int, 2) := by decide +kernel
theorem dX6_init_48 : decode cX6_init 48 = .ok (.putfield 26, 3) := by decide +kernel
theorem dX6_init_51 : decode cX6_init 51 = .ok (.aload_n 0, 1) := by decide +kernel
theorem dX6_init_52 : decode cX6_init 52 = .ok (.sipush 160, 3) := by decide +kernel
theorem dX6_init_55 : decode cX6_init 55 = .ok (.newarray .int, 2) := by decide +kernel
theorem dX6_init_57 : decode cX6_init 57 = .ok (.putfield 29, 3) := by decide +kernel
theorem dX6_init_60 : decode cX6_init 60 = .ok (.aload_n 0, 1) := by decide +kernel
theorem dX6_init_61 : decode cX6_init 61 = .ok (.sipush 160, 3) := by decide +kernel
theorem dX6_init_64 : decode cX6_init 64 = .ok (.newarray .int, 2) := by decide +kernel
theorem dX6_init_66 : decode cX6_init 66 = .ok (.putfield 32, 3) := by decide +kernel
theorem dX6_init_69 : decode cX6_init 69 = .ok (.aload_n 0, 1) := by decide +kernel
theorem dX6_init_70 : decode cX6_init 70 = .ok (.sipush 160, 3) := by decide +kernel
theorem dX6_init_73 : decode cX6_init 73 = .ok (.newarray .int, 2) := by decide +kernel
theorem dX6_init_75 : decode cX6_init 75 = .ok (.putfield 35, 3) := by decide +kernel
theorem dX6_init_78 : decode cX6_init 78 = .ok (.aload_n 0, 1) := by decide +kernel
theorem dX6_init_79 : decode cX6_init 79 = .ok (.iconst 2, 1) := by decide +kernel
theorem dX6_init_80 : decode cX6_init 80 = .ok (.newarray .boolean, 2) := by decide +kernel
theorem dX6_init_82 : decode cX6_init 82 = .ok (.putfield 38, 3) := by decide +kernel
theorem dX6_init_85 : decode cX6_init 85 = .ok (.aload_n 0, 1) := by decide +kernel
theorem dX6_init_86 : decode cX6_init 86 = .ok (.bipush 8, 2) := by decide +kernel
theorem dX6_init_88 : decode cX6_init 88 = .ok (.newarray .int, 2) := by decide +kernel
theorem dX6_init_90 : decode cX6_init 90 = .ok (.putfield 42, 3) := by decide +kernel
theorem dX6_init_93 : decode cX6_init 93 = .ok (.aload_n 0, 1) := by decide +kernel
theorem dX6_init_94 : decode cX6_init 94 = .ok (.bipush 32, 2) := by decide +kernel
theorem dX6_init_96 : decode cX6_init 96 = .ok (.newarray .int, 2) := by decide +kernel
theorem dX6_init_98 : decode cX6_init 98 = .ok (.putfield 45, 3) := by decide +kernel
theorem dX6_init_101 : decode cX6_init 101 = .ok (.aload_n 0, 1) := by decide +kernel
theorem dX6_init_102 : decode cX6_init 102 = .ok (.bipush 32, 2) := by decide +kernel
theorem dX6_init_104 : decode cX6_init 104 = .ok (.newarray .int, 2) := by decide +kernel
theorem dX6_init_106 : decode cX6_init 106 = .ok (.putfield 48, 3) := by decide +kernel
theorem dX6_init_109 : decode cX6_init 109 = .ok (.aload_n 0, 1) := by decide +kernel
theorem dX6_init_110 : decode cX6_init 110 = .ok (.iconst 4, 1) := by decide +kernel
theorem dX6_init_111 : decode cX6_init 111 = .ok (.newarray .int, 2) := by decide +kernel
theorem dX6_init_113 : decode cX6_init 113 = .ok (.putfield 51, 3) := by decide +kernel
theorem dX6_init_116 : decode cX6_init 116 = .ok (.aload_n 0, 1) := by decide +kernel
theorem dX6_init_117 : decode cX6_init 117 = .ok (.iconst 4, 1) := by decide +kernel
theorem dX6_init_118 : decode cX6_init 118 = .ok (.newarray .int, 2) := by decide +kernel
theorem dX6_init_120 : decode cX6_init 120 = .ok (.putfield 54, 3) := by decide +kernel
theorem dX6_init_123 : decode cX6_init 123 = .ok (.aload_n 0, 1) := by decide +kernel
theorem dX6_init_124 : decode cX6_init 124 = .ok (.bipush 8, 2) := by decide +kernel
theorem dX6_init_126 : decode cX6_init 126 = .ok (.newarray .int, 2) := by decide +kernel
theorem dX6_init_128 : decode cX6_init 128 = .ok (.putfield 57, 3) := by decide +kernel
theorem dX6_init_131 : decode cX6_init 131 = .ok (.aload_n 0, 1) := by decide +kernel
theorem dX6_init_132 : decode cX6_init 132 = .ok (.sipush 6561, 3) := by decide +kernel
theorem dX6_init_135 : decode cX6_init 135 = .ok (.newarray .boolean, 2) := by decide +kernel
theorem dX6_init_137 : decode cX6_init 137 = .ok (.putfield 60, 3) := by decide +kernel
theorem dX6_init_140 : decode cX6_init 140 = .ok (.return_, 1) := by decide +kernel
theorem dX6_in_0 : decode cX6_in 0 = .ok (.iload_n 0, 1) := by decide +kernel
theorem dX6_in_1 : decode cX6_in 1 = .ok (.iload_n 1, 1) := by decide +kernel
theorem dX6_in_2 : decode cX6_in 2 = .ok (.if_icmp .lt 12, 3) := by decide +kernel
theorem dX6_in_5 : decode cX6_in 5 = .ok (.iload_n 0, 1) := by decide +kernel
theorem dX6_in_6 : decode cX6_in 6 = .ok (.iload_n 2, 1) := by decide +kernel
theorem dX6_in_7 : decode cX6_in 7 = .ok (.if_icmp .gt 7, 3) := by decide +kernel
theorem dX6_in_10 : decode cX6_in 10 = .ok (.iconst 1, 1) := by decide +kernel
theorem dX6_in_11 : decode cX6_in 11 = .ok (.goto 4, 3) := by decide +kernel
theorem dX6_in_14 : decode cX6_in 14 = .ok (.iconst 0, 1) := by decide +kernel
theorem dX6_in_15 : decode cX6_in 15 = .ok (.ireturn, 1) := by decide +kernel
theorem dX6_type_0 : decode cX6_type 0 = .ok (.iload_n 3, 1) := by decide +kernel
theorem dX6_type_1 : decode cX6_type 1 = .ok (.iconst 1, 1) := by decide +kernel
theorem dX6_type_2 : decode cX6_type 2 = .ok (.bipush 8, 2) := by decide +kernel
theorem dX6_type_4 : decode cX6_type 4 = .ok (.invokestatic 63, 3) := by decide +kernel
theorem dX6_type_7 : decode cX6_type 7 = .ok (.ifCond .ne 5, 3) := by decide +kernel
theorem dX6_type_10 : decode cX6_type 10 = .ok (.iconst (-1), 1) := by decide +kernel
theorem dX6_type_11 : decode cX6_type 11 = .ok (.ireturn, 1) := by decide +kernel
theorem dX6_type_12 : decode cX6_type 12 = .ok (.aload_n 0, 1) := by decide +kernel
theorem dX6_type_13 : decode cX6_type 13 = .ok (.getfield 67, 3) := by decide +kernel
theorem dX6_type_16 : decode cX6_type 16 = .ok (.iload_n 3, 1) := by decide +kernel
theorem dX6_type_17 : decode cX6_type 17 = .ok (.iadd, 1) := by decide +kernel
theorem dX6_type_18 : decode cX6_type 18 = .ok (.sipush 400, 3) := by decide +kernel
theorem dX6_type_21 : decode cX6_type 21 = .ok (.if_icmp .le 6, 3) := by decide +kernel
theorem dX6_type_24 : decode cX6_type 24 = .ok (.bipush (-3), 2) := by decide +kernel
theorem dX6_type_26 : decode cX6_type 26 = .ok (.ireturn, 1) := by decide +kernel
theorem dX6_type_27 : decode cX6_type 27 = .ok (.iload_n 3, 1) := by decide +kernel
theorem dX6_type_28 : decode cX6_type 28 = .ok (.iconst 1, 1) := by decide +kernel
theorem dX6_type_29 : decode cX6_type 29 = .ok (.isub, 1) := by decide +kernel
theorem dX6_type_30 : decode cX6_type 30 = .ok (.istore 4, 2) := by decide +kernel
theorem dX6_type_32 : decode cX6_type 32 = .ok (.iload 4, 2) := by decide +kernel
theorem dX6_type_34 : decode cX6_type 34 = .ok (.ifCond .lt 41, 3) := by decide +kernel
theorem dX6_type_37 : decode cX6_type 37 = .ok (.aload_n 0, 1) := by decide +kernel
theorem dX6_type_38 : decode cX6_type 38 = .ok (.getfield 7, 3) := by decide +kernel
theorem dX6_type_41 : decode cX6_type 41 = .ok (.aload_n 0, 1) := by decide +kernel
theorem dX6_type_42 : decode cX6_type 42 = .ok (.getfield 67, 3) := by decide +kernel
theorem dX6_type_45 : decode cX6_type 45 = .ok (.lload_n 1, 1) := by decide +kernel
theorem dX6_type_46 : decode cX6_type 46 = .ok (.bipush 8, 2) := by decide +kernel
theorem dX6_type_48 : decode cX6_type 48 = .ok (.iload 4, 2) := by decide +kernel
theorem dX6_type_50 : decode cX6_type 50 = .ok (.imul, 1) := by decide +kernel
theorem dX6_type_51 : decode cX6_type 51 = .ok (.lshr, 1) := by decide +kernel
theorem dX6_type_52 : decode cX6_type 52 = .ok (.ldc2_w 71, 3) := by decide +kernel
theorem dX6_type_55 : decode cX6_type 55 = .ok (.land, 1) := by decide +kernel
theorem dX6_type_56 : decode cX6_type 56 = .ok (.l2i, 1) := by decide +kernel
theorem dX6_type_57 : decode cX6_type 57 = .ok (.i2b, 1) := by decide +kernel
theorem dX6_type_58 : decode cX6_type 58 = .ok (.bastore, 1) := by decide +kernel
theorem dX6_type_59 : decode cX6_type 59 = .ok (.aload_n 0, 1) := by decide +kernel
theorem dX6_type_60 : decode cX6_type 60 = .ok (.dup, 1) := by decide +kernel
theorem dX6_type_61 : decode cX6_type 61 = .ok (.getfield 67, 3) := by decide +kernel
theorem dX6_type_64 : decode cX6_type 64 = .ok (.iconst 1, 1) := by decide +kernel
theorem dX6_type_65 : decode cX6_type 65 = .ok (.iadd, 1) := by decide +kernel
theorem dX6_type_66 : decode cX6_type 66 = .ok (.putfield 67, 3) := by decide +kernel
theorem dX6_type_69 : decode cX6_type 69 = .ok (.iinc 4 (-1), 3) := by decide +kernel
theorem dX6_type_72 : decode cX6_type 72 = .ok (.goto (-40), 3) := by decide +kernel
theorem dX6_type_75 : decode cX6_type 75 = .ok (.aload_n 0, 1) := by decide +kernel
theorem dX6_type_76 : decode cX6_type 76 = .ok (.getfield 67, 3) := by decide +kernel
theorem dX6_type_79 : decode cX6_type 79 = .ok (.ireturn, 1) := by decide +kernel
theorem dX6_clear_0 : decode cX6_clear 0 = .ok (.aload_n 0, 1) := by decide +kernel
theorem dX6_clear_1 : decode cX6_clear 1 = .ok (.getfield 67, 3) := by decide +kernel
theorem dX6_clear_4 : decode cX6_clear 4 = .ok (.istore_n 1, 1) := by decide +kernel
theorem dX6_clear_5 : decode cX6_clear 5 = .ok (.aload_n 0, 1) := by decide +kernel
theorem dX6_clear_6 : decode cX6_clear 6 = .ok (.iconst 0, 1) := by decide +kernel
theorem dX6_clear_7 : decode cX6_clear 7 = .ok (.putfield 67, 3) := by decide +kernel
theorem dX6_clear_10 : decode cX6_clear 10 = .ok (.iload_n 1, 1) := by decide +kernel
theorem dX6_clear_11 : decode cX6_clear 11 = .ok (.ireturn, 1) := by decide +kernel
theorem dX6_here_0 : decode cX6_here 0 = .ok (.aload_n 0, 1) := by decide +kernel
theorem dX6_here_1 : decode cX6_here 1 = .ok (.getfield 73, 3) := by decide +kernel
theorem dX6_here_4 : decode cX6_here 4 = .ok (.aload_n 0, 1) := by decide +kernel
theorem dX6_here_5 : decode cX6_here 5 = .ok (.getfield 67, 3) := by decide +kernel
theorem dX6_here_8 : decode cX6_here 8 = .ok (.if_icmp .ge 19, 3) := by decide +kernel
theorem dX6_here_11 : decode cX6_here 11 = .ok (.aload_n 0, 1) := by decide +kernel
theorem dX6_here_12 : decode cX6_here 12 = .ok (.getfield 7, 3) := by decide +kernel
theorem dX6_here_15 : decode cX6_here 15 = .ok (.aload_n 0, 1) := by decide +kernel
theorem dX6_here_16 : decode cX6_here 16 = .ok (.getfield 73, 3) := by decide +kernel
theorem dX6_here_19 : decode cX6_here 19 = .ok (.baload, 1) := by decide +kernel
theorem dX6_here_20 : decode cX6_here 20 = .ok (.sipush 255, 3) := by decide +kernel
theorem dX6_here_23 : decode cX6_here 23 = .ok (.iand, 1) := by decide +kernel
theorem dX6_here_24 : decode cX6_here 24 = .ok (.goto 4, 3) := by decide +kernel
theorem dX6_here_27 : decode cX6_here 27 = .ok (.iconst (-1), 1) := by decide +kernel
theorem dX6_here_28 : decode cX6_here 28 = .ok (.ireturn, 1) := by decide +kernel
theorem dX6_meaning_0 : decode cX6_meaning 0 = .ok (.iload_n 0, 1) := by decide +kernel
theorem dX6_meaning_1 : decode cX6_meaning 1 = .ok (.lookupswitch 71 #[(13903, 65), (267413, 67), (394724, 59), (6946700, 61), (10793234, 63), (232608281, 69)], 59) := by decide +kernel
theorem dX6_meaning_60 : decode cX6_meaning 60 = .ok (.iconst 0, 1) := by decide +kernel
theorem dX6_meaning_61 : decode cX6_meaning 61 = .ok (.ireturn, 1) := by decide +kernel
theorem dX6_meaning_62 : decode cX6_meaning 62 = .ok (.iconst 1, 1) := by decide +kernel
theorem dX6_meaning_63 : decode cX6_meaning 63 = .ok (.ireturn, 1) := by decide +kernel
theorem dX6_meaning_64 : decode cX6_meaning 64 = .ok (.iconst 2, 1) := by decide +kernel
theorem dX6_meaning_65 : decode cX6_meaning 65 = .ok (.ireturn, 1) := by decide +kernel
theorem dX6_meaning_66 : decode cX6_meaning 66 = .ok (.iconst 3, 1) := by decide +kernel
theorem dX6_meaning_67 : decode cX6_meaning 67 = .ok (.ireturn, 1) := by decide +kernel
theorem dX6_meaning_68 : decode cX6_meaning 68 = .ok (.iconst 4, 1) := by decide +kernel
theorem dX6_meaning_69 : decode cX6_meaning 69 = .ok (.ireturn, 1) := by decide +kernel
theorem dX6_meaning_70 : decode cX6_meaning 70 = .ok (.iconst 5, 1) := by decide +kernel
theorem dX6_meaning_71 : decode cX6_meaning 71 = .ok (.ireturn, 1) := by decide +kernel
theorem dX6_meaning_72 : decode cX6_meaning 72 = .ok (.bipush 9, 2) := by decide +kernel
theorem dX6_meaning_74 : decode cX6_meaning 74 = .ok (.ireturn, 1) := by decide +kernel
theorem dX6_next_0 : decode cX6_next 0 = .ok (.aload_n 0, 1) := by decide +kernel
theorem dX6_next_1 : decode cX6_next 1 = .ok (.invokevirtual 76, 3) := by decide +kernel
theorem dX6_next_4 : decode cX6_next 4 = .ok (.bipush 32, 2) := by decide +kernel
theorem dX6_next_6 : decode cX6_next 6 = .ok (.if_icmp .ne 16, 3) := by decide +kernel
theorem dX6_next_9 : decode cX6_next 9 = .ok (.aload_n 0, 1) := by decide +kernel
theorem dX6_next_10 : decode cX6_next 10 = .ok (.dup, 1) := by decide +kernel
theorem dX6_next_11 : decode cX6_next 11 = .ok (.getfield 73, 3) := by decide +kernel
theorem dX6_next_14 : decode cX6_next 14 = .ok (.iconst 1, 1) := by decide +kernel
theorem dX6_next_15 : decode cX6_next 15 = .ok (.iadd, 1) := by decide +kernel
theorem dX6_next_16 : decode cX6_next 16 = .ok (.putfield 73, 3) := by decide +kernel
theorem dX6_next_19 : decode cX6_next 19 = .ok (.goto (-19), 3) := by decide +kernel
theorem dX6_next_22 : decode cX6_next 22 = .ok (.aload_n 0, 1) := by decide +kernel
theorem dX6_next_23 : decode cX6_next 23 = .ok (.aload_n 0, 1) := by decide +kernel
theorem dX6_next_24 : decode cX6_next 24 = .ok (.getfield 73, 3) := by decide +kernel
theorem dX6_next_27 : decode cX6_next 27 = .ok (.putfield 80, 3) := by decide +kernel
theorem dX6_next_30 : decode cX6_next 30 = .ok (.aload_n 0, 1) := by decide +kernel
theorem dX6_next_31 : decode cX6_next 31 = .ok (.iconst 0, 1) := by decide +kernel
theorem dX6_next_32 : decode cX6_next 32 = .ok (.putfield 83, 3) := by decide +kernel
theorem dX6_next_35 : decode cX6_next 35 = .ok (.aload_n 0, 1) := by decide +kernel
theorem dX6_next_36 : decode cX6_next 36 = .ok (.invokevirtual 76, 3) := by decide +kernel
theorem dX6_next_39 : decode cX6_next 39 = .ok (.istore_n 1, 1) := by decide +kernel
theorem dX6_next_40 : decode cX6_next 40 = .ok (.iload_n 1, 1) := by decide +kernel
theorem dX6_next_41 : decode cX6_next 41 = .ok (.ifCond .ge 12, 3) := by decide +kernel
theorem dX6_next_44 : decode cX6_next 44 = .ok (.aload_n 0, 1) := by decide +kernel
theorem dX6_next_45 : decode cX6_next 45 = .ok (.bipush 6, 2) := by decide +kernel
theorem dX6_next_47 : decode cX6_next 47 = .ok (.putfield 86, 3) := by decide +kernel
theorem dX6_next_50 : decode cX6_next 50 = .ok (.goto 245, 3) := by decide +kernel
theorem dX6_next_53 : decode cX6_next 53 = .ok (.iload_n 1, 1) := by decide +kernel
theorem dX6_next_54 : decode cX6_next 54 = .ok (.bipush 97, 2) := by decide +kernel
theorem dX6_next_56 : decode cX6_next 56 = .ok (.bipush 122, 2) := by decide +kernel
theorem dX6_next_58 : decode cX6_next 58 = .ok (.invokestatic 63, 3) := by decide +kernel
theorem dX6_next_61 : decode cX6_next 61 = .ok (.ifCond .eq 92, 3) := by decide +kernel
theorem dX6_next_64 : decode cX6_next 64 = .ok (.iconst 0, 1) := by decide +kernel
theorem dX6_next_65 : decode cX6_next 65 = .ok (.istore_n 2, 1) := by decide +kernel
theorem dX6_next_66 : decode cX6_next 66 = .ok (.aload_n 0, 1) := by decide +kernel
theorem dX6_next_67 : decode cX6_next 67 = .ok (.invokevirtual 76, 3) := by decide +kernel
theorem dX6_next_70 : decode cX6_next 70 = .ok (.bipush 97, 2) := by decide +kernel
theorem dX6_next_72 : decode cX6_next 72 = .ok (.bipush 122, 2) := by decide +kernel
theorem dX6_next_74 : decode cX6_next 74 = .ok (.invokestatic 63, 3) := by decide +kernel
theorem dX6_next_77 : decode cX6_next 77 = .ok (.ifCond .eq 47, 3) := by decide +kernel
theorem dX6_next_80 : decode cX6_next 80 = .ok (.aload_n 0, 1) := by decide +kernel
theorem dX6_next_81 : decode cX6_next 81 = .ok (.getfield 73, 3) := by decide +kernel
theorem dX6_next_84 : decode cX6_next 84 = .ok (.aload_n 0, 1) := by decide +kernel
theorem dX6_next_85 : decode cX6_next 85 = .ok (.getfield 80, 3) := by decide +kernel
theorem dX6_next_88 : decode cX6_next 88 = .ok (.isub, 1) := by decide +kernel
theorem dX6_next_89 : decode cX6_next 89 = .ok (.bipush 6, 2) := by decide +kernel
theorem dX6_next_91 : decode cX6_next 91 = .ok (.if_icmp .ge 18, 3) := by decide +kernel
theorem dX6_next_94 : decode cX6_next 94 = .ok (.bipush 27, 2) := by decide +kernel
theorem dX6_next_96 : decode cX6_next 96 = .ok (.iload_n 2, 1) := by decide +kernel
theorem dX6_next_97 : decode cX6_next 97 = .ok (.imul, 1) := by decide +kernel
theorem dX6_next_98 : decode cX6_next 98 = .ok (.aload_n 0, 1) := by decide +kernel
theorem dX6_next_99 : decode cX6_next 99 = .ok (.invokevirtual 76, 3) := by decide +kernel
theorem dX6_next_102 : decode cX6_next 102 = .ok (.iadd, 1) := by decide +kernel
theorem dX6_next_103 : decode cX6_next 103 = .ok (.bipush 96, 2) := by decide +kernel
theorem dX6_next_105 : decode cX6_next 105 = .ok (.isub, 1) := by decide +kernel
theorem dX6_next_106 : decode cX6_next 106 = .ok (.goto 4, 3) := by decide +kernel
theorem dX6_next_109 : decode cX6_next 109 = .ok (.iconst 0, 1) := by decide +kernel
theorem dX6_next_110 : decode cX6_next 110 = .ok (.istore_n 2, 1) := by decide +kernel
theorem dX6_next_111 : decode cX6_next 111 = .ok (.aload_n 0, 1) := by decide +kernel
theorem dX6_next_112 : decode cX6_next 112 = .ok (.dup, 1) := by decide +kernel
theorem dX6_next_113 : decode cX6_next 113 = .ok (.getfield 73, 3) := by decide +kernel
theorem dX6_next_116 : decode cX6_next 116 = .ok (.iconst 1, 1) := by decide +kernel
theorem dX6_next_117 : decode cX6_next 117 = .ok (.iadd, 1) := by decide +kernel
theorem dX6_next_118 : decode cX6_next 118 = .ok (.putfield 73, 3) := by decide +kernel
theorem dX6_next_121 : decode cX6_next 121 = .ok (.goto (-55), 3) := by decide +kernel
theorem dX6_next_124 : decode cX6_next 124 = .ok (.aload_n 0, 1) := by decide +kernel
theorem dX6_next_125 : decode cX6_next 125 = .ok (.aload_n 0, 1) := by decide +kernel
theorem dX6_next_126 : decode cX6_next 126 = .ok (.getfield 73, 3) := by decide +kernel
theorem dX6_next_129 : decode cX6_next 129 = .ok (.aload_n 0, 1) := by decide +kernel
theorem dX6_next_130 : decode cX6_next 130 = .ok (.getfield 80, 3) := by decide +kernel
theorem dX6_next_133 : decode cX6_next 133 = .ok (.isub, 1) := by decide +kernel
theorem dX6_next_134 : decode cX6_next 134 = .ok (.bipush 6, 2) := by decide +kernel
theorem dX6_next_136 : decode cX6_next 136 = .ok (.if_icmp .le 7, 3) := by decide +kernel
theorem dX6_next_139 : decode cX6_next 139 = .ok (.iconst 0, 1) := by decide +kernel
theorem dX6_next_140 : decode cX6_next 140 = .ok (.goto 4, 3) := by decide +kernel
theorem dX6_next_143 : decode cX6_next 143 = .ok (.iload_n 2, 1) := by decide +kernel
theorem dX6_next_144 : decode cX6_next 144 = .ok (.invokestatic 89, 3) := by decide +kernel
theorem dX6_next_147 : decode cX6_next 147 = .ok (.putfield 86, 3) := by decide +kernel
theorem dX6_next_150 : decode cX6_next 150 = .ok (.goto 145, 3) := by decide +kernel
theorem dX6_next_153 : decode cX6_next 153 = .ok (.iload_n 1, 1) := by decide +kernel
theorem dX6_next_154 : decode cX6_next 154 = .ok (.bipush 48, 2) := by decide +kernel
theorem dX6_next_156 : decode cX6_next 156 = .ok (.bipush 57, 2) := by decide +kernel
theorem dX6_next_158 : decode cX6_next 158 = .ok (.invokestatic 63, 3) := by decide +kernel
theorem dX6_next_161 : decode cX6_next 161 = .ok (.ifCond .eq 107, 3) := by decide +kernel
theorem dX6_next_164 : decode cX6_next 164 = .ok (.aload_n 0, 1) := by decide +kernel
theorem dX6_next_165 : decode cX6_next 165 = .ok (.invokevirtual 76, 3) := by decide +kernel
theorem dX6_next_168 : decode cX6_next 168 = .ok (.bipush 48, 2) := by decide +kernel
theorem dX6_next_170 : decode cX6_next 170 = .ok (.bipush 57, 2) := by decide +kernel
theorem dX6_next_172 : decode cX6_next 172 = .ok (.invokestatic 63, 3) := by decide +kernel
theorem dX6_next_175 : decode cX6_next 175 = .ok (.ifCond .eq 51, 3) := by decide +kernel
theorem dX6_next_178 : decode cX6_next 178 = .ok (.aload_n 0, 1) := by decide +kernel
theorem dX6_next_179 : decode cX6_next 179 = .ok (.aload_n 0, 1) := by decide +kernel
theorem dX6_next_180 : decode cX6_next 180 = .ok (.getfield 83, 3) := by decide +kernel
theorem dX6_next_183 : decode cX6_next 183 = .ok (.bipush 99, 2) := by decide +kernel
theorem dX6_next_185 : decode cX6_next 185 = .ok (.if_icmp .le 10, 3) := by decide +kernel
theorem dX6_next_188 : decode cX6_next 188 = .ok (.aload_n 0, 1) := by decide +kernel
theorem dX6_next_189 : decode cX6_next 189 = .ok (.getfield 83, 3) := by decide +kernel
theorem dX6_next_192 : decode cX6_next 192 = .ok (.goto 18, 3) := by decide +kernel
theorem dX6_next_195 : decode cX6_next 195 = .ok (.bipush 10, 2) := by decide +kernel
theorem dX6_next_197 : decode cX6_next 197 = .ok (.aload_n 0, 1) := by decide +kernel
theorem dX6_next_198 : decode cX6_next 198 = .ok (.getfield 83, 3) := by decide +kernel
theorem dX6_next_201 : decode cX6_next 201 = .ok (.imul, 1) := by decide +kernel
theorem dX6_next_202 : decode cX6_next 202 = .ok (.aload_n 0, 1) := by decide +kernel
theorem dX6_next_203 : decode cX6_next 203 = .ok (.invokevirtual 76, 3) := by decide +kernel
theorem dX6_next_206 : decode cX6_next 206 = .ok (.iadd, 1) := by decide +kernel
theorem dX6_next_207 : decode cX6_next 207 = .ok (.bipush 48, 2) := by decide +kernel
theorem dX6_next_209 : decode cX6_next 209 = .ok (.isub, 1) := by decide +kernel
theorem dX6_next_210 : decode cX6_next 210 = .ok (.putfield 83, 3) := by decide +kernel
theorem dX6_next_213 : decode cX6_next 213 = .ok (.aload_n 0, 1) := by decide +kernel
theorem dX6_next_214 : decode cX6_next 214 = .ok (.dup, 1) := by decide +kernel
theorem dX6_next_215 : decode cX6_next 215 = .ok (.getfield 73, 3) := by decide +kernel
theorem dX6_next_218 : decode cX6_next 218 = .ok (.iconst 1, 1) := by decide +kernel
theorem dX6_next_219 : decode cX6_next 219 = .ok (.iadd, 1) := by decide +kernel
theorem dX6_next_220 : decode cX6_next 220 = .ok (.putfield 73, 3) := by decide +kernel
theorem dX6_next_223 : decode cX6_next 223 = .ok (.goto (-59), 3) := by decide +kernel
theorem dX6_next_226 : decode cX6_next 226 = .ok (.aload_n 0, 1) := by decide +kernel
theorem dX6_next_227 : decode cX6_next 227 = .ok (.aload_n 0, 1) := by decide +kernel
theorem dX6_next_228 : decode cX6_next 228 = .ok (.getfield 83, 3) := by decide +kernel
theorem dX6_next_231 : decode cX6_next 231 = .ok (.bipush 99, 2) := by decide +kernel
theorem dX6_next_233 : decode cX6_next 233 = .ok (.if_icmp .gt 22, 3) := by decide +kernel
theorem dX6_next_236 : decode cX6_next 236 = .ok (.iload_n 1, 1) := by decide +kernel
theorem dX6_next_237 : decode cX6_next 237 = .ok (.bipush 48, 2) := by decide +kernel
theorem dX6_next_239 : decode cX6_next 239 = .ok (.if_icmp .ne 21, 3) := by decide +kernel
theorem dX6_next_242 : decode cX6_next 242 = .ok (.aload_n 0, 1) := by decide +kernel
theorem dX6_next_243 : decode cX6_next 243 = .ok (.getfield 73, 3) := by decide +kernel
theorem dX6_next_246 : decode cX6_next 246 = .ok (.aload_n 0, 1) := by decide +kernel
theorem dX6_next_247 : decode cX6_next 247 = .ok (.getfield 80, 3) := by decide +kernel
theorem dX6_next_250 : decode cX6_next 250 = .ok (.isub, 1) := by decide +kernel
theorem dX6_next_251 : decode cX6_next 251 = .ok (.iconst 1, 1) := by decide +kernel
theorem dX6_next_252 : decode cX6_next 252 = .ok (.if_icmp .le 8, 3) := by decide +kernel
theorem dX6_next_255 : decode cX6_next 255 = .ok (.bipush 9, 2) := by decide +kernel
theorem dX6_next_257 : decode cX6_next 257 = .ok (.goto 5, 3) := by decide +kernel
theorem dX6_next_260 : decode cX6_next 260 = .ok (.bipush 7, 2) := by decide +kernel
theorem dX6_next_262 : decode cX6_next 262 = .ok (.putfield 86, 3) := by decide +kernel
theorem dX6_next_265 : decode cX6_next 265 = .ok (.goto 30, 3) := by decide +kernel
theorem dX6_next_268 : decode cX6_next 268 = .ok (.aload_n 0, 1) := by decide +kernel
theorem dX6_next_269 : decode cX6_next 269 = .ok (.dup, 1) := by decide +kernel
theorem dX6_next_270 : decode cX6_next 270 = .ok (.getfield 73, 3) := by decide +kernel
theorem dX6_next_273 : decode cX6_next 273 = .ok (.iconst 1, 1) := by decide +kernel
theorem dX6_next_274 : decode cX6_next 274 = .ok (.iadd, 1) := by decide +kernel
theorem dX6_next_275 : decode cX6_next 275 = .ok (.putfield 73, 3) := by decide +kernel
theorem dX6_next_278 : decode cX6_next 278 = .ok (.aload_n 0, 1) := by decide +kernel
theorem dX6_next_279 : decode cX6_next 279 = .ok (.iload_n 1, 1) := by decide +kernel
theorem dX6_next_280 : decode cX6_next 280 = .ok (.bipush 59, 2) := by decide +kernel
theorem dX6_next_282 : decode cX6_next 282 = .ok (.if_icmp .ne 8, 3) := by decide +kernel
theorem dX6_next_285 : decode cX6_next 285 = .ok (.bipush 8, 2) := by decide +kernel
theorem dX6_next_287 : decode cX6_next 287 = .ok (.goto 5, 3) := by decide +kernel
theorem dX6_next_290 : decode cX6_next 290 = .ok (.bipush 9, 2) := by decide +kernel
theorem dX6_next_292 : decode cX6_next 292 = .ok (.putfield 86, 3) := by decide +kernel
theorem dX6_next_295 : decode cX6_next 295 = .ok (.return_, 1) := by decide +kernel
theorem dX6_due_0 : decode cX6_due 0 = .ok (.aload_n 0, 1) := by decide +kernel
theorem dX6_due_1 : decode cX6_due 1 = .ok (.getfield 83, 3) := by decide +kernel
theorem dX6_due_4 : decode cX6_due 4 = .ok (.istore_n 2, 1) := by decide +kernel
theorem dX6_due_5 : decode cX6_due 5 = .ok (.aload_n 0, 1) := by decide +kernel
theorem dX6_due_6 : decode cX6_due 6 = .ok (.getfield 93, 3) := by decide +kernel
theorem dX6_due_9 : decode cX6_due 9 = .ok (.bipush (-9), 2) := by decide +kernel
theorem dX6_due_11 : decode cX6_due 11 = .ok (.if_icmp .ne 22, 3) := by decide +kernel
theorem dX6_due_14 : decode cX6_due 14 = .ok (.iload_n 1, 1) := by decide +kernel
theorem dX6_due_15 : decode cX6_due 15 = .ok (.ifCond .eq 10, 3) := by decide +kernel
theorem dX6_due_18 : decode cX6_due 18 = .ok (.aload_n 0, 1) := by decide +kernel
theorem dX6_due_19 : decode cX6_due 19 = .ok (.invokevirtual 96, 3) := by decide +kernel
theorem dX6_due_22 : decode cX6_due 22 = .ok (.goto 11, 3) := by decide +kernel
theorem dX6_due_25 : decode cX6_due 25 = .ok (.aload_n 0, 1) := by decide +kernel
theorem dX6_due_26 : decode cX6_due 26 = .ok (.aload_n 0, 1) := by decide +kernel
theorem dX6_due_27 : decode cX6_due 27 = .ok (.getfield 80, 3) := by decide +kernel
theorem dX6_due_30 : decode cX6_due 30 = .ok (.putfield 93, 3) := by decide +kernel
theorem dX6_due_33 : decode cX6_due 33 = .ok (.iload_n 2, 1) := by decide +kernel
theorem dX6_due_34 : decode cX6_due 34 = .ok (.ireturn, 1) := by decide +kernel
theorem dX6_number_0 : decode cX6_number 0 = .ok (.aload_n 0, 1) := by decide +kernel
theorem dX6_number_1 : decode cX6_number 1 = .ok (.aload_n 0, 1) := by decide +kernel
theorem dX6_number_2 : decode cX6_number 2 = .ok (.getfield 86, 3) := by decide +kernel
theorem dX6_number_5 : decode cX6_number 5 = .ok (.bipush 7, 2) := by decide +kernel
theorem dX6_number_7 : decode cX6_number 7 = .ok (.if_icmp .ne 19, 3) := by decide +kernel
theorem dX6_number_10 : decode cX6_number 10 = .ok (.aload_n 0, 1) := by decide +kernel
theorem dX6_number_11 : decode cX6_number 11 = .ok (.getfield 83, 3) := by decide +kernel
theorem dX6_number_14 : decode cX6_number 14 = .ok (.iload_n 1, 1) := by decide +kernel
theorem dX6_number_15 : decode cX6_number 15 = .ok (.iload_n 2, 1) := by decide +kernel
theorem dX6_number_16 : decode cX6_number 16 = .ok (.invokestatic 63, 3) := by decide +kernel
theorem dX6_number_19 : decode cX6_number 19 = .ok (.ifCond .eq 7, 3) := by decide +kernel
theorem dX6_number_22 : decode cX6_number 22 = .ok (.iconst 1, 1) := by decide +kernel
theorem dX6_number_23 : decode cX6_number 23 = .ok (.goto 4, 3) := by decide +kernel
theorem dX6_number_26 : decode cX6_number 26 = .ok (.iconst 0, 1) := by decide +kernel
theorem dX6_number_27 : decode cX6_number 27 = .ok (.invokevirtual 99, 3) := by decide +kernel
theorem dX6_number_30 : decode cX6_number 30 = .ok (.ireturn, 1) := by decide +kernel
theorem dX6_maybesIn_0 : decode cX6_maybesIn 0 = .ok (.iconst 0, 1) := by decide +kernel
theorem dX6_maybesIn_1 : decode cX6_maybesIn 1 = .ok (.istore_n 2, 1) := by decide +kernel
theorem dX6_maybesIn_2 : decode cX6_maybesIn 2 = .ok (.iconst 0, 1) := by decide +kernel
theorem dX6_maybesIn_3 : decode cX6_maybesIn 3 = .ok (.istore_n 3, 1) := by decide +kernel
theorem dX6_maybesIn_4 : decode cX6_maybesIn 4 = .ok (.iload_n 3, 1) := by decide +kernel
theorem dX6_maybesIn_5 : decode cX6_maybesIn 5 = .ok (.aload_n 0, 1) := by decide +kernel
theorem dX6_maybesIn_6 : decode cX6_maybesIn 6 = .ok (.getfield 20, 3) := by decide +kernel
theorem dX6_maybesIn_9 : decode cX6_maybesIn 9 = .ok (.iload_n 1, 1) := by decide +kernel
theorem dX6_maybesIn_10 : decode cX6_maybesIn 10 = .ok (.iaload, 1) := by decide +kernel
theorem dX6_maybesIn_11 : decode cX6_maybesIn 11 = .ok (.if_icmp .ge 32, 3) := by decide +kernel
theorem dX6_maybesIn_14 : decode cX6_maybesIn 14 = .ok (.iload_n 2, 1) := by decide +kernel
theorem dX6_maybesIn_15 : decode cX6_maybesIn 15 = .ok (.aload_n 0, 1) := by decide +kernel
theorem dX6_maybesIn_16 : decode cX6_maybesIn 16 = .ok (.getfield 26, 3) := by decide +kernel
theorem dX6_maybesIn_19 : decode cX6_maybesIn 19 = .ok (.bipush 40, 2) := by decide +kernel
theorem dX6_maybesIn_21 : decode cX6_maybesIn 21 = .ok (.iload_n 1, 1) := by decide +kernel
theorem dX6_maybesIn_22 : decode cX6_maybesIn 22 = .ok (.imul, 1) := by decide +kernel
theorem dX6_maybesIn_23 : decode cX6_maybesIn 23 = .ok (.iload_n 3, 1) := by decide +kernel
theorem dX6_maybesIn_24 : decode cX6_maybesIn 24 = .ok (.iadd, 1) := by decide +kernel
theorem dX6_maybesIn_25 : decode cX6_maybesIn 25 = .ok (.iaload, 1) := by decide +kernel
theorem dX6_maybesIn_26 : decode cX6_maybesIn 26 = .ok (.iconst 1, 1) := by decide +kernel
theorem dX6_maybesIn_27 : decode cX6_maybesIn 27 = .ok (.if_icmp .ne 7, 3) := by decide +kernel
theorem dX6_maybesIn_30 : decode cX6_maybesIn 30 = .ok (.iconst 1, 1) := by decide +kernel
theorem dX6_maybesIn_31 : decode cX6_maybesIn 31 = .ok (.goto 4, 3) := by decide +kernel
theorem dX6_maybesIn_34 : decode cX6_maybesIn 34 = .ok (.iconst 0, 1) := by decide +kernel
theorem dX6_maybesIn_35 : decode cX6_maybesIn 35 = .ok (.iadd, 1) := by decide +kernel
theorem dX6_maybesIn_36 : decode cX6_maybesIn 36 = .ok (.istore_n 2, 1) := by decide +kernel
theorem dX6_maybesIn_37 : decode cX6_maybesIn 37 = .ok (.iinc 3 1, 3) := by decide +kernel
theorem dX6_maybesIn_40 : decode cX6_maybesIn 40 = .ok (.goto (-36), 3) := by decide +kernel
theorem dX6_maybesIn_43 : decode cX6_maybesIn 43 = .ok (.iload_n 2, 1) := by decide +kernel
theorem dX6_maybesIn_44 : decode cX6_maybesIn 44 = .ok (.ireturn, 1) := by decide +kernel
theorem dX6_readItem_0 : decode cX6_readItem 0 = .ok (.aload_n 0, 1) := by decide +kernel
theorem dX6_readItem_1 : decode cX6_readItem 1 = .ok (.getfield 86, 3) := by decide +kernel
theorem dX6_readItem_4 : decode cX6_readItem 4 = .ok (.istore_n 1, 1) := by decide +kernel
theorem dX6_readItem_5 : decode cX6_readItem 5 = .ok (.iload_n 1, 1) := by decide +kernel
theorem dX6_readItem_6 : decode cX6_readItem 6 = .ok (.iconst 5, 1) := by decide +kernel
theorem dX6_readItem_7 : decode cX6_readItem 7 = .ok (.if_icmp .ne 22, 3) := by decide +kernel
theorem dX6_readItem_10 : decode cX6_readItem 10 = .ok (.aload_n 0, 1) := by decide +kernel
theorem dX6_readItem_11 : decode cX6_readItem 11 = .ok (.getfield 13, 3) := by decide +kernel
theorem dX6_readItem_14 : decode cX6_readItem 14 = .ok (.iconst 1, 1) := by decide +kernel
theorem dX6_readItem_15 : decode cX6_readItem 15 = .ok (.iaload, 1) := by decide +kernel
theorem dX6_readItem_16 : decode cX6_readItem 16 = .ok (.bipush 8, 2) := by decide +kernel
theorem dX6_readItem_18 : decode cX6_readItem 18 = .ok (.if_icmp .ge 7, 3) := by decide +kernel
theorem dX6_readItem_21 : decode cX6_readItem 21 = .ok (.iconst 1, 1) := by decide +kernel
theorem dX6_readItem_22 : decode cX6_readItem 22 = .ok (.goto 43, 3) := by decide +kernel
theorem dX6_readItem_25 : decode cX6_readItem 25 = .ok (.iconst 0, 1) := by decide +kernel
theorem dX6_readItem_26 : decode cX6_readItem 26 = .ok (.goto 39, 3) := by decide +kernel
theorem dX6_readItem_29 : decode cX6_readItem 29 = .ok (.iload_n 1, 1) := by decide +kernel
theorem dX6_readItem_30 : decode cX6_readItem 30 = .ok (.iconst 4, 1) := by decide +kernel
theorem dX6_readItem_31 : decode cX6_readItem 31 = .ok (.if_icmp .gt 33, 3) := by decide +kernel
theorem dX6_readItem_34 : decode cX6_readItem 34 = .ok (.aload_n 0, 1) := by decide +kernel
theorem dX6_readItem_35 : decode cX6_readItem 35 = .ok (.getfield 20, 3) := by decide +kernel
theorem dX6_readItem_38 : decode cX6_readItem 38 = .ok (.iconst 1, 1) := by decide +kernel
theorem dX6_readItem_39 : decode cX6_readItem 39 = .ok (.iaload, 1) := by decide +kernel
theorem dX6_readItem_40 : decode cX6_readItem 40 = .ok (.bipush 40, 2) := by decide +kernel
theorem dX6_readItem_42 : decode cX6_readItem 42 = .ok (.if_icmp .ge 22, 3) := by decide +kernel
theorem dX6_readItem_45 : decode cX6_readItem 45 = .ok (.iload_n 1, 1) := by decide +kernel
theorem dX6_readItem_46 : decode cX6_readItem 46 = .ok (.iconst 1, 1) := by decide +kernel
theorem dX6_readItem_47 : decode cX6_readItem 47 = .ok (.if_icmp .ne 13, 3) := by decide +kernel
theorem dX6_readItem_50 : decode cX6_readItem 50 = .ok (.aload_n 0, 1) := by decide +kernel
theorem dX6_readItem_51 : decode cX6_readItem 51 = .ok (.iconst 1, 1) := by decide +kernel
theorem dX6_readItem_52 : decode cX6_readItem 52 = .ok (.invokevirtual 103, 3) := by decide +kernel
theorem dX6_readItem_55 : decode cX6_readItem 55 = .ok (.bipush 6, 2) := by decide +kernel
theorem dX6_readItem_57 : decode cX6_readItem 57 = .ok (.if_icmp .ge 7, 3) := by decide +kernel
theorem dX6_readItem_60 : decode cX6_readItem 60 = .ok (.iconst 1, 1) := by decide +kernel
theorem dX6_readItem_61 : decode cX6_readItem 61 = .ok (.goto 4, 3) := by decide +kernel
theorem dX6_readItem_64 : decode cX6_readItem 64 = .ok (.iconst 0, 1) := by decide +kernel
theorem dX6_readItem_65 : decode cX6_readItem 65 = .ok (.istore_n 2, 1) := by decide +kernel
theorem dX6_readItem_66 : decode cX6_readItem 66 = .ok (.aload_n 0, 1) := by decide +kernel
theorem dX6_readItem_67 : decode cX6_readItem 67 = .ok (.iload_n 2, 1) := by decide +kernel
theorem dX6_readItem_68 : decode cX6_readItem 68 = .ok (.invokevirtual 99, 3) := by decide +kernel
theorem dX6_readItem_71 : decode cX6_readItem 71 = .ok (.pop, 1) := by decide +kernel
theorem dX6_readItem_72 : decode cX6_readItem 72 = .ok (.aload_n 0, 1) := by decide +kernel
theorem dX6_readItem_73 : decode cX6_readItem 73 = .ok (.getfield 93, 3) := by decide +kernel
theorem dX6_readItem_76 : decode cX6_readItem 76 = .ok (.bipush (-9), 2) := by decide +kernel
theorem dX6_readItem_78 : decode cX6_readItem 78 = .ok (.if_icmp .eq 4, 3) := by decide +kernel
theorem dX6_readItem_81 : decode cX6_readItem 81 = .ok (.return_, 1) := by decide +kernel
theorem dX6_readItem_82 : decode cX6_readItem 82 = .ok (.iload_n 1, 1) := by decide +kernel
theorem dX6_readItem_83 : decode cX6_readItem 83 = .ok (.iconst 5, 1) := by decide +kernel
theorem dX6_readItem_84 : decode cX6_readItem 84 = .ok (.if_icmp .ne 36, 3) := by decide +kernel
theorem dX6_readItem_87 : decode cX6_readItem 87 = .ok (.aload_n 0, 1) := by decide +kernel
theorem dX6_readItem_88 : decode cX6_readItem 88 = .ok (.getfield 17, 3) := by decide +kernel
theorem dX6_readItem_91 : decode cX6_readItem 91 = .ok (.bipush 8, 2) := by decide +kernel
theorem dX6_readItem_93 : decode cX6_readItem 93 = .ok (.aload_n 0, 1) := by decide +kernel
theorem dX6_readItem_94 : decode cX6_readItem 94 = .ok (.getfield 13, 3) := by decide +kernel
theorem dX6_readItem_97 : decode cX6_readItem 97 = .ok (.iconst 1, 1) := by decide +kernel
theorem dX6_readItem_98 : decode cX6_readItem 98 = .ok (.iaload, 1) := by decide +kernel
theorem dX6_readItem_99 : decode cX6_readItem 99 = .ok (.iadd, 1) := by decide +kernel
theorem dX6_readItem_100 : decode cX6_readItem 100 = .ok (.aload_n 0, 1) := by decide +kernel
theorem dX6_readItem_101 : decode cX6_readItem 101 = .ok (.iconst 0, 1) := by decide +kernel
theorem dX6_readItem_102 : decode cX6_readItem 102 = .ok (.iconst 3, 1) := by decide +kernel
theorem dX6_readItem_103 : decode cX6_readItem 103 = .ok (.invokevirtual 106, 3) := by decide +kernel
theorem dX6_readItem_106 : decode cX6_readItem 106 = .ok (.iastore, 1) := by decide +kernel
theorem dX6_readItem_107 : decode cX6_readItem 107 = .ok (.aload_n 0, 1) := by decide +kernel
theorem dX6_readItem_108 : decode cX6_readItem 108 = .ok (.getfield 13, 3) := by decide +kernel
theorem dX6_readItem_111 : decode cX6_readItem 111 = .ok (.iconst 1, 1) := by decide +kernel
theorem dX6_readItem_112 : decode cX6_readItem 112 = .ok (.dup2, 1) := by decide +kernel
theorem dX6_readItem_113 : decode cX6_readItem 113 = .ok (.iaload, 1) := by decide +kernel
theorem dX6_readItem_114 : decode cX6_readItem 114 = .ok (.iconst 1, 1) := by decide +kernel
theorem dX6_readItem_115 : decode cX6_readItem 115 = .ok (.iadd, 1) := by decide +kernel
theorem dX6_readItem_116 : decode cX6_readItem 116 = .ok (.iastore, 1) := by decide +kernel
theorem dX6_readItem_117 : decode cX6_readItem 117 = .ok (.goto 158, 3) := by decide +kernel
theorem dX6_readItem_120 : decode cX6_readItem 120 = .ok (.bipush 40, 2) := by decide +kernel
theorem dX6_readItem_122 : decode cX6_readItem 122 = .ok (.aload_n 0, 1) := by decide +kernel
theorem dX6_readItem_123 : decode cX6_readItem 123 = .ok (.getfield 20, 3) := by decide +kernel
theorem dX6_readItem_126 : decode cX6_readItem 126 = .ok (.iconst 1, 1) := by decide +kernel
theorem dX6_readItem_127 : decode cX6_readItem 127 = .ok (.iaload, 1) := by decide +kernel
theorem dX6_readItem_128 : decode cX6_readItem 128 = .ok (.iadd, 1) := by decide +kernel
theorem dX6_readItem_129 : decode cX6_readItem 129 = .ok (.istore_n 3, 1) := by decide +kernel
theorem dX6_readItem_130 : decode cX6_readItem 130 = .ok (.aload_n 0, 1) := by decide +kernel
theorem dX6_readItem_131 : decode cX6_readItem 131 = .ok (.getfield 26, 3) := by decide +kernel
theorem dX6_readItem_134 : decode cX6_readItem 134 = .ok (.iload_n 3, 1) := by decide +kernel
theorem dX6_readItem_135 : decode cX6_readItem 135 = .ok (.iload_n 1, 1) := by decide +kernel
theorem dX6_readItem_136 : decode cX6_readItem 136 = .ok (.iastore, 1) := by decide +kernel
theorem dX6_readItem_137 : decode cX6_readItem 137 = .ok (.aload_n 0, 1) := by decide +kernel
theorem dX6_readItem_138 : decode cX6_readItem 138 = .ok (.getfield 29, 3) := by decide +kernel
theorem dX6_readItem_141 : decode cX6_readItem 141 = .ok (.iload_n 3, 1) := by decide +kernel
theorem dX6_readItem_142 : decode cX6_readItem 142 = .ok (.aload_n 0, 1) := by decide +kernel
theorem dX6_readItem_143 : decode cX6_readItem 143 = .ok (.aload_n 0, 1) := by decide +kernel
theorem dX6_readItem_144 : decode cX6_readItem 144 = .ok (.getfield 20, 3) := by decide +kernel
theorem dX6_readItem_147 : decode cX6_readItem 147 = .ok (.iconst 1, 1) := by decide +kernel
theorem dX6_readItem_148 : decode cX6_readItem 148 = .ok (.iaload, 1) := by decide +kernel
theorem dX6_readItem_149 : decode cX6_readItem 149 = .ok (.ifCond .ne 7, 3) := by decide +kernel
theorem dX6_readItem_152 : decode cX6_readItem 152 = .ok (.iconst 0, 1) := by decide +kernel
theorem dX6_readItem_153 : decode cX6_readItem 153 = .ok (.goto 11, 3) := by decide +kernel
theorem dX6_readItem_156 : decode cX6_readItem 156 = .ok (.aload_n 0, 1) := by decide +kernel
theorem dX6_readItem_157 : decode cX6_readItem 157 = .ok (.getfield 29, 3) := by decide +kernel
theorem dX6_readItem_160 : decode cX6_readItem 160 = .ok (.iload_n 3, 1) := by decide +kernel
theorem dX6_readItem_161 : decode cX6_readItem 161 = .ok (.iconst 1, 1) := by decide +kernel
theorem dX6_readItem_162 : decode cX6_readItem 162 = .ok (.isub, 1) := by decide +kernel
theorem dX6_readItem_163 : decode cX6_readItem 163 = .ok (.iaload, 1) := by decide +kernel
theorem dX6_readItem_164 : decode cX6_readItem 164 = .ok (.bipush 99, 2) := by decide +kernel
theorem dX6_readItem_166 : decode cX6_readItem 166 = .ok (.invokevirtual 106, 3) := by decide +kernel
theorem dX6_readItem_169 : decode cX6_readItem 169 = .ok (.iastore, 1) := by decide +kernel
theorem dX6_readItem_170 : decode cX6_readItem 170 = .ok (.aload_n 0, 1) := by decide +kernel
theorem dX6_readItem_171 : decode cX6_readItem 171 = .ok (.getfield 32, 3) := by decide +kernel
theorem dX6_readItem_174 : decode cX6_readItem 174 = .ok (.iload_n 3, 1) := by decide +kernel
theorem dX6_readItem_175 : decode cX6_readItem 175 = .ok (.aload_n 0, 1) := by decide +kernel
theorem dX6_readItem_176 : decode cX6_readItem 176 = .ok (.iconst 0, 1) := by decide +kernel
theorem dX6_readItem_177 : decode cX6_readItem 177 = .ok (.aload_n 0, 1) := by decide +kernel
theorem dX6_readItem_178 : decode cX6_readItem 178 = .ok (.getfield 13, 3) := by decide +kernel
theorem dX6_readItem_181 : decode cX6_readItem 181 = .ok (.iconst 1, 1) := by decide +kernel
theorem dX6_readItem_182 : decode cX6_readItem 182 = .ok (.iaload, 1) := by decide +kernel
theorem dX6_readItem_183 : decode cX6_readItem 183 = .ok (.iconst 1, 1) := by decide +kernel
theorem dX6_readItem_184 : decode cX6_readItem 184 = .ok (.isub, 1) := by decide +kernel
theorem dX6_readItem_185 : decode cX6_readItem 185 = .ok (.invokevirtual 106, 3) := by decide +kernel
theorem dX6_readItem_188 : decode cX6_readItem 188 = .ok (.iastore, 1) := by decide +kernel
theorem dX6_readItem_189 : decode cX6_readItem 189 = .ok (.iload_n 1, 1) := by decide +kernel
theorem dX6_readItem_190 : decode cX6_readItem 190 = .ok (.iconst 1, 1) := by decide +kernel
theorem dX6_readItem_191 : decode cX6_readItem 191 = .ok (.if_icmp .gt 62, 3) := by decide +kernel
theorem dX6_readItem_194 : decode cX6_readItem 194 = .ok (.aload_n 0, 1) := by decide +kernel
theorem dX6_readItem_195 : decode cX6_readItem 195 = .ok (.getfield 35, 3) := by decide +kernel
theorem dX6_readItem_198 : decode cX6_readItem 198 = .ok (.iload_n 3, 1) := by decide +kernel
theorem dX6_readItem_199 : decode cX6_readItem 199 = .ok (.aload_n 0, 1) := by decide +kernel
theorem dX6_readItem_200 : decode cX6_readItem 200 = .ok (.aload_n 0, 1) := by decide +kernel
theorem dX6_readItem_201 : decode cX6_readItem 201 = .ok (.getfield 86, 3) := by decide +kernel
theorem dX6_readItem_204 : decode cX6_readItem 204 = .ok (.bipush 7, 2) := by decide +kernel
theorem dX6_readItem_206 : decode cX6_readItem 206 = .ok (.if_icmp .ne 39, 3) := by decide +kernel
theorem dX6_readItem_209 : decode cX6_readItem 209 = .ok (.aload_n 0, 1) := by decide +kernel
theorem dX6_readItem_210 : decode cX6_readItem 210 = .ok (.getfield 83, 3) := by decide +kernel
theorem dX6_readItem_213 : decode cX6_readItem 213 = .ok (.iconst 0, 1) := by decide +kernel
theorem dX6_readItem_214 : decode cX6_readItem 214 = .ok (.aload_n 0, 1) := by decide +kernel
theorem dX6_readItem_215 : decode cX6_readItem 215 = .ok (.getfield 13, 3) := by decide +kernel
theorem dX6_readItem_218 : decode cX6_readItem 218 = .ok (.iconst 1, 1) := by decide +kernel
theorem dX6_readItem_219 : decode cX6_readItem 219 = .ok (.iaload, 1) := by decide +kernel
theorem dX6_readItem_220 : decode cX6_readItem 220 = .ok (.iconst 1, 1) := by decide +kernel
theorem dX6_readItem_221 : decode cX6_readItem 221 = .ok (.isub, 1) := by decide +kernel
theorem dX6_readItem_222 : decode cX6_readItem 222 = .ok (.invokestatic 63, 3) := by decide +kernel
theorem dX6_readItem_225 : decode cX6_readItem 225 = .ok (.ifCond .eq 20, 3) := by decide +kernel
theorem dX6_readItem_228 : decode cX6_readItem 228 = .ok (.aload_n 0, 1) := by decide +kernel
theorem dX6_readItem_229 : decode cX6_readItem 229 = .ok (.getfield 83, 3) := by decide +kernel
theorem dX6_readItem_232 : decode cX6_readItem 232 = .ok (.aload_n 0, 1) := by decide +kernel
theorem dX6_readItem_233 : decode cX6_readItem 233 = .ok (.getfield 32, 3) := by decide +kernel
theorem dX6_readItem_236 : decode cX6_readItem 236 = .ok (.iload_n 3, 1) := by decide +kernel
theorem dX6_readItem_237 : decode cX6_readItem 237 = .ok (.iaload, 1) := by decide +kernel
theorem dX6_readItem_238 : decode cX6_readItem 238 = .ok (.if_icmp .eq 7, 3) := by decide +kernel
theorem dX6_readItem_241 : decode cX6_readItem 241 = .ok (.iconst 1, 1) := by decide +kernel
theorem dX6_readItem_242 : decode cX6_readItem 242 = .ok (.goto 4, 3) := by decide +kernel
theorem dX6_readItem_245 : decode cX6_readItem 245 = .ok (.iconst 0, 1) := by decide +kernel
theorem dX6_readItem_246 : decode cX6_readItem 246 = .ok (.invokevirtual 99, 3) := by decide +kernel
theorem dX6_readItem_249 : decode cX6_readItem 249 = .ok (.iastore, 1) := by decide +kernel
theorem dX6_readItem_250 : decode cX6_readItem 250 = .ok (.goto 15, 3) := by decide +kernel
theorem dX6_readItem_253 : decode cX6_readItem 253 = .ok (.aload_n 0, 1) := by decide +kernel
theorem dX6_readItem_254 : decode cX6_readItem 254 = .ok (.getfield 35, 3) := by decide +kernel
theorem dX6_readItem_257 : decode cX6_readItem 257 = .ok (.iload_n 3, 1) := by decide +kernel
theorem dX6_readItem_258 : decode cX6_readItem 258 = .ok (.aload_n 0, 1) := by decide +kernel
theorem dX6_readItem_259 : decode cX6_readItem 259 = .ok (.iconst 0, 1) := by decide +kernel
theorem dX6_readItem_260 : decode cX6_readItem 260 = .ok (.iconst 3, 1) := by decide +kernel
theorem dX6_readItem_261 : decode cX6_readItem 261 = .ok (.invokevirtual 106, 3) := by decide +kernel
theorem dX6_readItem_264 : decode cX6_readItem 264 = .ok (.iastore, 1) := by decide +kernel
theorem dX6_readItem_265 : decode cX6_readItem 265 = .ok (.aload_n 0, 1) := by decide +kernel
theorem dX6_readItem_266 : decode cX6_readItem 266 = .ok (.getfield 20, 3) := by decide +kernel
theorem dX6_readItem_269 : decode cX6_readItem 269 = .ok (.iconst 1, 1) := by decide +kernel
theorem dX6_readItem_270 : decode cX6_readItem 270 = .ok (.dup2, 1) := by decide +kernel
theorem dX6_readItem_271 : decode cX6_readItem 271 = .ok (.iaload, 1) := by decide +kernel
theorem dX6_readItem_272 : decode cX6_readItem 272 = .ok (.iconst 1, 1) := by decide +kernel
theorem dX6_readItem_273 : decode cX6_readItem 273 = .ok (.iadd, 1) := by decide +kernel
theorem dX6_readItem_274 : decode cX6_readItem 274 = .ok (.iastore, 1) := by decide +kernel
theorem dX6_readItem_275 : decode cX6_readItem 275 = .ok (.aload_n 0, 1) := by decide +kernel
theorem dX6_readItem_276 : decode cX6_readItem 276 = .ok (.aload_n 0, 1) := by decide +kernel
theorem dX6_readItem_277 : decode cX6_readItem 277 = .ok (.getfield 86, 3) := by decide +kernel
theorem dX6_readItem_280 : decode cX6_readItem 280 = .ok (.bipush 8, 2) := by decide +kernel
theorem dX6_readItem_282 : decode cX6_readItem 282 = .ok (.if_icmp .ne 7, 3) := by decide +kernel
theorem dX6_readItem_285 : decode cX6_readItem 285 = .ok (.iconst 1, 1) := by decide +kernel
theorem dX6_readItem_286 : decode cX6_readItem 286 = .ok (.goto 4, 3) := by decide +kernel
theorem dX6_readItem_289 : decode cX6_readItem 289 = .ok (.iconst 0, 1) := by decide +kernel
theorem dX6_readItem_290 : decode cX6_readItem 290 = .ok (.invokevirtual 99, 3) := by decide +kernel
theorem dX6_readItem_293 : decode cX6_readItem 293 = .ok (.pop, 1) := by decide +kernel
theorem dX6_readItem_294 : decode cX6_readItem 294 = .ok (.return_, 1) := by decide +kernel
theorem dX6_copy_0 : decode cX6_copy 0 = .ok (.aload_n 0, 1) := by decide +kernel
theorem dX6_copy_1 : decode cX6_copy 1 = .ok (.getfield 20, 3) := by decide +kernel
theorem dX6_copy_4 : decode cX6_copy 4 = .ok (.iload_n 2, 1) := by decide +kernel
theorem dX6_copy_5 : decode cX6_copy 5 = .ok (.aload_n 0, 1) := by decide +kernel
theorem dX6_copy_6 : decode cX6_copy 6 = .ok (.getfield 20, 3) := by decide +kernel
theorem dX6_copy_9 : decode cX6_copy 9 = .ok (.iload_n 1, 1) := by decide +kernel
theorem dX6_copy_10 : decode cX6_copy 10 = .ok (.iaload, 1) := by decide +kernel
theorem dX6_copy_11 : decode cX6_copy 11 = .ok (.iastore, 1) := by decide +kernel
theorem dX6_copy_12 : decode cX6_copy 12 = .ok (.aload_n 0, 1) := by decide +kernel
theorem dX6_copy_13 : decode cX6_copy 13 = .ok (.getfield 23, 3) := by decide +kernel
theorem dX6_copy_16 : decode cX6_copy 16 = .ok (.iload_n 2, 1) := by decide +kernel
theorem dX6_copy_17 : decode cX6_copy 17 = .ok (.aload_n 0, 1) := by decide +kernel
theorem dX6_copy_18 : decode cX6_copy 18 = .ok (.getfield 23, 3) := by decide +kernel
theorem dX6_copy_21 : decode cX6_copy 21 = .ok (.iload_n 1, 1) := by decide +kernel
theorem dX6_copy_22 : decode cX6_copy 22 = .ok (.iaload, 1) := by decide +kernel
theorem dX6_copy_23 : decode cX6_copy 23 = .ok (.iastore, 1) := by decide +kernel
theorem dX6_copy_24 : decode cX6_copy 24 = .ok (.iconst 0, 1) := by decide +kernel
theorem dX6_copy_25 : decode cX6_copy 25 = .ok (.istore_n 3, 1) := by decide +kernel
theorem dX6_copy_26 : decode cX6_copy 26 = .ok (.iload_n 3, 1) := by decide +kernel
theorem dX6_copy_27 : decode cX6_copy 27 = .ok (.bipush 40, 2) := by decide +kernel
theorem dX6_copy_29 : decode cX6_copy 29 = .ok (.if_icmp .ge 97, 3) := by decide +kernel
theorem dX6_copy_32 : decode cX6_copy 32 = .ok (.aload_n 0, 1) := by decide +kernel
theorem dX6_copy_33 : decode cX6_copy 33 = .ok (.getfield 26, 3) := by decide +kernel
theorem dX6_copy_36 : decode cX6_copy 36 = .ok (.bipush 40, 2) := by decide +kernel
theorem dX6_copy_38 : decode cX6_copy 38 = .ok (.iload_n 2, 1) := by decide +kernel
theorem dX6_copy_39 : decode cX6_copy 39 = .ok (.imul, 1) := by decide +kernel
theorem dX6_copy_40 : decode cX6_copy 40 = .ok (.iload_n 3, 1) := by decide +kernel
theorem dX6_copy_41 : decode cX6_copy 41 = .ok (.iadd, 1) := by decide +kernel
theorem dX6_copy_42 : decode cX6_copy 42 = .ok (.aload_n 0, 1) := by decide +kernel
theorem dX6_copy_43 : decode cX6_copy 43 = .ok (.getfield 26, 3) := by decide +kernel
theorem dX6_copy_46 : decode cX6_copy 46 = .ok (.bipush 40, 2) := by decide +kernel
theorem dX6_copy_48 : decode cX6_copy 48 = .ok (.iload_n 1, 1) := by decide +kernel
theorem dX6_copy_49 : decode cX6_copy 49 = .ok (.imul, 1) := by decide +kernel
theorem dX6_copy_50 : decode cX6_copy 50 = .ok (.iload_n 3, 1) := by decide +kernel
theorem dX6_copy_51 : decode cX6_copy 51 = .ok (.iadd, 1) := by decide +kernel
theorem dX6_copy_52 : decode cX6_copy 52 = .ok (.iaload, 1) := by decide +kernel
theorem dX6_copy_53 : decode cX6_copy 53 = .ok (.iastore, 1) := by decide +kernel
theorem dX6_copy_54 : decode cX6_copy 54 = .ok (.aload_n 0, 1) := by decide +kernel
theorem dX6_copy_55 : decode cX6_copy 55 = .ok (.getfield 29, 3) := by decide +kernel
theorem dX6_copy_58 : decode cX6_copy 58 = .ok (.bipush 40, 2) := by decide +kernel
theorem dX6_copy_60 : decode cX6_copy 60 = .ok (.iload_n 2, 1) := by decide +kernel
theorem dX6_copy_61 : decode cX6_copy 61 = .ok (.imul, 1) := by decide +kernel
theorem dX6_copy_62 : decode cX6_copy 62 = .ok (.iload_n 3, 1) := by decide +kernel
theorem dX6_copy_63 : decode cX6_copy 63 = .ok (.iadd, 1) := by decide +kernel
theorem dX6_copy_64 : decode cX6_copy 64 = .ok (.aload_n 0, 1) := by decide +kernel
theorem dX6_copy_65 : decode cX6_copy 65 = .ok (.getfield 29, 3) := by decide +kernel
theorem dX6_copy_68 : decode cX6_copy 68 = .ok (.bipush 40, 2) := by decide +kernel
theorem dX6_copy_70 : decode cX6_copy 70 = .ok (.iload_n 1, 1) := by decide +kernel
theorem dX6_copy_71 : decode cX6_copy 71 = .ok (.imul, 1) := by decide +kernel
theorem dX6_copy_72 : decode cX6_copy 72 = .ok (.iload_n 3, 1) := by decide +kernel
theorem dX6_copy_73 : decode cX6_copy 73 = .ok (.iadd, 1) := by decide +kernel
theorem dX6_copy_74 : decode cX6_copy 74 = .ok (.iaload, 1) := by decide +kernel
theorem dX6_copy_75 : decode cX6_copy 75 = .ok (.iastore, 1) := by decide +kernel
theorem dX6_copy_76 : decode cX6_copy 76 = .ok (.aload_n 0, 1) := by decide +kernel
theorem dX6_copy_77 : decode cX6_copy 77 = .ok (.getfield 32, 3) := by decide +kernel
theorem dX6_copy_80 : decode cX6_copy 80 = .ok (.bipush 40, 2) := by decide +kernel
theorem dX6_copy_82 : decode cX6_copy 82 = .ok (.iload_n 2, 1) := by decide +kernel
theorem dX6_copy_83 : decode cX6_copy 83 = .ok (.imul, 1) := by decide +kernel
theorem dX6_copy_84 : decode cX6_copy 84 = .ok (.iload_n 3, 1) := by decide +kernel
theorem dX6_copy_85 : decode cX6_copy 85 = .ok (.iadd, 1) := by decide +kernel
theorem dX6_copy_86 : decode cX6_copy 86 = .ok (.aload_n 0, 1) := by decide +kernel
theorem dX6_copy_87 : decode cX6_copy 87 = .ok (.getfield 32, 3) := by decide +kernel
theorem dX6_copy_90 : decode cX6_copy 90 = .ok (.bipush 40, 2) := by decide +kernel
theorem dX6_copy_92 : decode cX6_copy 92 = .ok (.iload_n 1, 1) := by decide +kernel
theorem dX6_copy_93 : decode cX6_copy 93 = .ok (.imul, 1) := by decide +kernel
theorem dX6_copy_94 : decode cX6_copy 94 = .ok (.iload_n 3, 1) := by decide +kernel
theorem dX6_copy_95 : decode cX6_copy 95 = .ok (.iadd, 1) := by decide +kernel
theorem dX6_copy_96 : decode cX6_copy 96 = .ok (.iaload, 1) := by decide +kernel
theorem dX6_copy_97 : decode cX6_copy 97 = .ok (.iastore, 1) := by decide +kernel
theorem dX6_copy_98 : decode cX6_copy 98 = .ok (.aload_n 0, 1) := by decide +kernel
theorem dX6_copy_99 : decode cX6_copy 99 = .ok (.getfield 35, 3) := by decide +kernel
theorem dX6_copy_102 : decode cX6_copy 102 = .ok (.bipush 40, 2) := by decide +kernel
theorem dX6_copy_104 : decode cX6_copy 104 = .ok (.iload_n 2, 1) := by decide +kernel
theorem dX6_copy_105 : decode cX6_copy 105 = .ok (.imul, 1) := by decide +kernel
theorem dX6_copy_106 : decode cX6_copy 106 = .ok (.iload_n 3, 1) := by decide +kernel
theorem dX6_copy_107 : decode cX6_copy 107 = .ok (.iadd, 1) := by decide +kernel
theorem dX6_copy_108 : decode cX6_copy 108 = .ok (.aload_n 0, 1) := by decide +kernel
theorem dX6_copy_109 : decode cX6_copy 109 = .ok (.getfield 35, 3) := by decide +kernel
theorem dX6_copy_112 : decode cX6_copy 112 = .ok (.bipush 40, 2) := by decide +kernel
theorem dX6_copy_114 : decode cX6_copy 114 = .ok (.iload_n 1, 1) := by decide +kernel
theorem dX6_copy_115 : decode cX6_copy 115 = .ok (.imul, 1) := by decide +kernel
theorem dX6_copy_116 : decode cX6_copy 116 = .ok (.iload_n 3, 1) := by decide +kernel
theorem dX6_copy_117 : decode cX6_copy 117 = .ok (.iadd, 1) := by decide +kernel
theorem dX6_copy_118 : decode cX6_copy 118 = .ok (.iaload, 1) := by decide +kernel
theorem dX6_copy_119 : decode cX6_copy 119 = .ok (.iastore, 1) := by decide +kernel
theorem dX6_copy_120 : decode cX6_copy 120 = .ok (.iinc 3 1, 3) := by decide +kernel
theorem dX6_copy_123 : decode cX6_copy 123 = .ok (.goto (-97), 3) := by decide +kernel
theorem dX6_copy_126 : decode cX6_copy 126 = .ok (.return_, 1) := by decide +kernel
theorem dX6_tell_0 : decode cX6_tell 0 = .ok (.aload_n 0, 1) := by decide +kernel
theorem dX6_tell_1 : decode cX6_tell 1 = .ok (.iconst 0, 1) := by decide +kernel
theorem dX6_tell_2 : decode cX6_tell 2 = .ok (.putfield 73, 3) := by decide +kernel
theorem dX6_tell_5 : decode cX6_tell 5 = .ok (.aload_n 0, 1) := by decide +kernel
theorem dX6_tell_6 : decode cX6_tell 6 = .ok (.bipush (-9), 2) := by decide +kernel
theorem dX6_tell_8 : decode cX6_tell 8 = .ok (.putfield 93, 3) := by decide +kernel
theorem dX6_tell_11 : decode cX6_tell 11 = .ok (.aload_n 0, 1) := by decide +kernel
theorem dX6_tell_12 : decode cX6_tell 12 = .ok (.getfield 13, 3) := by decide +kernel
theorem dX6_tell_15 : decode cX6_tell 15 = .ok (.iconst 1, 1) := by decide +kernel
theorem dX6_tell_16 : decode cX6_tell 16 = .ok (.iconst 0, 1) := by decide +kernel
theorem dX6_tell_17 : decode cX6_tell 17 = .ok (.iastore, 1) := by decide +kernel
theorem dX6_tell_18 : decode cX6_tell 18 = .ok (.aload_n 0, 1) := by decide +kernel
theorem dX6_tell_19 : decode cX6_tell 19 = .ok (.getfield 20, 3) := by decide +kernel
theorem dX6_tell_22 : decode cX6_tell 22 = .ok (.iconst 1, 1) := by decide +kernel
theorem dX6_tell_23 : decode cX6_tell 23 = .ok (.iconst 0, 1) := by decide +kernel
theorem dX6_tell_24 : decode cX6_tell 24 = .ok (.iastore, 1) := by decide +kernel
theorem dX6_tell_25 : decode cX6_tell 25 = .ok (.iconst 0, 1) := by decide +kernel
theorem dX6_tell_26 : decode cX6_tell 26 = .ok (.istore_n 1, 1) := by decide +kernel
theorem dX6_tell_27 : decode cX6_tell 27 = .ok (.aload_n 0, 1) := by decide +kernel
theorem dX6_tell_28 : decode cX6_tell 28 = .ok (.invokevirtual 96, 3) := by decide +kernel
theorem dX6_tell_31 : decode cX6_tell 31 = .ok (.aload_n 0, 1) := by decide +kernel
theorem dX6_tell_32 : decode cX6_tell 32 = .ok (.getfield 93, 3) := by decide +kernel
theorem dX6_tell_35 : decode cX6_tell 35 = .ok (.bipush (-9), 2) := by decide +kernel
theorem dX6_tell_37 : decode cX6_tell 37 = .ok (.if_icmp .ne 22, 3) := by decide +kernel
theorem dX6_tell_40 : decode cX6_tell 40 = .ok (.aload_n 0, 1) := by decide +kernel
theorem dX6_tell_41 : decode cX6_tell 41 = .ok (.getfield 86, 3) := by decide +kernel
theorem dX6_tell_44 : decode cX6_tell 44 = .ok (.bipush 6, 2) := by decide +kernel
theorem dX6_tell_46 : decode cX6_tell 46 = .ok (.if_icmp .eq 13, 3) := by decide +kernel
theorem dX6_tell_49 : decode cX6_tell 49 = .ok (.aload_n 0, 1) := by decide +kernel
theorem dX6_tell_50 : decode cX6_tell 50 = .ok (.invokevirtual 110, 3) := by decide +kernel
theorem dX6_tell_53 : decode cX6_tell 53 = .ok (.iinc 1 1, 3) := by decide +kernel
theorem dX6_tell_56 : decode cX6_tell 56 = .ok (.goto (-25), 3) := by decide +kernel
theorem dX6_tell_59 : decode cX6_tell 59 = .ok (.aload_n 0, 1) := by decide +kernel
theorem dX6_tell_60 : decode cX6_tell 60 = .ok (.getfield 93, 3) := by decide +kernel
theorem dX6_tell_63 : decode cX6_tell 63 = .ok (.bipush (-9), 2) := by decide +kernel
theorem dX6_tell_65 : decode cX6_tell 65 = .ok (.if_icmp .eq 11, 3) := by decide +kernel
theorem dX6_tell_68 : decode cX6_tell 68 = .ok (.bipush (-10), 2) := by decide +kernel
theorem dX6_tell_70 : decode cX6_tell 70 = .ok (.aload_n 0, 1) := by decide +kernel
theorem dX6_tell_71 : decode cX6_tell 71 = .ok (.getfield 93, 3) := by decide +kernel
theorem dX6_tell_74 : decode cX6_tell 74 = .ok (.isub, 1) := by decide +kernel
theorem dX6_tell_75 : decode cX6_tell 75 = .ok (.ireturn, 1) := by decide +kernel
theorem dX6_tell_76 : decode cX6_tell 76 = .ok (.aload_n 0, 1) := by decide +kernel
theorem dX6_tell_77 : decode cX6_tell 77 = .ok (.getfield 13, 3) := by decide +kernel
theorem dX6_tell_80 : decode cX6_tell 80 = .ok (.iconst 0, 1) := by decide +kernel
theorem dX6_tell_81 : decode cX6_tell 81 = .ok (.aload_n 0, 1) := by decide +kernel
theorem dX6_tell_82 : decode cX6_tell 82 = .ok (.getfield 13, 3) := by decide +kernel
theorem dX6_tell_85 : decode cX6_tell 85 = .ok (.iconst 1, 1) := by decide +kernel
theorem dX6_tell_86 : decode cX6_tell 86 = .ok (.iaload, 1) := by decide +kernel
theorem dX6_tell_87 : decode cX6_tell 87 = .ok (.iastore, 1) := by decide +kernel
theorem dX6_tell_88 : decode cX6_tell 88 = .ok (.iconst 0, 1) := by decide +kernel
theorem dX6_tell_89 : decode cX6_tell 89 = .ok (.istore_n 2, 1) := by decide +kernel
theorem dX6_tell_90 : decode cX6_tell 90 = .ok (.iload_n 2, 1) := by decide +kernel
theorem dX6_tell_91 : decode cX6_tell 91 = .ok (.bipush 8, 2) := by decide +kernel
theorem dX6_tell_93 : decode cX6_tell 93 = .ok (.if_icmp .ge 24, 3) := by decide +kernel
theorem dX6_tell_96 : decode cX6_tell 96 = .ok (.aload_n 0, 1) := by decide +kernel
theorem dX6_tell_97 : decode cX6_tell 97 = .ok (.getfield 17, 3) := by decide +kernel
theorem dX6_tell_100 : decode cX6_tell 100 = .ok (.iload_n 2, 1) := by decide +kernel
theorem dX6_tell_101 : decode cX6_tell 101 = .ok (.aload_n 0, 1) := by decide +kernel
theorem dX6_tell_102 : decode cX6_tell 102 = .ok (.getfield 17, 3) := by decide +kernel
theorem dX6_tell_105 : decode cX6_tell 105 = .ok (.bipush 8, 2) := by decide +kernel
theorem dX6_tell_107 : decode cX6_tell 107 = .ok (.iload_n 2, 1) := by decide +kernel
theorem dX6_tell_108 : decode cX6_tell 108 = .ok (.iadd, 1) := by decide +kernel
theorem dX6_tell_109 : decode cX6_tell 109 = .ok (.iaload, 1) := by decide +kernel
theorem dX6_tell_110 : decode cX6_tell 110 = .ok (.iastore, 1) := by decide +kernel
theorem dX6_tell_111 : decode cX6_tell 111 = .ok (.iinc 2 1, 3) := by decide +kernel
theorem dX6_tell_114 : decode cX6_tell 114 = .ok (.goto (-24), 3) := by decide +kernel
theorem dX6_tell_117 : decode cX6_tell 117 = .ok (.aload_n 0, 1) := by decide +kernel
theorem dX6_tell_118 : decode cX6_tell 118 = .ok (.getfield 23, 3) := by decide +kernel
theorem dX6_tell_121 : decode cX6_tell 121 = .ok (.iconst 1, 1) := by decide +kernel
theorem dX6_tell_122 : decode cX6_tell 122 = .ok (.aload_n 0, 1) := by decide +kernel
theorem dX6_tell_123 : decode cX6_tell 123 = .ok (.getfield 20, 3) := by decide +kernel
theorem dX6_tell_126 : decode cX6_tell 126 = .ok (.iconst 1, 1) := by decide +kernel
theorem dX6_tell_127 : decode cX6_tell 127 = .ok (.iaload, 1) := by decide +kernel
theorem dX6_tell_128 : decode cX6_tell 128 = .ok (.ifCond .ne 7, 3) := by decide +kernel
theorem dX6_tell_131 : decode cX6_tell 131 = .ok (.iconst 0, 1) := by decide +kernel
theorem dX6_tell_132 : decode cX6_tell 132 = .ok (.goto 19, 3) := by decide +kernel
theorem dX6_tell_135 : decode cX6_tell 135 = .ok (.aload_n 0, 1) := by decide +kernel
theorem dX6_tell_136 : decode cX6_tell 136 = .ok (.getfield 29, 3) := by decide +kernel
theorem dX6_tell_139 : decode cX6_tell 139 = .ok (.bipush 40, 2) := by decide +kernel
theorem dX6_tell_141 : decode cX6_tell 141 = .ok (.aload_n 0, 1) := by decide +kernel
theorem dX6_tell_142 : decode cX6_tell 142 = .ok (.getfield 20, 3) := by decide +kernel
theorem dX6_tell_145 : decode cX6_tell 145 = .ok (.iconst 1, 1) := by decide +kernel
theorem dX6_tell_146 : decode cX6_tell 146 = .ok (.iaload, 1) := by decide +kernel
theorem dX6_tell_147 : decode cX6_tell 147 = .ok (.iadd, 1) := by decide +kernel
theorem dX6_tell_148 : decode cX6_tell 148 = .ok (.iconst 1, 1) := by decide +kernel
theorem dX6_tell_149 : decode cX6_tell 149 = .ok (.isub, 1) := by decide +kernel
theorem dX6_tell_150 : decode cX6_tell 150 = .ok (.iaload, 1) := by decide +kernel
theorem dX6_tell_151 : decode cX6_tell 151 = .ok (.iastore, 1) := by decide +kernel
theorem dX6_tell_152 : decode cX6_tell 152 = .ok (.aload_n 0, 1) := by decide +kernel
theorem dX6_tell_153 : decode cX6_tell 153 = .ok (.iconst 1, 1) := by decide +kernel
theorem dX6_tell_154 : decode cX6_tell 154 = .ok (.iconst 0, 1) := by decide +kernel
theorem dX6_tell_155 : decode cX6_tell 155 = .ok (.invokevirtual 113, 3) := by decide +kernel
theorem dX6_tell_158 : decode cX6_tell 158 = .ok (.aload_n 0, 1) := by decide +kernel
theorem dX6_tell_159 : decode cX6_tell 159 = .ok (.getfield 38, 3) := by decide +kernel
theorem dX6_tell_162 : decode cX6_tell 162 = .ok (.iconst 0, 1) := by decide +kernel
theorem dX6_tell_163 : decode cX6_tell 163 = .ok (.iconst 0, 1) := by decide +kernel
theorem dX6_tell_164 : decode cX6_tell 164 = .ok (.bastore, 1) := by decide +kernel
theorem dX6_tell_165 : decode cX6_tell 165 = .ok (.aload_n 0, 1) := by decide +kernel
theorem dX6_tell_166 : decode cX6_tell 166 = .ok (.getfield 38, 3) := by decide +kernel
theorem dX6_tell_169 : decode cX6_tell 169 = .ok (.iconst 1, 1) := by decide +kernel
theorem dX6_tell_170 : decode cX6_tell 170 = .ok (.iconst 0, 1) := by decide +kernel
theorem dX6_tell_171 : decode cX6_tell 171 = .ok (.bastore, 1) := by decide +kernel
theorem dX6_tell_172 : decode cX6_tell 172 = .ok (.aload_n 0, 1) := by decide +kernel
theorem dX6_tell_173 : decode cX6_tell 173 = .ok (.iconst 0, 1) := by decide +kernel
theorem dX6_tell_174 : decode cX6_tell 174 = .ok (.putfield 67, 3) := by decide +kernel
theorem dX6_tell_177 : decode cX6_tell 177 = .ok (.iload_n 1, 1) := by decide +kernel
theorem dX6_tell_178 : decode cX6_tell 178 = .ok (.ireturn, 1) := by decide +kernel
theorem dX6_isOne_0 : decode cX6_isOne 0 = .ok (.iload_n 1, 1) := by decide +kernel
theorem dX6_isOne_1 : decode cX6_isOne 1 = .ok (.iconst 0, 1) := by decide +kernel
theorem dX6_isOne_2 : decode cX6_isOne 2 = .ok (.aload_n 0, 1) := by decide +kernel
theorem dX6_isOne_3 : decode cX6_isOne 3 = .ok (.getfield 13, 3) := by decide +kernel
theorem dX6_isOne_6 : decode cX6_isOne 6 = .ok (.iconst 0, 1) := by decide +kernel
theorem dX6_isOne_7 : decode cX6_isOne 7 = .ok (.iaload, 1) := by decide +kernel
theorem dX6_isOne_8 : decode cX6_isOne 8 = .ok (.iconst 1, 1) := by decide +kernel
theorem dX6_isOne_9 : decode cX6_isOne 9 = .ok (.isub, 1) := by decide +kernel
theorem dX6_isOne_10 : decode cX6_isOne 10 = .ok (.invokestatic 63, 3) := by decide +kernel
theorem dX6_isOne_13 : decode cX6_isOne 13 = .ok (.ireturn, 1) := by decide +kernel
theorem dX6_isThing_0 : decode cX6_isThing 0 = .ok (.iload_n 0, 1) := by decide +kernel
theorem dX6_isThing_1 : decode cX6_isThing 1 = .ok (.iconst 0, 1) := by decide +kernel
theorem dX6_isThing_2 : decode cX6_isThing 2 = .ok (.iconst 3, 1) := by decide +kernel
theorem dX6_isThing_3 : decode cX6_isThing 3 = .ok (.invokestatic 63, 3) := by decide +kernel
theorem dX6_isThing_6 : decode cX6_isThing 6 = .ok (.ireturn, 1) := by decide +kernel
theorem dX6_event_0 : decode cX6_event 0 = .ok (.iload_n 1, 1) := by decide +kernel
theorem dX6_event_1 : decode cX6_event 1 = .ok (.iconst 0, 1) := by decide +kernel
theorem dX6_event_2 : decode cX6_event 2 = .ok (.aload_n 0, 1) := by decide +kernel
theorem dX6_event_3 : decode cX6_event 3 = .ok (.getfield 20, 3) := by decide +kernel
theorem dX6_event_6 : decode cX6_event 6 = .ok (.iconst 0, 1) := by decide +kernel
theorem dX6_event_7 : decode cX6_event 7 = .ok (.iaload, 1) := by decide +kernel
theorem dX6_event_8 : decode cX6_event 8 = .ok (.iconst 1, 1) := by decide +kernel
theorem dX6_event_9 : decode cX6_event 9 = .ok (.isub, 1) := by decide +kernel
theorem dX6_event_10 : decode cX6_event 10 = .ok (.invokestatic 63, 3) := by decide +kernel
theorem dX6_event_13 : decode cX6_event 13 = .ok (.ifCond .eq 12, 3) := by decide +kernel
theorem dX6_event_16 : decode cX6_event 16 = .ok (.iload_n 2, 1) := by decide +kernel
theorem dX6_event_17 : decode cX6_event 17 = .ok (.iconst 0, 1) := by decide +kernel
theorem dX6_event_18 : decode cX6_event 18 = .ok (.iconst 3, 1) := by decide +kernel
theorem dX6_event_19 : decode cX6_event 19 = .ok (.invokestatic 63, 3) := by decide +kernel
theorem dX6_event_22 : decode cX6_event 22 = .ok (.ifCond .ne 5, 3) := by decide +kernel
theorem dX6_event_25 : decode cX6_event 25 = .ok (.iconst (-1), 1) := by decide +kernel
theorem dX6_event_26 : decode cX6_event 26 = .ok (.ireturn, 1) := by decide +kernel
theorem dX6_event_27 : decode cX6_event 27 = .ok (.iload_n 2, 1) := by decide +kernel
theorem dX6_event_28 : decode cX6_event 28 = .ok (.ifCond .ne 12, 3) := by decide +kernel
theorem dX6_event_31 : decode cX6_event 31 = .ok (.aload_n 0, 1) := by decide +kernel
theorem dX6_event_32 : decode cX6_event 32 = .ok (.getfield 26, 3) := by decide +kernel
theorem dX6_event_35 : decode cX6_event 35 = .ok (.iload_n 1, 1) := by decide +kernel
theorem dX6_event_36 : decode cX6_event 36 = .ok (.iaload, 1) := by decide +kernel
theorem dX6_event_37 : decode cX6_event 37 = .ok (.goto 37, 3) := by decide +kernel
theorem dX6_event_40 : decode cX6_event 40 = .ok (.iload_n 2, 1) := by decide +kernel
theorem dX6_event_41 : decode cX6_event 41 = .ok (.iconst 1, 1) := by decide +kernel
theorem dX6_event_42 : decode cX6_event 42 = .ok (.if_icmp .ne 12, 3) := by decide +kernel
theorem dX6_event_45 : decode cX6_event 45 = .ok (.aload_n 0, 1) := by decide +kernel
theorem dX6_event_46 : decode cX6_event 46 = .ok (.getfield 29, 3) := by decide +kernel
theorem dX6_event_49 : decode cX6_event 49 = .ok (.iload_n 1, 1) := by decide +kernel
theorem dX6_event_50 : decode cX6_event 50 = .ok (.iaload, 1) := by decide +kernel
theorem dX6_event_51 : decode cX6_event 51 = .ok (.goto 23, 3) := by decide +kernel
theorem dX6_event_54 : decode cX6_event 54 = .ok (.iload_n 2, 1) := by decide +kernel
theorem dX6_event_55 : decode cX6_event 55 = .ok (.iconst 2, 1) := by decide +kernel
theorem dX6_event_56 : decode cX6_event 56 = .ok (.if_icmp .ne 12, 3) := by decide +kernel
theorem dX6_event_59 : decode cX6_event 59 = .ok (.aload_n 0, 1) := by decide +kernel
theorem dX6_event_60 : decode cX6_event 60 = .ok (.getfield 32, 3) := by decide +kernel
theorem dX6_event_63 : decode cX6_event 63 = .ok (.iload_n 1, 1) := by decide +kernel
theorem dX6_event_64 : decode cX6_event 64 = .ok (.iaload, 1) := by decide +kernel
theorem dX6_event_65 : decode cX6_event 65 = .ok (.goto 9, 3) := by decide +kernel
theorem dX6_event_68 : decode cX6_event 68 = .ok (.aload_n 0, 1) := by decide +kernel
theorem dX6_event_69 : decode cX6_event 69 = .ok (.getfield 35, 3) := by decide +kernel
theorem dX6_event_72 : decode cX6_event 72 = .ok (.iload_n 1, 1) := by decide +kernel
theorem dX6_event_73 : decode cX6_event 73 = .ok (.iaload, 1) := by decide +kernel
theorem dX6_event_74 : decode cX6_event 74 = .ok (.ireturn, 1) := by decide +kernel
theorem dX6_comes_0 : decode cX6_comes 0 = .ok (.iload_n 1, 1) := by decide +kernel
theorem dX6_comes_1 : decode cX6_comes 1 = .ok (.iconst 0, 1) := by decide +kernel
theorem dX6_comes_2 : decode cX6_comes 2 = .ok (.iconst 4, 1) := by decide +kernel
theorem dX6_comes_3 : decode cX6_comes 3 = .ok (.invokestatic 63, 3) := by decide +kernel
theorem dX6_comes_6 : decode cX6_comes 6 = .ok (.ifCond .eq 45, 3) := by decide +kernel
theorem dX6_comes_9 : decode cX6_comes 9 = .ok (.aload_n 0, 1) := by decide +kernel
theorem dX6_comes_10 : decode cX6_comes 10 = .ok (.iload_n 2, 1) := by decide +kernel
theorem dX6_comes_11 : decode cX6_comes 11 = .ok (.invokevirtual 117, 3) := by decide +kernel
theorem dX6_comes_14 : decode cX6_comes 14 = .ok (.ifCond .eq 37, 3) := by decide +kernel
theorem dX6_comes_17 : decode cX6_comes 17 = .ok (.iload_n 1, 1) := by decide +kernel
theorem dX6_comes_18 : decode cX6_comes 18 = .ok (.iconst 1, 1) := by decide +kernel
theorem dX6_comes_19 : decode cX6_comes 19 = .ok (.if_icmp .gt 19, 3) := by decide +kernel
theorem dX6_comes_22 : decode cX6_comes 22 = .ok (.aload_n 0, 1) := by decide +kernel
theorem dX6_comes_23 : decode cX6_comes 23 = .ok (.iload_n 3, 1) := by decide +kernel
theorem dX6_comes_24 : decode cX6_comes 24 = .ok (.invokevirtual 117, 3) := by decide +kernel
theorem dX6_comes_27 : decode cX6_comes 27 = .ok (.ifCond .eq 24, 3) := by decide +kernel
theorem dX6_comes_30 : decode cX6_comes 30 = .ok (.iload_n 2, 1) := by decide +kernel
theorem dX6_comes_31 : decode cX6_comes 31 = .ok (.iload_n 3, 1) := by decide +kernel
theorem dX6_comes_32 : decode cX6_comes 32 = .ok (.if_icmp .eq 19, 3) := by decide +kernel
theorem dX6_comes_35 : decode cX6_comes 35 = .ok (.goto 12, 3) := by decide +kernel
theorem dX6_comes_38 : decode cX6_comes 38 = .ok (.iload_n 3, 1) := by decide +kernel
theorem dX6_comes_39 : decode cX6_comes 39 = .ok (.iconst 0, 1) := by decide +kernel
theorem dX6_comes_40 : decode cX6_comes 40 = .ok (.iconst 3, 1) := by decide +kernel
theorem dX6_comes_41 : decode cX6_comes 41 = .ok (.invokestatic 63, 3) := by decide +kernel
theorem dX6_comes_44 : decode cX6_comes 44 = .ok (.ifCond .eq 7, 3) := by decide +kernel
theorem dX6_comes_47 : decode cX6_comes 47 = .ok (.iconst 1, 1) := by decide +kernel
theorem dX6_comes_48 : decode cX6_comes 48 = .ok (.goto 4, 3) := by decide +kernel
theorem dX6_comes_51 : decode cX6_comes 51 = .ok (.iconst 0, 1) := by decide +kernel
theorem dX6_comes_52 : decode cX6_comes 52 = .ok (.istore 4, 2) := by decide +kernel
theorem dX6_comes_54 : decode cX6_comes 54 = .ok (.iload 4, 2) := by decide +kernel
theorem dX6_comes_56 : decode cX6_comes 56 = .ok (.ifCond .ne 5, 3) := by decide +kernel
theorem dX6_comes_59 : decode cX6_comes 59 = .ok (.iconst (-1), 1) := by decide +kernel
theorem dX6_comes_60 : decode cX6_comes 60 = .ok (.ireturn, 1) := by decide +kernel
theorem dX6_comes_61 : decode cX6_comes 61 = .ok (.aload_n 0, 1) := by decide +kernel
theorem dX6_comes_62 : decode cX6_comes 62 = .ok (.getfield 20, 3) := by decide +kernel
theorem dX6_comes_65 : decode cX6_comes 65 = .ok (.iconst 0, 1) := by decide +kernel
theorem dX6_comes_66 : decode cX6_comes 66 = .ok (.iaload, 1) := by decide +kernel
theorem dX6_comes_67 : decode cX6_comes 67 = .ok (.bipush 40, 2) := by decide +kernel
theorem dX6_comes_69 : decode cX6_comes 69 = .ok (.if_icmp .eq 18, 3) := by decide +kernel
theorem dX6_comes_72 : decode cX6_comes 72 = .ok (.iload_n 1, 1) := by decide +kernel
theorem dX6_comes_73 : decode cX6_comes 73 = .ok (.iconst 1, 1) := by decide +kernel
theorem dX6_comes_74 : decode cX6_comes 74 = .ok (.if_icmp .ne 16, 3) := by decide +kernel
theorem dX6_comes_77 : decode cX6_comes 77 = .ok (.aload_n 0, 1) := by decide +kernel
theorem dX6_comes_78 : decode cX6_comes 78 = .ok (.iconst 0, 1) := by decide +kernel
theorem dX6_comes_79 : decode cX6_comes 79 = .ok (.invokevirtual 103, 3) := by decide +kernel
theorem dX6_comes_82 : decode cX6_comes 82 = .ok (.bipush 6, 2) := by decide +kernel
theorem dX6_comes_84 : decode cX6_comes 84 = .ok (.if_icmp .ne 6, 3) := by decide +kernel
theorem dX6_comes_87 : decode cX6_comes 87 = .ok (.bipush (-3), 2) := by decide +kernel
theorem dX6_comes_89 : decode cX6_comes 89 = .ok (.ireturn, 1) := by decide +kernel
theorem dX6_comes_90 : decode cX6_comes 90 = .ok (.aload_n 0, 1) := by decide +kernel
theorem dX6_comes_91 : decode cX6_comes 91 = .ok (.getfield 20, 3) := by decide +kernel
theorem dX6_comes_94 : decode cX6_comes 94 = .ok (.iconst 0, 1) := by decide +kernel
theorem dX6_comes_95 : decode cX6_comes 95 = .ok (.iaload, 1) := by decide +kernel
theorem dX6_comes_96 : decode cX6_comes 96 = .ok (.istore 5, 2) := by decide +kernel
theorem dX6_comes_98 : decode cX6_comes 98 = .ok (.aload_n 0, 1) := by decide +kernel
theorem dX6_comes_99 : decode cX6_comes 99 = .ok (.getfield 26, 3) := by decide +kernel
theorem dX6_comes_102 : decode cX6_comes 102 = .ok (.iload 5, 2) := by decide +kernel
theorem dX6_comes_104 : decode cX6_comes 104 = .ok (.iload_n 1, 1) := by decide +kernel
theorem dX6_comes_105 : decode cX6_comes 105 = .ok (.iastore, 1) := by decide +kernel
theorem dX6_comes_106 : decode cX6_comes 106 = .ok (.aload_n 0, 1) := by decide +kernel
theorem dX6_comes_107 : decode cX6_comes 107 = .ok (.getfield 29, 3) := by decide +kernel
theorem dX6_comes_110 : decode cX6_comes 110 = .ok (.iload 5, 2) := by decide +kernel
theorem dX6_comes_112 : decode cX6_comes 112 = .ok (.aload_n 0, 1) := by decide +kernel
theorem dX6_comes_113 : decode cX6_comes 113 = .ok (.getfield 23, 3) := by decide +kernel
theorem dX6_comes_116 : decode cX6_comes 116 = .ok (.iconst 0, 1) := by decide +kernel
theorem dX6_comes_117 : decode cX6_comes 117 = .ok (.iaload, 1) := by decide +kernel
theorem dX6_comes_118 : decode cX6_comes 118 = .ok (.iastore, 1) := by decide +kernel
theorem dX6_comes_119 : decode cX6_comes 119 = .ok (.aload_n 0, 1) := by decide +kernel
theorem dX6_comes_120 : decode cX6_comes 120 = .ok (.getfield 32, 3) := by decide +kernel
theorem dX6_comes_123 : decode cX6_comes 123 = .ok (.iload 5, 2) := by decide +kernel
theorem dX6_comes_125 : decode cX6_comes 125 = .ok (.iload_n 2, 1) := by decide +kernel
theorem dX6_comes_126 : decode cX6_comes 126 = .ok (.iastore, 1) := by decide +kernel
theorem dX6_comes_127 : decode cX6_comes 127 = .ok (.aload_n 0, 1) := by decide +kernel
theorem dX6_comes_128 : decode cX6_comes 128 = .ok (.getfield 35, 3) := by decide +kernel
theorem dX6_comes_131 : decode cX6_comes 131 = .ok (.iload 5, 2) := by decide +kernel
theorem dX6_comes_133 : decode cX6_comes 133 = .ok (.iload_n 3, 1) := by decide +kernel
theorem dX6_comes_134 : decode cX6_comes 134 = .ok (.iastore, 1) := by decide +kernel
theorem dX6_comes_135 : decode cX6_comes 135 = .ok (.aload_n 0, 1) := by decide +kernel
theorem dX6_comes_136 : decode cX6_comes 136 = .ok (.getfield 20, 3) := by decide +kernel
theorem dX6_comes_139 : decode cX6_comes 139 = .ok (.iconst 0, 1) := by decide +kernel
theorem dX6_comes_140 : decode cX6_comes 140 = .ok (.dup2, 1) := by decide +kernel
theorem dX6_comes_141 : decode cX6_comes 141 = .ok (.iaload, 1) := by decide +kernel
theorem dX6_comes_142 : decode cX6_comes 142 = .ok (.iconst 1, 1) := by decide +kernel
theorem dX6_comes_143 : decode cX6_comes 143 = .ok (.iadd, 1) := by decide +kernel
theorem dX6_comes_144 : decode cX6_comes 144 = .ok (.iastore, 1) := by decide +kernel
theorem dX6_comes_145 : decode cX6_comes 145 = .ok (.aload_n 0, 1) := by decide +kernel
theorem dX6_comes_146 : decode cX6_comes 146 = .ok (.getfield 20, 3) := by decide +kernel
theorem dX6_comes_149 : decode cX6_comes 149 = .ok (.iconst 0, 1) := by decide +kernel
theorem dX6_comes_150 : decode cX6_comes 150 = .ok (.iaload, 1) := by decide +kernel
theorem dX6_comes_151 : decode cX6_comes 151 = .ok (.ireturn, 1) := by decide +kernel
theorem dX6_days_0 : decode cX6_days 0 = .ok (.iload_n 1, 1) := by decide +kernel
theorem dX6_days_1 : decode cX6_days 1 = .ok (.iconst 1, 1) := by decide +kernel
theorem dX6_days_2 : decode cX6_days 2 = .ok (.bipush 99, 2) := by decide +kernel
theorem dX6_days_4 : decode cX6_days 4 = .ok (.invokestatic 63, 3) := by decide +kernel
theorem dX6_days_7 : decode cX6_days 7 = .ok (.ifCond .ne 5, 3) := by decide +kernel
theorem dX6_days_10 : decode cX6_days 10 = .ok (.iconst (-1), 1) := by decide +kernel
theorem dX6_days_11 : decode cX6_days 11 = .ok (.ireturn, 1) := by decide +kernel
theorem dX6_days_12 : decode cX6_days 12 = .ok (.aload_n 0, 1) := by decide +kernel
theorem dX6_days_13 : decode cX6_days 13 = .ok (.getfield 23, 3) := by decide +kernel
theorem dX6_days_16 : decode cX6_days 16 = .ok (.iconst 0, 1) := by decide +kernel
theorem dX6_days_17 : decode cX6_days 17 = .ok (.iaload, 1) := by decide +kernel
theorem dX6_days_18 : decode cX6_days 18 = .ok (.iload_n 1, 1) := by decide +kernel
theorem dX6_days_19 : decode cX6_days 19 = .ok (.iadd, 1) := by decide +kernel
theorem dX6_days_20 : decode cX6_days 20 = .ok (.bipush 99, 2) := by decide +kernel
theorem dX6_days_22 : decode cX6_days 22 = .ok (.if_icmp .le 6, 3) := by decide +kernel
theorem dX6_days_25 : decode cX6_days 25 = .ok (.bipush (-2), 2) := by decide +kernel
theorem dX6_days_27 : decode cX6_days 27 = .ok (.ireturn, 1) := by decide +kernel
theorem dX6_days_28 : decode cX6_days 28 = .ok (.aload_n 0, 1) := by decide +kernel
theorem dX6_days_29 : decode cX6_days 29 = .ok (.getfield 23, 3) := by decide +kernel
theorem dX6_days_32 : decode cX6_days 32 = .ok (.iconst 0, 1) := by decide +kernel
theorem dX6_days_33 : decode cX6_days 33 = .ok (.dup2, 1) := by decide +kernel
theorem dX6_days_34 : decode cX6_days 34 = .ok (.iaload, 1) := by decide +kernel
theorem dX6_days_35 : decode cX6_days 35 = .ok (.iload_n 1, 1) := by decide +kernel
theorem dX6_days_36 : decode cX6_days 36 = .ok (.iadd, 1) := by decide +kernel
theorem dX6_days_37 : decode cX6_days 37 = .ok (.iastore, 1) := by decide +kernel
theorem dX6_days_38 : decode cX6_days 38 = .ok (.aload_n 0, 1) := by decide +kernel
theorem dX6_days_39 : decode cX6_days 39 = .ok (.getfield 23, 3) := by decide +kernel
theorem dX6_days_42 : decode cX6_days 42 = .ok (.iconst 0, 1) := by decide +kernel
theorem dX6_days_43 : decode cX6_days 43 = .ok (.iaload, 1) := by decide +kernel
theorem dX6_days_44 : decode cX6_days 44 = .ok (.ireturn, 1) := by decide +kernel
theorem dX6_undo_0 : decode cX6_undo 0 = .ok (.aload_n 0, 1) := by decide +kernel
theorem dX6_undo_1 : decode cX6_undo 1 = .ok (.getfield 20, 3) := by decide +kernel
theorem dX6_undo_4 : decode cX6_undo 4 = .ok (.iconst 0, 1) := by decide +kernel
theorem dX6_undo_5 : decode cX6_undo 5 = .ok (.iaload, 1) := by decide +kernel
theorem dX6_undo_6 : decode cX6_undo 6 = .ok (.ifCond .ne 6, 3) := by decide +kernel
theorem dX6_undo_9 : decode cX6_undo 9 = .ok (.bipush (-2), 2) := by decide +kernel
theorem dX6_undo_11 : decode cX6_undo 11 = .ok (.ireturn, 1) := by decide +kernel
theorem dX6_undo_12 : decode cX6_undo 12 = .ok (.aload_n 0, 1) := by decide +kernel
theorem dX6_undo_13 : decode cX6_undo 13 = .ok (.getfield 20, 3) := by decide +kernel
theorem dX6_undo_16 : decode cX6_undo 16 = .ok (.iconst 0, 1) := by decide +kernel
theorem dX6_undo_17 : decode cX6_undo 17 = .ok (.dup2, 1) := by decide +kernel
theorem dX6_undo_18 : decode cX6_undo 18 = .ok (.iaload, 1) := by decide +kernel
theorem dX6_undo_19 : decode cX6_undo 19 = .ok (.iconst 1, 1) := by decide +kernel
theorem dX6_undo_20 : decode cX6_undo 20 = .ok (.isub, 1) := by decide +kernel
theorem dX6_undo_21 : decode cX6_undo 21 = .ok (.iastore, 1) := by decide +kernel
theorem dX6_undo_22 : decode cX6_undo 22 = .ok (.aload_n 0, 1) := by decide +kernel
theorem dX6_undo_23 : decode cX6_undo 23 = .ok (.getfield 20, 3) := by decide +kernel
theorem dX6_undo_26 : decode cX6_undo 26 = .ok (.iconst 0, 1) := by decide +kernel
theorem dX6_undo_27 : decode cX6_undo 27 = .ok (.iaload, 1) := by decide +kernel
theorem dX6_undo_28 : decode cX6_undo 28 = .ok (.ireturn, 1) := by decide +kernel
theorem dX6_plain_0 : decode cX6_plain 0 = .ok (.aload_n 0, 1) := by decide +kernel
theorem dX6_plain_1 : decode cX6_plain 1 = .ok (.iconst 0, 1) := by decide +kernel
theorem dX6_plain_2 : decode cX6_plain 2 = .ok (.putfield 121, 3) := by decide +kernel
theorem dX6_plain_5 : decode cX6_plain 5 = .ok (.aload_n 0, 1) := by decide +kernel
theorem dX6_plain_6 : decode cX6_plain 6 = .ok (.bipush 100, 2) := by decide +kernel
theorem dX6_plain_8 : decode cX6_plain 8 = .ok (.putfield 124, 3) := by decide +kernel
theorem dX6_plain_11 : decode cX6_plain 11 = .ok (.aload_n 0, 1) := by decide +kernel
theorem dX6_plain_12 : decode cX6_plain 12 = .ok (.bipush (-9), 2) := by decide +kernel
theorem dX6_plain_14 : decode cX6_plain 14 = .ok (.putfield 127, 3) := by decide +kernel
theorem dX6_plain_17 : decode cX6_plain 17 = .ok (.return_, 1) := by decide +kernel
theorem dX6_think_0 : decode cX6_think 0 = .ok (.aload_n 0, 1) := by decide +kernel
theorem dX6_think_1 : decode cX6_think 1 = .ok (.getfield 45, 3) := by decide +kernel
theorem dX6_think_4 : decode cX6_think 4 = .ok (.iconst 4, 1) := by decide +kernel
theorem dX6_think_5 : decode cX6_think 5 = .ok (.iload_n 1, 1) := by decide +kernel
theorem dX6_think_6 : decode cX6_think 6 = .ok (.imul, 1) := by decide +kernel
theorem dX6_think_7 : decode cX6_think 7 = .ok (.iload_n 2, 1) := by decide +kernel
theorem dX6_think_8 : decode cX6_think 8 = .ok (.iadd, 1) := by decide +kernel
theorem dX6_think_9 : decode cX6_think 9 = .ok (.aload_n 0, 1) := by decide +kernel
theorem dX6_think_10 : decode cX6_think 10 = .ok (.getfield 45, 3) := by decide +kernel
theorem dX6_think_13 : decode cX6_think 13 = .ok (.iconst 4, 1) := by decide +kernel
theorem dX6_think_14 : decode cX6_think 14 = .ok (.iload_n 1, 1) := by decide +kernel
theorem dX6_think_15 : decode cX6_think 15 = .ok (.imul, 1) := by decide +kernel
theorem dX6_think_16 : decode cX6_think 16 = .ok (.iload_n 2, 1) := by decide +kernel
theorem dX6_think_17 : decode cX6_think 17 = .ok (.iadd, 1) := by decide +kernel
theorem dX6_think_18 : decode cX6_think 18 = .ok (.iaload, 1) := by decide +kernel
theorem dX6_think_19 : decode cX6_think 19 = .ok (.ifCond .ne 9, 3) := by decide +kernel
theorem dX6_think_22 : decode cX6_think 22 = .ok (.iconst 1, 1) := by decide +kernel
theorem dX6_think_23 : decode cX6_think 23 = .ok (.iload_n 1, 1) := by decide +kernel
theorem dX6_think_24 : decode cX6_think 24 = .ok (.ishl, 1) := by decide +kernel
theorem dX6_think_25 : decode cX6_think 25 = .ok (.goto 13, 3) := by decide +kernel
theorem dX6_think_28 : decode cX6_think 28 = .ok (.aload_n 0, 1) := by decide +kernel
theorem dX6_think_29 : decode cX6_think 29 = .ok (.getfield 45, 3) := by decide +kernel
theorem dX6_think_32 : decode cX6_think 32 = .ok (.iconst 4, 1) := by decide +kernel
theorem dX6_think_33 : decode cX6_think 33 = .ok (.iload_n 1, 1) := by decide +kernel
theorem dX6_think_34 : decode cX6_think 34 = .ok (.imul, 1) := by decide +kernel
theorem dX6_think_35 : decode cX6_think 35 = .ok (.iload_n 2, 1) := by decide +kernel
theorem dX6_think_36 : decode cX6_think 36 = .ok (.iadd, 1) := by decide +kernel
theorem dX6_think_37 : decode cX6_think 37 = .ok (.iaload, 1) := by decide +kernel
theorem dX6_think_38 : decode cX6_think 38 = .ok (.iastore, 1) := by decide +kernel
theorem dX6_think_39 : decode cX6_think 39 = .ok (.return_, 1) := by decide +kernel
theorem dX6_areApart_0 : decode cX6_areApart 0 = .ok (.aload_n 0, 1) := by decide +kernel
theorem dX6_areApart_1 : decode cX6_areApart 1 = .ok (.getfield 48, 3) := by decide +kernel
theorem dX6_areApart_4 : decode cX6_areApart 4 = .ok (.iconst 4, 1) := by decide +kernel
theorem dX6_areApart_5 : decode cX6_areApart 5 = .ok (.iload_n 2, 1) := by decide +kernel
theorem dX6_areApart_6 : decode cX6_areApart 6 = .ok (.imul, 1) := by decide +kernel
theorem dX6_areApart_7 : decode cX6_areApart 7 = .ok (.iload_n 1, 1) := by decide +kernel
theorem dX6_areApart_8 : decode cX6_areApart 8 = .ok (.iadd, 1) := by decide +kernel
theorem dX6_areApart_9 : decode cX6_areApart 9 = .ok (.iaload, 1) := by decide +kernel
theorem dX6_areApart_10 : decode cX6_areApart 10 = .ok (.istore 5, 2) := by decide +kernel
theorem dX6_areApart_12 : decode cX6_areApart 12 = .ok (.aload_n 0, 1) := by decide +kernel
theorem dX6_areApart_13 : decode cX6_areApart 13 = .ok (.getfield 48, 3) := by decide +kernel
theorem dX6_areApart_16 : decode cX6_areApart 16 = .ok (.iconst 4, 1) := by decide +kernel
theorem dX6_areApart_17 : decode cX6_areApart 17 = .ok (.iload_n 3, 1) := by decide +kernel
theorem dX6_areApart_18 : decode cX6_areApart 18 = .ok (.imul, 1) := by decide +kernel
theorem dX6_areApart_19 : decode cX6_areApart 19 = .ok (.iload_n 1, 1) := by decide +kernel
theorem dX6_areApart_20 : decode cX6_areApart 20 = .ok (.iadd, 1) := by decide +kernel
theorem dX6_areApart_21 : decode cX6_areApart 21 = .ok (.iaload, 1) := by decide +kernel
theorem dX6_areApart_22 : decode cX6_areApart 22 = .ok (.istore 6, 2) := by decide +kernel
theorem dX6_areApart_24 : decode cX6_areApart 24 = .ok (.aload_n 0, 1) := by decide +kernel
theorem dX6_areApart_25 : decode cX6_areApart 25 = .ok (.getfield 48, 3) := by decide +kernel
theorem dX6_areApart_28 : decode cX6_areApart 28 = .ok (.iconst 4, 1) := by decide +kernel
theorem dX6_areApart_29 : decode cX6_areApart 29 = .ok (.iload 4, 2) := by decide +kernel
theorem dX6_areApart_31 : decode cX6_areApart 31 = .ok (.imul, 1) := by decide +kernel
theorem dX6_areApart_32 : decode cX6_areApart 32 = .ok (.iload_n 1, 1) := by decide +kernel
theorem dX6_areApart_33 : decode cX6_areApart 33 = .ok (.iadd, 1) := by decide +kernel
theorem dX6_areApart_34 : decode cX6_areApart 34 = .ok (.iaload, 1) := by decide +kernel
theorem dX6_areApart_35 : decode cX6_areApart 35 = .ok (.istore 7, 2) := by decide +kernel
theorem dX6_areApart_37 : decode cX6_areApart 37 = .ok (.iload 5, 2) := by decide +kernel
theorem dX6_areApart_39 : decode cX6_areApart 39 = .ok (.ifCond .eq 41, 3) := by decide +kernel
theorem dX6_areApart_42 : decode cX6_areApart 42 = .ok (.iload 6, 2) := by decide +kernel
theorem dX6_areApart_44 : decode cX6_areApart 44 = .ok (.ifCond .eq 36, 3) := by decide +kernel
theorem dX6_areApart_47 : decode cX6_areApart 47 = .ok (.iload 7, 2) := by decide +kernel
theorem dX6_areApart_49 : decode cX6_areApart 49 = .ok (.ifCond .eq 31, 3) := by decide +kernel
theorem dX6_areApart_52 : decode cX6_areApart 52 = .ok (.iload 5, 2) := by decide +kernel
theorem dX6_areApart_54 : decode cX6_areApart 54 = .ok (.iload 6, 2) := by decide +kernel
theorem dX6_areApart_56 : decode cX6_areApart 56 = .ok (.iand, 1) := by decide +kernel
theorem dX6_areApart_57 : decode cX6_areApart 57 = .ok (.ifCond .ne 23, 3) := by decide +kernel
theorem dX6_areApart_60 : decode cX6_areApart 60 = .ok (.iload 5, 2) := by decide +kernel
theorem dX6_areApart_62 : decode cX6_areApart 62 = .ok (.iload 7, 2) := by decide +kernel
theorem dX6_areApart_64 : decode cX6_areApart 64 = .ok (.iand, 1) := by decide +kernel
theorem dX6_areApart_65 : decode cX6_areApart 65 = .ok (.ifCond .ne 15, 3) := by decide +kernel
theorem dX6_areApart_68 : decode cX6_areApart 68 = .ok (.iload 6, 2) := by decide +kernel
theorem dX6_areApart_70 : decode cX6_areApart 70 = .ok (.iload 7, 2) := by decide +kernel
theorem dX6_areApart_72 : decode cX6_areApart 72 = .ok (.iand, 1) := by decide +kernel
theorem dX6_areApart_73 : decode cX6_areApart 73 = .ok (.ifCond .ne 7, 3) := by decide +kernel
theorem dX6_areApart_76 : decode cX6_areApart 76 = .ok (.iconst 1, 1) := by decide +kernel
theorem dX6_areApart_77 : decode cX6_areApart 77 = .ok (.goto 4, 3) := by decide +kernel
theorem dX6_areApart_80 : decode cX6_areApart 80 = .ok (.iconst 0, 1) := by decide +kernel
theorem dX6_areApart_81 : decode cX6_areApart 81 = .ok (.ireturn, 1) := by decide +kernel
theorem dX6_speak_0 : decode cX6_speak 0 = .ok (.aload_n 0, 1) := by decide +kernel
theorem dX6_speak_1 : decode cX6_speak 1 = .ok (.getfield 48, 3) := by decide +kernel
theorem dX6_speak_4 : decode cX6_speak 4 = .ok (.iconst 4, 1) := by decide +kernel
theorem dX6_speak_5 : decode cX6_speak 5 = .ok (.iload_n 1, 1) := by decide +kernel
theorem dX6_speak_6 : decode cX6_speak 6 = .ok (.imul, 1) := by decide +kernel
theorem dX6_speak_7 : decode cX6_speak 7 = .ok (.iload_n 2, 1) := by decide +kernel
theorem dX6_speak_8 : decode cX6_speak 8 = .ok (.iadd, 1) := by decide +kernel
theorem dX6_speak_9 : decode cX6_speak 9 = .ok (.iaload, 1) := by decide +kernel
theorem dX6_speak_10 : decode cX6_speak 10 = .ok (.ifCond .eq 4, 3) := by decide +kernel
theorem dX6_speak_13 : decode cX6_speak 13 = .ok (.return_, 1) := by decide +kernel
theorem dX6_speak_14 : decode cX6_speak 14 = .ok (.aload_n 0, 1) := by decide +kernel
theorem dX6_speak_15 : decode cX6_speak 15 = .ok (.getfield 48, 3) := by decide +kernel
theorem dX6_speak_18 : decode cX6_speak 18 = .ok (.iconst 4, 1) := by decide +kernel
theorem dX6_speak_19 : decode cX6_speak 19 = .ok (.iload_n 1, 1) := by decide +kernel
theorem dX6_speak_20 : decode cX6_speak 20 = .ok (.imul, 1) := by decide +kernel
theorem dX6_speak_21 : decode cX6_speak 21 = .ok (.iload_n 2, 1) := by decide +kernel
theorem dX6_speak_22 : decode cX6_speak 22 = .ok (.iadd, 1) := by decide +kernel
theorem dX6_speak_23 : decode cX6_speak 23 = .ok (.aload_n 0, 1) := by decide +kernel
theorem dX6_speak_24 : decode cX6_speak 24 = .ok (.getfield 45, 3) := by decide +kernel
theorem dX6_speak_27 : decode cX6_speak 27 = .ok (.iconst 4, 1) := by decide +kernel
theorem dX6_speak_28 : decode cX6_speak 28 = .ok (.iload_n 1, 1) := by decide +kernel
theorem dX6_speak_29 : decode cX6_speak 29 = .ok (.imul, 1) := by decide +kernel
theorem dX6_speak_30 : decode cX6_speak 30 = .ok (.iload_n 2, 1) := by decide +kernel
theorem dX6_speak_31 : decode cX6_speak 31 = .ok (.iadd, 1) := by decide +kernel
theorem dX6_speak_32 : decode cX6_speak 32 = .ok (.iaload, 1) := by decide +kernel
theorem dX6_speak_33 : decode cX6_speak 33 = .ok (.iastore, 1) := by decide +kernel
theorem dX6_speak_34 : decode cX6_speak 34 = .ok (.iconst 0, 1) := by decide +kernel
theorem dX6_speak_35 : decode cX6_speak 35 = .ok (.istore 4, 2) := by decide +kernel
theorem dX6_speak_37 : decode cX6_speak 37 = .ok (.iload 4, 2) := by decide +kernel
theorem dX6_speak_39 : decode cX6_speak 39 = .ok (.bipush 8, 2) := by decide +kernel
theorem dX6_speak_41 : decode cX6_speak 41 = .ok (.if_icmp .ge 121, 3) := by decide +kernel
theorem dX6_speak_44 : decode cX6_speak 44 = .ok (.aload_n 0, 1) := by decide +kernel
theorem dX6_speak_45 : decode cX6_speak 45 = .ok (.getfield 51, 3) := by decide +kernel
theorem dX6_speak_48 : decode cX6_speak 48 = .ok (.iload_n 2, 1) := by decide +kernel
theorem dX6_speak_49 : decode cX6_speak 49 = .ok (.iaload, 1) := by decide +kernel
theorem dX6_speak_50 : decode cX6_speak 50 = .ok (.bipush (-9), 2) := by decide +kernel
theorem dX6_speak_52 : decode cX6_speak 52 = .ok (.if_icmp .ne 110, 3) := by decide +kernel
theorem dX6_speak_55 : decode cX6_speak 55 = .ok (.iload 4, 2) := by decide +kernel
theorem dX6_speak_57 : decode cX6_speak 57 = .ok (.iconst 1, 1) := by decide +kernel
theorem dX6_speak_58 : decode cX6_speak 58 = .ok (.iadd, 1) := by decide +kernel
theorem dX6_speak_59 : decode cX6_speak 59 = .ok (.istore 5, 2) := by decide +kernel
theorem dX6_speak_61 : decode cX6_speak 61 = .ok (.iload 5, 2) := by decide +kernel
theorem dX6_speak_63 : decode cX6_speak 63 = .ok (.bipush 8, 2) := by decide +kernel
theorem dX6_speak_65 : decode cX6_speak 65 = .ok (.if_icmp .ge 91, 3) := by decide +kernel
theorem dX6_speak_68 : decode cX6_speak 68 = .ok (.aload_n 0, 1) := by decide +kernel
theorem dX6_speak_69 : decode cX6_speak 69 = .ok (.getfield 51, 3) := by decide +kernel
theorem dX6_speak_72 : decode cX6_speak 72 = .ok (.iload_n 2, 1) := by decide +kernel
theorem dX6_speak_73 : decode cX6_speak 73 = .ok (.iaload, 1) := by decide +kernel
theorem dX6_speak_74 : decode cX6_speak 74 = .ok (.bipush (-9), 2) := by decide +kernel
theorem dX6_speak_76 : decode cX6_speak 76 = .ok (.if_icmp .ne 80, 3) := by decide +kernel
theorem dX6_speak_79 : decode cX6_speak 79 = .ok (.iload 5, 2) := by decide +kernel
theorem dX6_speak_81 : decode cX6_speak 81 = .ok (.iconst 1, 1) := by decide +kernel
theorem dX6_speak_82 : decode cX6_speak 82 = .ok (.iadd, 1) := by decide +kernel
theorem dX6_speak_83 : decode cX6_speak 83 = .ok (.istore 6, 2) := by decide +kernel
theorem dX6_speak_85 : decode cX6_speak 85 = .ok (.iload 6, 2) := by decide +kernel
theorem dX6_speak_87 : decode cX6_speak 87 = .ok (.bipush 8, 2) := by decide +kernel
theorem dX6_speak_89 : decode cX6_speak 89 = .ok (.if_icmp .ge 61, 3) := by decide +kernel
theorem dX6_speak_92 : decode cX6_speak 92 = .ok (.aload_n 0, 1) := by decide +kernel
theorem dX6_speak_93 : decode cX6_speak 93 = .ok (.getfield 51, 3) := by decide +kernel
theorem dX6_speak_96 : decode cX6_speak 96 = .ok (.iload_n 2, 1) := by decide +kernel
theorem dX6_speak_97 : decode cX6_speak 97 = .ok (.iaload, 1) := by decide +kernel
theorem dX6_speak_98 : decode cX6_speak 98 = .ok (.bipush (-9), 2) := by decide +kernel
theorem dX6_speak_100 : decode cX6_speak 100 = .ok (.if_icmp .ne 50, 3) := by decide +kernel
theorem dX6_speak_103 : decode cX6_speak 103 = .ok (.aload_n 0, 1) := by decide +kernel
theorem dX6_speak_104 : decode cX6_speak 104 = .ok (.iload_n 2, 1) := by decide +kernel
theorem dX6_speak_105 : decode cX6_speak 105 = .ok (.iload 4, 2) := by decide +kernel
theorem dX6_speak_107 : decode cX6_speak 107 = .ok (.iload 5, 2) := by decide +kernel
theorem dX6_speak_109 : decode cX6_speak 109 = .ok (.iload 6, 2) := by decide +kernel
theorem dX6_speak_111 : decode cX6_speak 111 = .ok (.invokevirtual 130, 3) := by decide +kernel
theorem dX6_speak_114 : decode cX6_speak 114 = .ok (.ifCond .eq 30, 3) := by decide +kernel
theorem dX6_speak_117 : decode cX6_speak 117 = .ok (.aload_n 0, 1) := by decide +kernel
theorem dX6_speak_118 : decode cX6_speak 118 = .ok (.getfield 51, 3) := by decide +kernel
theorem dX6_speak_121 : decode cX6_speak 121 = .ok (.iload_n 2, 1) := by decide +kernel
theorem dX6_speak_122 : decode cX6_speak 122 = .ok (.iload_n 3, 1) := by decide +kernel
theorem dX6_speak_123 : decode cX6_speak 123 = .ok (.iastore, 1) := by decide +kernel
theorem dX6_speak_124 : decode cX6_speak 124 = .ok (.aload_n 0, 1) := by decide +kernel
theorem dX6_speak_125 : decode cX6_speak 125 = .ok (.getfield 54, 3) := by decide +kernel
theorem dX6_speak_128 : decode cX6_speak 128 = .ok (.iload_n 2, 1) := by decide +kernel
theorem dX6_speak_129 : decode cX6_speak 129 = .ok (.iconst 1, 1) := by decide +kernel
theorem dX6_speak_130 : decode cX6_speak 130 = .ok (.iload 4, 2) := by decide +kernel
theorem dX6_speak_132 : decode cX6_speak 132 = .ok (.ishl, 1) := by decide +kernel
theorem dX6_speak_133 : decode cX6_speak 133 = .ok (.iconst 1, 1) := by decide +kernel
theorem dX6_speak_134 : decode cX6_speak 134 = .ok (.iload 5, 2) := by decide +kernel
theorem dX6_speak_136 : decode cX6_speak 136 = .ok (.ishl, 1) := by decide +kernel
theorem dX6_speak_137 : decode cX6_speak 137 = .ok (.ior, 1) := by decide +kernel
theorem dX6_speak_138 : decode cX6_speak 138 = .ok (.iconst 1, 1) := by decide +kernel
theorem dX6_speak_139 : decode cX6_speak 139 = .ok (.iload 6, 2) := by decide +kernel
theorem dX6_speak_141 : decode cX6_speak 141 = .ok (.ishl, 1) := by decide +kernel
theorem dX6_speak_142 : decode cX6_speak 142 = .ok (.ior, 1) := by decide +kernel
theorem dX6_speak_143 : decode cX6_speak 143 = .ok (.iastore, 1) := by decide +kernel
theorem dX6_speak_144 : decode cX6_speak 144 = .ok (.iinc 6 1, 3) := by decide +kernel
theorem dX6_speak_147 : decode cX6_speak 147 = .ok (.goto (-62), 3) := by decide +kernel
theorem dX6_speak_150 : decode cX6_speak 150 = .ok (.iinc 5 1, 3) := by decide +kernel
theorem dX6_speak_153 : decode cX6_speak 153 = .ok (.goto (-92), 3) := by decide +kernel
theorem dX6_speak_156 : decode cX6_speak 156 = .ok (.iinc 4 1, 3) := by decide +kernel
theorem dX6_speak_159 : decode cX6_speak 159 = .ok (.goto (-122), 3) := by decide +kernel
theorem dX6_speak_162 : decode cX6_speak 162 = .ok (.return_, 1) := by decide +kernel
theorem dX6_act_0 : decode cX6_act 0 = .ok (.aload_n 0, 1) := by decide +kernel
theorem dX6_act_1 : decode cX6_act 1 = .ok (.iconst 0, 1) := by decide +kernel
theorem dX6_act_2 : decode cX6_act 2 = .ok (.putfield 134, 3) := by decide +kernel
theorem dX6_act_5 : decode cX6_act 5 = .ok (.iconst 0, 1) := by decide +kernel
theorem dX6_act_6 : decode cX6_act 6 = .ok (.istore_n 1, 1) := by decide +kernel
theorem dX6_act_7 : decode cX6_act 7 = .ok (.iload_n 1, 1) := by decide +kernel
theorem dX6_act_8 : decode cX6_act 8 = .ok (.bipush 8, 2) := by decide +kernel
theorem dX6_act_10 : decode cX6_act 10 = .ok (.if_icmp .ge 41, 3) := by decide +kernel
theorem dX6_act_13 : decode cX6_act 13 = .ok (.aload_n 0, 1) := by decide +kernel
theorem dX6_act_14 : decode cX6_act 14 = .ok (.dup, 1) := by decide +kernel
theorem dX6_act_15 : decode cX6_act 15 = .ok (.getfield 134, 3) := by decide +kernel
theorem dX6_act_18 : decode cX6_act 18 = .ok (.aload_n 0, 1) := by decide +kernel
theorem dX6_act_19 : decode cX6_act 19 = .ok (.getfield 45, 3) := by decide +kernel
theorem dX6_act_22 : decode cX6_act 22 = .ok (.iconst 4, 1) := by decide +kernel
theorem dX6_act_23 : decode cX6_act 23 = .ok (.iload_n 1, 1) := by decide +kernel
theorem dX6_act_24 : decode cX6_act 24 = .ok (.imul, 1) := by decide +kernel
theorem dX6_act_25 : decode cX6_act 25 = .ok (.aload_n 0, 1) := by decide +kernel
theorem dX6_act_26 : decode cX6_act 26 = .ok (.getfield 137, 3) := by decide +kernel
theorem dX6_act_29 : decode cX6_act 29 = .ok (.iadd, 1) := by decide +kernel
theorem dX6_act_30 : decode cX6_act 30 = .ok (.iaload, 1) := by decide +kernel
theorem dX6_act_31 : decode cX6_act 31 = .ok (.ifCond .eq 9, 3) := by decide +kernel
theorem dX6_act_34 : decode cX6_act 34 = .ok (.iconst 1, 1) := by decide +kernel
theorem dX6_act_35 : decode cX6_act 35 = .ok (.iload_n 1, 1) := by decide +kernel
theorem dX6_act_36 : decode cX6_act 36 = .ok (.ishl, 1) := by decide +kernel
theorem dX6_act_37 : decode cX6_act 37 = .ok (.goto 4, 3) := by decide +kernel
theorem dX6_act_40 : decode cX6_act 40 = .ok (.iconst 0, 1) := by decide +kernel
theorem dX6_act_41 : decode cX6_act 41 = .ok (.ior, 1) := by decide +kernel
theorem dX6_act_42 : decode cX6_act 42 = .ok (.putfield 134, 3) := by decide +kernel
theorem dX6_act_45 : decode cX6_act 45 = .ok (.iinc 1 1, 3) := by decide +kernel
theorem dX6_act_48 : decode cX6_act 48 = .ok (.goto (-41), 3) := by decide +kernel
theorem dX6_act_51 : decode cX6_act 51 = .ok (.iconst 0, 1) := by decide +kernel
theorem dX6_act_52 : decode cX6_act 52 = .ok (.istore_n 1, 1) := by decide +kernel
theorem dX6_act_53 : decode cX6_act 53 = .ok (.iload_n 1, 1) := by decide +kernel
theorem dX6_act_54 : decode cX6_act 54 = .ok (.aload_n 0, 1) := by decide +kernel
theorem dX6_act_55 : decode cX6_act 55 = .ok (.getfield 121, 3) := by decide +kernel
theorem dX6_act_58 : decode cX6_act 58 = .ok (.if_icmp .ge 99, 3) := by decide +kernel
theorem dX6_act_61 : decode cX6_act 61 = .ok (.aload_n 0, 1) := by decide +kernel
theorem dX6_act_62 : decode cX6_act 62 = .ok (.getfield 57, 3) := by decide +kernel
theorem dX6_act_65 : decode cX6_act 65 = .ok (.iload_n 1, 1) := by decide +kernel
theorem dX6_act_66 : decode cX6_act 66 = .ok (.iaload, 1) := by decide +kernel
theorem dX6_act_67 : decode cX6_act 67 = .ok (.ifCond .ge 13, 3) := by decide +kernel
theorem dX6_act_70 : decode cX6_act 70 = .ok (.aload_n 0, 1) := by decide +kernel
theorem dX6_act_71 : decode cX6_act 71 = .ok (.getfield 57, 3) := by decide +kernel
theorem dX6_act_74 : decode cX6_act 74 = .ok (.iload_n 1, 1) := by decide +kernel
theorem dX6_act_75 : decode cX6_act 75 = .ok (.iaload, 1) := by decide +kernel
theorem dX6_act_76 : decode cX6_act 76 = .ok (.ineg, 1) := by decide +kernel
theorem dX6_act_77 : decode cX6_act 77 = .ok (.goto 9, 3) := by decide +kernel
theorem dX6_act_80 : decode cX6_act 80 = .ok (.aload_n 0, 1) := by decide +kernel
theorem dX6_act_81 : decode cX6_act 81 = .ok (.getfield 57, 3) := by decide +kernel
theorem dX6_act_84 : decode cX6_act 84 = .ok (.iload_n 1, 1) := by decide +kernel
theorem dX6_act_85 : decode cX6_act 85 = .ok (.iaload, 1) := by decide +kernel
theorem dX6_act_86 : decode cX6_act 86 = .ok (.iconst 1, 1) := by decide +kernel
theorem dX6_act_87 : decode cX6_act 87 = .ok (.isub, 1) := by decide +kernel
theorem dX6_act_88 : decode cX6_act 88 = .ok (.istore_n 2, 1) := by decide +kernel
theorem dX6_act_89 : decode cX6_act 89 = .ok (.aload_n 0, 1) := by decide +kernel
theorem dX6_act_90 : decode cX6_act 90 = .ok (.getfield 57, 3) := by decide +kernel
theorem dX6_act_93 : decode cX6_act 93 = .ok (.iload_n 1, 1) := by decide +kernel
theorem dX6_act_94 : decode cX6_act 94 = .ok (.iaload, 1) := by decide +kernel
theorem dX6_act_95 : decode cX6_act 95 = .ok (.ifCond .le 28, 3) := by decide +kernel
theorem dX6_act_98 : decode cX6_act 98 = .ok (.aload_n 0, 1) := by decide +kernel
theorem dX6_act_99 : decode cX6_act 99 = .ok (.iload_n 2, 1) := by decide +kernel
theorem dX6_act_100 : decode cX6_act 100 = .ok (.aload_n 0, 1) := by decide +kernel
theorem dX6_act_101 : decode cX6_act 101 = .ok (.getfield 137, 3) := by decide +kernel
theorem dX6_act_104 : decode cX6_act 104 = .ok (.invokevirtual 140, 3) := by decide +kernel
theorem dX6_act_107 : decode cX6_act 107 = .ok (.aload_n 0, 1) := by decide +kernel
theorem dX6_act_108 : decode cX6_act 108 = .ok (.iload_n 2, 1) := by decide +kernel
theorem dX6_act_109 : decode cX6_act 109 = .ok (.aload_n 0, 1) := by decide +kernel
theorem dX6_act_110 : decode cX6_act 110 = .ok (.getfield 137, 3) := by decide +kernel
theorem dX6_act_113 : decode cX6_act 113 = .ok (.aload_n 0, 1) := by decide +kernel
theorem dX6_act_114 : decode cX6_act 114 = .ok (.getfield 124, 3) := by decide +kernel
theorem dX6_act_117 : decode cX6_act 117 = .ok (.invokevirtual 143, 3) := by decide +kernel
theorem dX6_act_120 : decode cX6_act 120 = .ok (.goto 31, 3) := by decide +kernel
theorem dX6_act_123 : decode cX6_act 123 = .ok (.aload_n 0, 1) := by decide +kernel
theorem dX6_act_124 : decode cX6_act 124 = .ok (.getfield 57, 3) := by decide +kernel
theorem dX6_act_127 : decode cX6_act 127 = .ok (.iload_n 1, 1) := by decide +kernel
theorem dX6_act_128 : decode cX6_act 128 = .ok (.iaload, 1) := by decide +kernel
theorem dX6_act_129 : decode cX6_act 129 = .ok (.ifCond .ge 22, 3) := by decide +kernel
theorem dX6_act_132 : decode cX6_act 132 = .ok (.aload_n 0, 1) := by decide +kernel
theorem dX6_act_133 : decode cX6_act 133 = .ok (.getfield 45, 3) := by decide +kernel
theorem dX6_act_136 : decode cX6_act 136 = .ok (.iconst 4, 1) := by decide +kernel
theorem dX6_act_137 : decode cX6_act 137 = .ok (.iload_n 2, 1) := by decide +kernel
theorem dX6_act_138 : decode cX6_act 138 = .ok (.imul, 1) := by decide +kernel
theorem dX6_act_139 : decode cX6_act 139 = .ok (.aload_n 0, 1) := by decide +kernel
theorem dX6_act_140 : decode cX6_act 140 = .ok (.getfield 137, 3) := by decide +kernel
theorem dX6_act_143 : decode cX6_act 143 = .ok (.iadd, 1) := by decide +kernel
theorem dX6_act_144 : decode cX6_act 144 = .ok (.dup2, 1) := by decide +kernel
theorem dX6_act_145 : decode cX6_act 145 = .ok (.iaload, 1) := by decide +kernel
theorem dX6_act_146 : decode cX6_act 146 = .ok (.sipush 256, 3) := by decide +kernel
theorem dX6_act_149 : decode cX6_act 149 = .ok (.ior, 1) := by decide +kernel
theorem dX6_act_150 : decode cX6_act 150 = .ok (.iastore, 1) := by decide +kernel
theorem dX6_act_151 : decode cX6_act 151 = .ok (.iinc 1 1, 3) := by decide +kernel
theorem dX6_act_154 : decode cX6_act 154 = .ok (.goto (-101), 3) := by decide +kernel
theorem dX6_act_157 : decode cX6_act 157 = .ok (.aload_n 0, 1) := by decide +kernel
theorem dX6_act_158 : decode cX6_act 158 = .ok (.getfield 127, 3) := by decide +kernel
theorem dX6_act_161 : decode cX6_act 161 = .ok (.bipush (-9), 2) := by decide +kernel
theorem dX6_act_163 : decode cX6_act 163 = .ok (.if_icmp .eq 16, 3) := by decide +kernel
theorem dX6_act_166 : decode cX6_act 166 = .ok (.aload_n 0, 1) := by decide +kernel
theorem dX6_act_167 : decode cX6_act 167 = .ok (.getfield 42, 3) := by decide +kernel
theorem dX6_act_170 : decode cX6_act 170 = .ok (.aload_n 0, 1) := by decide +kernel
theorem dX6_act_171 : decode cX6_act 171 = .ok (.getfield 127, 3) := by decide +kernel
theorem dX6_act_174 : decode cX6_act 174 = .ok (.aload_n 0, 1) := by decide +kernel
theorem dX6_act_175 : decode cX6_act 175 = .ok (.getfield 147, 3) := by decide +kernel
theorem dX6_act_178 : decode cX6_act 178 = .ok (.iastore, 1) := by decide +kernel
theorem dX6_act_179 : decode cX6_act 179 = .ok (.return_, 1) := by decide +kernel
theorem dX6_hasAny_0 : decode cX6_hasAny 0 = .ok (.iconst 0, 1) := by decide +kernel
theorem dX6_hasAny_1 : decode cX6_hasAny 1 = .ok (.istore_n 2, 1) := by decide +kernel
theorem dX6_hasAny_2 : decode cX6_hasAny 2 = .ok (.iconst 0, 1) := by decide +kernel
theorem dX6_hasAny_3 : decode cX6_hasAny 3 = .ok (.istore_n 3, 1) := by decide +kernel
theorem dX6_hasAny_4 : decode cX6_hasAny 4 = .ok (.iload_n 3, 1) := by decide +kernel
theorem dX6_hasAny_5 : decode cX6_hasAny 5 = .ok (.iconst 4, 1) := by decide +kernel
theorem dX6_hasAny_6 : decode cX6_hasAny 6 = .ok (.if_icmp .ge 32, 3) := by decide +kernel
theorem dX6_hasAny_9 : decode cX6_hasAny 9 = .ok (.iload_n 2, 1) := by decide +kernel
theorem dX6_hasAny_10 : decode cX6_hasAny 10 = .ok (.ifCond .ne 16, 3) := by decide +kernel
theorem dX6_hasAny_13 : decode cX6_hasAny 13 = .ok (.aload_n 0, 1) := by decide +kernel
theorem dX6_hasAny_14 : decode cX6_hasAny 14 = .ok (.getfield 45, 3) := by decide +kernel
theorem dX6_hasAny_17 : decode cX6_hasAny 17 = .ok (.iconst 4, 1) := by decide +kernel
theorem dX6_hasAny_18 : decode cX6_hasAny 18 = .ok (.iload_n 1, 1) := by decide +kernel
theorem dX6_hasAny_19 : decode cX6_hasAny 19 = .ok (.imul, 1) := by decide +kernel
theorem dX6_hasAny_20 : decode cX6_hasAny 20 = .ok (.iload_n 3, 1) := by decide +kernel
theorem dX6_hasAny_21 : decode cX6_hasAny 21 = .ok (.iadd, 1) := by decide +kernel
theorem dX6_hasAny_22 : decode cX6_hasAny 22 = .ok (.iaload, 1) := by decide +kernel
theorem dX6_hasAny_23 : decode cX6_hasAny 23 = .ok (.ifCond .eq 7, 3) := by decide +kernel
theorem dX6_hasAny_26 : decode cX6_hasAny 26 = .ok (.iconst 1, 1) := by decide +kernel
theorem dX6_hasAny_27 : decode cX6_hasAny 27 = .ok (.goto 4, 3) := by decide +kernel
theorem dX6_hasAny_30 : decode cX6_hasAny 30 = .ok (.iconst 0, 1) := by decide +kernel
theorem dX6_hasAny_31 : decode cX6_hasAny 31 = .ok (.istore_n 2, 1) := by decide +kernel
theorem dX6_hasAny_32 : decode cX6_hasAny 32 = .ok (.iinc 3 1, 3) := by decide +kernel
theorem dX6_hasAny_35 : decode cX6_hasAny 35 = .ok (.goto (-31), 3) := by decide +kernel
theorem dX6_hasAny_38 : decode cX6_hasAny 38 = .ok (.iload_n 2, 1) := by decide +kernel
theorem dX6_hasAny_39 : decode cX6_hasAny 39 = .ok (.ireturn, 1) := by decide +kernel
theorem dX6_goEvent_0 : decode cX6_goEvent 0 = .ok (.aload_n 0, 1) := by decide +kernel
theorem dX6_goEvent_1 : decode cX6_goEvent 1 = .ok (.getfield 32, 3) := by decide +kernel
theorem dX6_goEvent_4 : decode cX6_goEvent 4 = .ok (.iload_n 1, 1) := by decide +kernel
theorem dX6_goEvent_5 : decode cX6_goEvent 5 = .ok (.iaload, 1) := by decide +kernel
theorem dX6_goEvent_6 : decode cX6_goEvent 6 = .ok (.istore_n 2, 1) := by decide +kernel
theorem dX6_goEvent_7 : decode cX6_goEvent 7 = .ok (.aload_n 0, 1) := by decide +kernel
theorem dX6_goEvent_8 : decode cX6_goEvent 8 = .ok (.getfield 35, 3) := by decide +kernel
theorem dX6_goEvent_11 : decode cX6_goEvent 11 = .ok (.iload_n 1, 1) := by decide +kernel
theorem dX6_goEvent_12 : decode cX6_goEvent 12 = .ok (.iaload, 1) := by decide +kernel
theorem dX6_goEvent_13 : decode cX6_goEvent 13 = .ok (.istore_n 3, 1) := by decide +kernel
theorem dX6_goEvent_14 : decode cX6_goEvent 14 = .ok (.aload_n 0, 1) := by decide +kernel
theorem dX6_goEvent_15 : decode cX6_goEvent 15 = .ok (.getfield 26, 3) := by decide +kernel
theorem dX6_goEvent_18 : decode cX6_goEvent 18 = .ok (.iload_n 1, 1) := by decide +kernel
theorem dX6_goEvent_19 : decode cX6_goEvent 19 = .ok (.iaload, 1) := by decide +kernel
theorem dX6_goEvent_20 : decode cX6_goEvent 20 = .ok (.ifCond .eq 13, 3) := by decide +kernel
theorem dX6_goEvent_23 : decode cX6_goEvent 23 = .ok (.aload_n 0, 1) := by decide +kernel
theorem dX6_goEvent_24 : decode cX6_goEvent 24 = .ok (.getfield 26, 3) := by decide +kernel
theorem dX6_goEvent_27 : decode cX6_goEvent 27 = .ok (.iload_n 1, 1) := by decide +kernel
theorem dX6_goEvent_28 : decode cX6_goEvent 28 = .ok (.iaload, 1) := by decide +kernel
theorem dX6_goEvent_29 : decode cX6_goEvent 29 = .ok (.iconst 1, 1) := by decide +kernel
theorem dX6_goEvent_30 : decode cX6_goEvent 30 = .ok (.if_icmp .ne 46, 3) := by decide +kernel
theorem dX6_goEvent_33 : decode cX6_goEvent 33 = .ok (.iconst 0, 1) := by decide +kernel
theorem dX6_goEvent_34 : decode cX6_goEvent 34 = .ok (.istore 4, 2) := by decide +kernel
theorem dX6_goEvent_36 : decode cX6_goEvent 36 = .ok (.iload 4, 2) := by decide +kernel
theorem dX6_goEvent_38 : decode cX6_goEvent 38 = .ok (.iconst 4, 1) := by decide +kernel
theorem dX6_goEvent_39 : decode cX6_goEvent 39 = .ok (.if_icmp .ge 34, 3) := by decide +kernel
theorem dX6_goEvent_42 : decode cX6_goEvent 42 = .ok (.aload_n 0, 1) := by decide +kernel
theorem dX6_goEvent_43 : decode cX6_goEvent 43 = .ok (.getfield 45, 3) := by decide +kernel
theorem dX6_goEvent_46 : decode cX6_goEvent 46 = .ok (.iconst 4, 1) := by decide +kernel
theorem dX6_goEvent_47 : decode cX6_goEvent 47 = .ok (.iload_n 3, 1) := by decide +kernel
theorem dX6_goEvent_48 : decode cX6_goEvent 48 = .ok (.imul, 1) := by decide +kernel
theorem dX6_goEvent_49 : decode cX6_goEvent 49 = .ok (.iload 4, 2) := by decide +kernel
theorem dX6_goEvent_51 : decode cX6_goEvent 51 = .ok (.iadd, 1) := by decide +kernel
theorem dX6_goEvent_52 : decode cX6_goEvent 52 = .ok (.dup2, 1) := by decide +kernel
theorem dX6_goEvent_53 : decode cX6_goEvent 53 = .ok (.iaload, 1) := by decide +kernel
theorem dX6_goEvent_54 : decode cX6_goEvent 54 = .ok (.aload_n 0, 1) := by decide +kernel
theorem dX6_goEvent_55 : decode cX6_goEvent 55 = .ok (.getfield 45, 3) := by decide +kernel
theorem dX6_goEvent_58 : decode cX6_goEvent 58 = .ok (.iconst 4, 1) := by decide +kernel
theorem dX6_goEvent_59 : decode cX6_goEvent 59 = .ok (.iload_n 2, 1) := by decide +kernel
theorem dX6_goEvent_60 : decode cX6_goEvent 60 = .ok (.imul, 1) := by decide +kernel
theorem dX6_goEvent_61 : decode cX6_goEvent 61 = .ok (.iload 4, 2) := by decide +kernel
theorem dX6_goEvent_63 : decode cX6_goEvent 63 = .ok (.iadd, 1) := by decide +kernel
theorem dX6_goEvent_64 : decode cX6_goEvent 64 = .ok (.iaload, 1) := by decide +kernel
theorem dX6_goEvent_65 : decode cX6_goEvent 65 = .ok (.ior, 1) := by decide +kernel
theorem dX6_goEvent_66 : decode cX6_goEvent 66 = .ok (.iastore, 1) := by decide +kernel
theorem dX6_goEvent_67 : decode cX6_goEvent 67 = .ok (.iinc 4 1, 3) := by decide +kernel
theorem dX6_goEvent_70 : decode cX6_goEvent 70 = .ok (.goto (-34), 3) := by decide +kernel
theorem dX6_goEvent_73 : decode cX6_goEvent 73 = .ok (.goto 145, 3) := by decide +kernel
theorem dX6_goEvent_76 : decode cX6_goEvent 76 = .ok (.aload_n 0, 1) := by decide +kernel
theorem dX6_goEvent_77 : decode cX6_goEvent 77 = .ok (.getfield 26, 3) := by decide +kernel
theorem dX6_goEvent_80 : decode cX6_goEvent 80 = .ok (.iload_n 1, 1) := by decide +kernel
theorem dX6_goEvent_81 : decode cX6_goEvent 81 = .ok (.iaload, 1) := by decide +kernel
theorem dX6_goEvent_82 : decode cX6_goEvent 82 = .ok (.iconst 2, 1) := by decide +kernel
theorem dX6_goEvent_83 : decode cX6_goEvent 83 = .ok (.if_icmp .ne 12, 3) := by decide +kernel
theorem dX6_goEvent_86 : decode cX6_goEvent 86 = .ok (.aload_n 0, 1) := by decide +kernel
theorem dX6_goEvent_87 : decode cX6_goEvent 87 = .ok (.iload_n 2, 1) := by decide +kernel
theorem dX6_goEvent_88 : decode cX6_goEvent 88 = .ok (.iload_n 3, 1) := by decide +kernel
theorem dX6_goEvent_89 : decode cX6_goEvent 89 = .ok (.invokevirtual 140, 3) := by decide +kernel
theorem dX6_goEvent_92 : decode cX6_goEvent 92 = .ok (.goto 126, 3) := by decide +kernel
theorem dX6_goEvent_95 : decode cX6_goEvent 95 = .ok (.aload_n 0, 1) := by decide +kernel
theorem dX6_goEvent_96 : decode cX6_goEvent 96 = .ok (.getfield 26, 3) := by decide +kernel
theorem dX6_goEvent_99 : decode cX6_goEvent 99 = .ok (.iload_n 1, 1) := by decide +kernel
theorem dX6_goEvent_100 : decode cX6_goEvent 100 = .ok (.iaload, 1) := by decide +kernel
theorem dX6_goEvent_101 : decode cX6_goEvent 101 = .ok (.iconst 3, 1) := by decide +kernel
theorem dX6_goEvent_102 : decode cX6_goEvent 102 = .ok (.if_icmp .ne 88, 3) := by decide +kernel
theorem dX6_goEvent_105 : decode cX6_goEvent 105 = .ok (.aload_n 0, 1) := by decide +kernel
theorem dX6_goEvent_106 : decode cX6_goEvent 106 = .ok (.iload_n 2, 1) := by decide +kernel
theorem dX6_goEvent_107 : decode cX6_goEvent 107 = .ok (.iload_n 3, 1) := by decide +kernel
theorem dX6_goEvent_108 : decode cX6_goEvent 108 = .ok (.invokevirtual 140, 3) := by decide +kernel
theorem dX6_goEvent_111 : decode cX6_goEvent 111 = .ok (.aload_n 0, 1) := by decide +kernel
theorem dX6_goEvent_112 : decode cX6_goEvent 112 = .ok (.iload_n 2, 1) := by decide +kernel
theorem dX6_goEvent_113 : decode cX6_goEvent 113 = .ok (.iload_n 3, 1) := by decide +kernel
theorem dX6_goEvent_114 : decode cX6_goEvent 114 = .ok (.aload_n 0, 1) := by decide +kernel
theorem dX6_goEvent_115 : decode cX6_goEvent 115 = .ok (.getfield 29, 3) := by decide +kernel
theorem dX6_goEvent_118 : decode cX6_goEvent 118 = .ok (.iload_n 1, 1) := by decide +kernel
theorem dX6_goEvent_119 : decode cX6_goEvent 119 = .ok (.iaload, 1) := by decide +kernel
theorem dX6_goEvent_120 : decode cX6_goEvent 120 = .ok (.invokevirtual 143, 3) := by decide +kernel
theorem dX6_goEvent_123 : decode cX6_goEvent 123 = .ok (.iconst 0, 1) := by decide +kernel
theorem dX6_goEvent_124 : decode cX6_goEvent 124 = .ok (.istore 4, 2) := by decide +kernel
theorem dX6_goEvent_126 : decode cX6_goEvent 126 = .ok (.iload 4, 2) := by decide +kernel
theorem dX6_goEvent_128 : decode cX6_goEvent 128 = .ok (.aload_n 0, 1) := by decide +kernel
theorem dX6_goEvent_129 : decode cX6_goEvent 129 = .ok (.getfield 13, 3) := by decide +kernel
theorem dX6_goEvent_132 : decode cX6_goEvent 132 = .ok (.iconst 0, 1) := by decide +kernel
theorem dX6_goEvent_133 : decode cX6_goEvent 133 = .ok (.iaload, 1) := by decide +kernel
theorem dX6_goEvent_134 : decode cX6_goEvent 134 = .ok (.if_icmp .ge 53, 3) := by decide +kernel
theorem dX6_goEvent_137 : decode cX6_goEvent 137 = .ok (.aload_n 0, 1) := by decide +kernel
theorem dX6_goEvent_138 : decode cX6_goEvent 138 = .ok (.getfield 45, 3) := by decide +kernel
theorem dX6_goEvent_141 : decode cX6_goEvent 141 = .ok (.iconst 4, 1) := by decide +kernel
theorem dX6_goEvent_142 : decode cX6_goEvent 142 = .ok (.iload 4, 2) := by decide +kernel
theorem dX6_goEvent_144 : decode cX6_goEvent 144 = .ok (.imul, 1) := by decide +kernel
theorem dX6_goEvent_145 : decode cX6_goEvent 145 = .ok (.iload_n 3, 1) := by decide +kernel
theorem dX6_goEvent_146 : decode cX6_goEvent 146 = .ok (.iadd, 1) := by decide +kernel
theorem dX6_goEvent_147 : decode cX6_goEvent 147 = .ok (.dup2, 1) := by decide +kernel
theorem dX6_goEvent_148 : decode cX6_goEvent 148 = .ok (.iaload, 1) := by decide +kernel
theorem dX6_goEvent_149 : decode cX6_goEvent 149 = .ok (.aload_n 0, 1) := by decide +kernel
theorem dX6_goEvent_150 : decode cX6_goEvent 150 = .ok (.getfield 42, 3) := by decide +kernel
theorem dX6_goEvent_153 : decode cX6_goEvent 153 = .ok (.iload 4, 2) := by decide +kernel
theorem dX6_goEvent_155 : decode cX6_goEvent 155 = .ok (.iaload, 1) := by decide +kernel
theorem dX6_goEvent_156 : decode cX6_goEvent 156 = .ok (.aload_n 0, 1) := by decide +kernel
theorem dX6_goEvent_157 : decode cX6_goEvent 157 = .ok (.getfield 42, 3) := by decide +kernel
theorem dX6_goEvent_160 : decode cX6_goEvent 160 = .ok (.iload_n 2, 1) := by decide +kernel
theorem dX6_goEvent_161 : decode cX6_goEvent 161 = .ok (.iaload, 1) := by decide +kernel
theorem dX6_goEvent_162 : decode cX6_goEvent 162 = .ok (.if_icmp .ne 16, 3) := by decide +kernel
theorem dX6_goEvent_165 : decode cX6_goEvent 165 = .ok (.aload_n 0, 1) := by decide +kernel
theorem dX6_goEvent_166 : decode cX6_goEvent 166 = .ok (.getfield 45, 3) := by decide +kernel
theorem dX6_goEvent_169 : decode cX6_goEvent 169 = .ok (.iconst 4, 1) := by decide +kernel
theorem dX6_goEvent_170 : decode cX6_goEvent 170 = .ok (.iload_n 2, 1) := by decide +kernel
theorem dX6_goEvent_171 : decode cX6_goEvent 171 = .ok (.imul, 1) := by decide +kernel
theorem dX6_goEvent_172 : decode cX6_goEvent 172 = .ok (.iload_n 3, 1) := by decide +kernel
theorem dX6_goEvent_173 : decode cX6_goEvent 173 = .ok (.iadd, 1) := by decide +kernel
theorem dX6_goEvent_174 : decode cX6_goEvent 174 = .ok (.iaload, 1) := by decide +kernel
theorem dX6_goEvent_175 : decode cX6_goEvent 175 = .ok (.goto 4, 3) := by decide +kernel
theorem dX6_goEvent_178 : decode cX6_goEvent 178 = .ok (.iconst 0, 1) := by decide +kernel
theorem dX6_goEvent_179 : decode cX6_goEvent 179 = .ok (.ior, 1) := by decide +kernel
theorem dX6_goEvent_180 : decode cX6_goEvent 180 = .ok (.iastore, 1) := by decide +kernel
theorem dX6_goEvent_181 : decode cX6_goEvent 181 = .ok (.iinc 4 1, 3) := by decide +kernel
theorem dX6_goEvent_184 : decode cX6_goEvent 184 = .ok (.goto (-58), 3) := by decide +kernel
theorem dX6_goEvent_187 : decode cX6_goEvent 187 = .ok (.goto 31, 3) := by decide +kernel
theorem dX6_goEvent_190 : decode cX6_goEvent 190 = .ok (.iload_n 2, 1) := by decide +kernel
theorem dX6_goEvent_191 : decode cX6_goEvent 191 = .ok (.aload_n 0, 1) := by decide +kernel
theorem dX6_goEvent_192 : decode cX6_goEvent 192 = .ok (.getfield 127, 3) := by decide +kernel
theorem dX6_goEvent_195 : decode cX6_goEvent 195 = .ok (.if_icmp .ne 16, 3) := by decide +kernel
theorem dX6_goEvent_198 : decode cX6_goEvent 198 = .ok (.aload_n 0, 1) := by decide +kernel
theorem dX6_goEvent_199 : decode cX6_goEvent 199 = .ok (.getfield 29, 3) := by decide +kernel
theorem dX6_goEvent_202 : decode cX6_goEvent 202 = .ok (.iload_n 1, 1) := by decide +kernel
theorem dX6_goEvent_203 : decode cX6_goEvent 203 = .ok (.iaload, 1) := by decide +kernel
theorem dX6_goEvent_204 : decode cX6_goEvent 204 = .ok (.aload_n 0, 1) := by decide +kernel
theorem dX6_goEvent_205 : decode cX6_goEvent 205 = .ok (.getfield 124, 3) := by decide +kernel
theorem dX6_goEvent_208 : decode cX6_goEvent 208 = .ok (.if_icmp .ge 10, 3) := by decide +kernel
theorem dX6_goEvent_211 : decode cX6_goEvent 211 = .ok (.aload_n 0, 1) := by decide +kernel
theorem dX6_goEvent_212 : decode cX6_goEvent 212 = .ok (.getfield 42, 3) := by decide +kernel
theorem dX6_goEvent_215 : decode cX6_goEvent 215 = .ok (.iload_n 2, 1) := by decide +kernel
theorem dX6_goEvent_216 : decode cX6_goEvent 216 = .ok (.iload_n 3, 1) := by decide +kernel
theorem dX6_goEvent_217 : decode cX6_goEvent 217 = .ok (.iastore, 1) := by decide +kernel
theorem dX6_goEvent_218 : decode cX6_goEvent 218 = .ok (.return_, 1) := by decide +kernel
theorem dX6_go_0 : decode cX6_go 0 = .ok (.iconst 0, 1) := by decide +kernel
theorem dX6_go_1 : decode cX6_go 1 = .ok (.istore_n 2, 1) := by decide +kernel
theorem dX6_go_2 : decode cX6_go 2 = .ok (.iload_n 2, 1) := by decide +kernel
theorem dX6_go_3 : decode cX6_go 3 = .ok (.bipush 8, 2) := by decide +kernel
theorem dX6_go_5 : decode cX6_go 5 = .ok (.if_icmp .ge 21, 3) := by decide +kernel
theorem dX6_go_8 : decode cX6_go 8 = .ok (.aload_n 0, 1) := by decide +kernel
theorem dX6_go_9 : decode cX6_go 9 = .ok (.getfield 42, 3) := by decide +kernel
theorem dX6_go_12 : decode cX6_go 12 = .ok (.iload_n 2, 1) := by decide +kernel
theorem dX6_go_13 : decode cX6_go 13 = .ok (.aload_n 0, 1) := by decide +kernel
theorem dX6_go_14 : decode cX6_go 14 = .ok (.getfield 17, 3) := by decide +kernel
theorem dX6_go_17 : decode cX6_go 17 = .ok (.iload_n 2, 1) := by decide +kernel
theorem dX6_go_18 : decode cX6_go 18 = .ok (.iaload, 1) := by decide +kernel
theorem dX6_go_19 : decode cX6_go 19 = .ok (.iastore, 1) := by decide +kernel
theorem dX6_go_20 : decode cX6_go 20 = .ok (.iinc 2 1, 3) := by decide +kernel
theorem dX6_go_23 : decode cX6_go 23 = .ok (.goto (-21), 3) := by decide +kernel
theorem dX6_go_26 : decode cX6_go 26 = .ok (.iconst 0, 1) := by decide +kernel
theorem dX6_go_27 : decode cX6_go 27 = .ok (.istore_n 2, 1) := by decide +kernel
theorem dX6_go_28 : decode cX6_go 28 = .ok (.iload_n 2, 1) := by decide +kernel
theorem dX6_go_29 : decode cX6_go 29 = .ok (.bipush 32, 2) := by decide +kernel
theorem dX6_go_31 : decode cX6_go 31 = .ok (.if_icmp .ge 23, 3) := by decide +kernel
theorem dX6_go_34 : decode cX6_go 34 = .ok (.aload_n 0, 1) := by decide +kernel
theorem dX6_go_35 : decode cX6_go 35 = .ok (.getfield 45, 3) := by decide +kernel
theorem dX6_go_38 : decode cX6_go 38 = .ok (.iload_n 2, 1) := by decide +kernel
theorem dX6_go_39 : decode cX6_go 39 = .ok (.iconst 0, 1) := by decide +kernel
theorem dX6_go_40 : decode cX6_go 40 = .ok (.iastore, 1) := by decide +kernel
theorem dX6_go_41 : decode cX6_go 41 = .ok (.aload_n 0, 1) := by decide +kernel
theorem dX6_go_42 : decode cX6_go 42 = .ok (.getfield 48, 3) := by decide +kernel
theorem dX6_go_45 : decode cX6_go 45 = .ok (.iload_n 2, 1) := by decide +kernel
theorem dX6_go_46 : decode cX6_go 46 = .ok (.iconst 0, 1) := by decide +kernel
theorem dX6_go_47 : decode cX6_go 47 = .ok (.iastore, 1) := by decide +kernel
theorem dX6_go_48 : decode cX6_go 48 = .ok (.iinc 2 1, 3) := by decide +kernel
theorem dX6_go_51 : decode cX6_go 51 = .ok (.goto (-23), 3) := by decide +kernel
theorem dX6_go_54 : decode cX6_go 54 = .ok (.iconst 0, 1) := by decide +kernel
theorem dX6_go_55 : decode cX6_go 55 = .ok (.istore_n 2, 1) := by decide +kernel
theorem dX6_go_56 : decode cX6_go 56 = .ok (.iload_n 2, 1) := by decide +kernel
theorem dX6_go_57 : decode cX6_go 57 = .ok (.iconst 4, 1) := by decide +kernel
theorem dX6_go_58 : decode cX6_go 58 = .ok (.if_icmp .ge 25, 3) := by decide +kernel
theorem dX6_go_61 : decode cX6_go 61 = .ok (.aload_n 0, 1) := by decide +kernel
theorem dX6_go_62 : decode cX6_go 62 = .ok (.getfield 51, 3) := by decide +kernel
theorem dX6_go_65 : decode cX6_go 65 = .ok (.iload_n 2, 1) := by decide +kernel
theorem dX6_go_66 : decode cX6_go 66 = .ok (.bipush (-9), 2) := by decide +kernel
theorem dX6_go_68 : decode cX6_go 68 = .ok (.iastore, 1) := by decide +kernel
theorem dX6_go_69 : decode cX6_go 69 = .ok (.aload_n 0, 1) := by decide +kernel
theorem dX6_go_70 : decode cX6_go 70 = .ok (.getfield 54, 3) := by decide +kernel
theorem dX6_go_73 : decode cX6_go 73 = .ok (.iload_n 2, 1) := by decide +kernel
theorem dX6_go_74 : decode cX6_go 74 = .ok (.bipush (-9), 2) := by decide +kernel
theorem dX6_go_76 : decode cX6_go 76 = .ok (.iastore, 1) := by decide +kernel
theorem dX6_go_77 : decode cX6_go 77 = .ok (.iinc 2 1, 3) := by decide +kernel
theorem dX6_go_80 : decode cX6_go 80 = .ok (.goto (-24), 3) := by decide +kernel
theorem dX6_go_83 : decode cX6_go 83 = .ok (.aload_n 0, 1) := by decide +kernel
theorem dX6_go_84 : decode cX6_go 84 = .ok (.iconst 0, 1) := by decide +kernel
theorem dX6_go_85 : decode cX6_go 85 = .ok (.putfield 150, 3) := by decide +kernel
theorem dX6_go_88 : decode cX6_go 88 = .ok (.iconst 0, 1) := by decide +kernel
theorem dX6_go_89 : decode cX6_go 89 = .ok (.istore_n 2, 1) := by decide +kernel
theorem dX6_go_90 : decode cX6_go 90 = .ok (.iconst 0, 1) := by decide +kernel
theorem dX6_go_91 : decode cX6_go 91 = .ok (.istore_n 3, 1) := by decide +kernel
theorem dX6_go_92 : decode cX6_go 92 = .ok (.iconst 0, 1) := by decide +kernel
theorem dX6_go_93 : decode cX6_go 93 = .ok (.istore 4, 2) := by decide +kernel
theorem dX6_go_95 : decode cX6_go 95 = .ok (.iload 4, 2) := by decide +kernel
theorem dX6_go_97 : decode cX6_go 97 = .ok (.aload_n 0, 1) := by decide +kernel
theorem dX6_go_98 : decode cX6_go 98 = .ok (.getfield 20, 3) := by decide +kernel
theorem dX6_go_101 : decode cX6_go 101 = .ok (.iconst 0, 1) := by decide +kernel
theorem dX6_go_102 : decode cX6_go 102 = .ok (.iaload, 1) := by decide +kernel
theorem dX6_go_103 : decode cX6_go 103 = .ok (.if_icmp .ge 131, 3) := by decide +kernel
theorem dX6_go_106 : decode cX6_go 106 = .ok (.iload_n 3, 1) := by decide +kernel
theorem dX6_go_107 : decode cX6_go 107 = .ok (.ifCond .ne 23, 3) := by decide +kernel
theorem dX6_go_110 : decode cX6_go 110 = .ok (.aload_n 0, 1) := by decide +kernel
theorem dX6_go_111 : decode cX6_go 111 = .ok (.getfield 29, 3) := by decide +kernel
theorem dX6_go_114 : decode cX6_go 114 = .ok (.iload 4, 2) := by decide +kernel
theorem dX6_go_116 : decode cX6_go 116 = .ok (.iaload, 1) := by decide +kernel
theorem dX6_go_117 : decode cX6_go 117 = .ok (.aload_n 0, 1) := by decide +kernel
theorem dX6_go_118 : decode cX6_go 118 = .ok (.getfield 124, 3) := by decide +kernel
theorem dX6_go_121 : decode cX6_go 121 = .ok (.if_icmp .lt 9, 3) := by decide +kernel
theorem dX6_go_124 : decode cX6_go 124 = .ok (.aload_n 0, 1) := by decide +kernel
theorem dX6_go_125 : decode cX6_go 125 = .ok (.invokevirtual 153, 3) := by decide +kernel
theorem dX6_go_128 : decode cX6_go 128 = .ok (.iconst 1, 1) := by decide +kernel
theorem dX6_go_129 : decode cX6_go 129 = .ok (.istore_n 3, 1) := by decide +kernel
theorem dX6_go_130 : decode cX6_go 130 = .ok (.aload_n 0, 1) := by decide +kernel
theorem dX6_go_131 : decode cX6_go 131 = .ok (.getfield 26, 3) := by decide +kernel
theorem dX6_go_134 : decode cX6_go 134 = .ok (.iload 4, 2) := by decide +kernel
theorem dX6_go_136 : decode cX6_go 136 = .ok (.iaload, 1) := by decide +kernel
theorem dX6_go_137 : decode cX6_go 137 = .ok (.iconst 1, 1) := by decide +kernel
theorem dX6_go_138 : decode cX6_go 138 = .ok (.if_icmp .ne 12, 3) := by decide +kernel
theorem dX6_go_141 : decode cX6_go 141 = .ok (.iload_n 1, 1) := by decide +kernel
theorem dX6_go_142 : decode cX6_go 142 = .ok (.iload_n 2, 1) := by decide +kernel
theorem dX6_go_143 : decode cX6_go 143 = .ok (.ishr, 1) := by decide +kernel
theorem dX6_go_144 : decode cX6_go 144 = .ok (.iconst 1, 1) := by decide +kernel
theorem dX6_go_145 : decode cX6_go 145 = .ok (.iand, 1) := by decide +kernel
theorem dX6_go_146 : decode cX6_go 146 = .ok (.iconst 1, 1) := by decide +kernel
theorem dX6_go_147 : decode cX6_go 147 = .ok (.if_icmp .ne 7, 3) := by decide +kernel
theorem dX6_go_150 : decode cX6_go 150 = .ok (.iconst 1, 1) := by decide +kernel
theorem dX6_go_151 : decode cX6_go 151 = .ok (.goto 4, 3) := by decide +kernel
theorem dX6_go_154 : decode cX6_go 154 = .ok (.iconst 0, 1) := by decide +kernel
theorem dX6_go_155 : decode cX6_go 155 = .ok (.istore 5, 2) := by decide +kernel
theorem dX6_go_157 : decode cX6_go 157 = .ok (.aload_n 0, 1) := by decide +kernel
theorem dX6_go_158 : decode cX6_go 158 = .ok (.dup, 1) := by decide +kernel
theorem dX6_go_159 : decode cX6_go 159 = .ok (.getfield 150, 3) := by decide +kernel
theorem dX6_go_162 : decode cX6_go 162 = .ok (.aload_n 0, 1) := by decide +kernel
theorem dX6_go_163 : decode cX6_go 163 = .ok (.getfield 26, 3) := by decide +kernel
theorem dX6_go_166 : decode cX6_go 166 = .ok (.iload 4, 2) := by decide +kernel
theorem dX6_go_168 : decode cX6_go 168 = .ok (.iaload, 1) := by decide +kernel
theorem dX6_go_169 : decode cX6_go 169 = .ok (.iconst 1, 1) := by decide +kernel
theorem dX6_go_170 : decode cX6_go 170 = .ok (.if_icmp .ne 23, 3) := by decide +kernel
theorem dX6_go_173 : decode cX6_go 173 = .ok (.aload_n 0, 1) := by decide +kernel
theorem dX6_go_174 : decode cX6_go 174 = .ok (.aload_n 0, 1) := by decide +kernel
theorem dX6_go_175 : decode cX6_go 175 = .ok (.getfield 32, 3) := by decide +kernel
theorem dX6_go_178 : decode cX6_go 178 = .ok (.iload 4, 2) := by decide +kernel
theorem dX6_go_180 : decode cX6_go 180 = .ok (.iaload, 1) := by decide +kernel
theorem dX6_go_181 : decode cX6_go 181 = .ok (.invokevirtual 156, 3) := by decide +kernel
theorem dX6_go_184 : decode cX6_go 184 = .ok (.ifCond .ne 9, 3) := by decide +kernel
theorem dX6_go_187 : decode cX6_go 187 = .ok (.iconst 1, 1) := by decide +kernel
theorem dX6_go_188 : decode cX6_go 188 = .ok (.iload_n 2, 1) := by decide +kernel
theorem dX6_go_189 : decode cX6_go 189 = .ok (.ishl, 1) := by decide +kernel
theorem dX6_go_190 : decode cX6_go 190 = .ok (.goto 4, 3) := by decide +kernel
theorem dX6_go_193 : decode cX6_go 193 = .ok (.iconst 0, 1) := by decide +kernel
theorem dX6_go_194 : decode cX6_go 194 = .ok (.ior, 1) := by decide +kernel
theorem dX6_go_195 : decode cX6_go 195 = .ok (.putfield 150, 3) := by decide +kernel
theorem dX6_go_198 : decode cX6_go 198 = .ok (.iload_n 2, 1) := by decide +kernel
theorem dX6_go_199 : decode cX6_go 199 = .ok (.aload_n 0, 1) := by decide +kernel
theorem dX6_go_200 : decode cX6_go 200 = .ok (.getfield 26, 3) := by decide +kernel
theorem dX6_go_203 : decode cX6_go 203 = .ok (.iload 4, 2) := by decide +kernel
theorem dX6_go_205 : decode cX6_go 205 = .ok (.iaload, 1) := by decide +kernel
theorem dX6_go_206 : decode cX6_go 206 = .ok (.iconst 1, 1) := by decide +kernel
theorem dX6_go_207 : decode cX6_go 207 = .ok (.if_icmp .ne 7, 3) := by decide +kernel
theorem dX6_go_210 : decode cX6_go 210 = .ok (.iconst 1, 1) := by decide +kernel
theorem dX6_go_211 : decode cX6_go 211 = .ok (.goto 4, 3) := by decide +kernel
theorem dX6_go_214 : decode cX6_go 214 = .ok (.iconst 0, 1) := by decide +kernel
theorem dX6_go_215 : decode cX6_go 215 = .ok (.iadd, 1) := by decide +kernel
theorem dX6_go_216 : decode cX6_go 216 = .ok (.istore_n 2, 1) := by decide +kernel
theorem dX6_go_217 : decode cX6_go 217 = .ok (.iload 5, 2) := by decide +kernel
theorem dX6_go_219 : decode cX6_go 219 = .ok (.ifCond .eq 9, 3) := by decide +kernel
theorem dX6_go_222 : decode cX6_go 222 = .ok (.aload_n 0, 1) := by decide +kernel
theorem dX6_go_223 : decode cX6_go 223 = .ok (.iload 4, 2) := by decide +kernel
theorem dX6_go_225 : decode cX6_go 225 = .ok (.invokevirtual 159, 3) := by decide +kernel
theorem dX6_go_228 : decode cX6_go 228 = .ok (.iinc 4 1, 3) := by decide +kernel
theorem dX6_go_231 : decode cX6_go 231 = .ok (.goto (-136), 3) := by decide +kernel
theorem dX6_go_234 : decode cX6_go 234 = .ok (.iload_n 3, 1) := by decide +kernel
theorem dX6_go_235 : decode cX6_go 235 = .ok (.ifCond .ne 16, 3) := by decide +kernel
theorem dX6_go_238 : decode cX6_go 238 = .ok (.aload_n 0, 1) := by decide +kernel
theorem dX6_go_239 : decode cX6_go 239 = .ok (.getfield 124, 3) := by decide +kernel
theorem dX6_go_242 : decode cX6_go 242 = .ok (.bipush 99, 2) := by decide +kernel
theorem dX6_go_244 : decode cX6_go 244 = .ok (.if_icmp .gt 7, 3) := by decide +kernel
theorem dX6_go_247 : decode cX6_go 247 = .ok (.aload_n 0, 1) := by decide +kernel
theorem dX6_go_248 : decode cX6_go 248 = .ok (.invokevirtual 153, 3) := by decide +kernel
theorem dX6_go_251 : decode cX6_go 251 = .ok (.return_, 1) := by decide +kernel
theorem dX6_goPlain_0 : decode cX6_goPlain 0 = .ok (.aload_n 0, 1) := by decide +kernel
theorem dX6_goPlain_1 : decode cX6_goPlain 1 = .ok (.invokevirtual 163, 3) := by decide +kernel
theorem dX6_goPlain_4 : decode cX6_goPlain 4 = .ok (.aload_n 0, 1) := by decide +kernel
theorem dX6_goPlain_5 : decode cX6_goPlain 5 = .ok (.iload_n 1, 1) := by decide +kernel
theorem dX6_goPlain_6 : decode cX6_goPlain 6 = .ok (.invokevirtual 166, 3) := by decide +kernel
theorem dX6_goPlain_9 : decode cX6_goPlain 9 = .ok (.return_, 1) := by decide +kernel
theorem dX6_origins_0 : decode cX6_origins 0 = .ok (.aload_n 0, 1) := by decide +kernel
theorem dX6_origins_1 : decode cX6_origins 1 = .ok (.iload_n 1, 1) := by decide +kernel
theorem dX6_origins_2 : decode cX6_origins 2 = .ok (.invokevirtual 117, 3) := by decide +kernel
theorem dX6_origins_5 : decode cX6_origins 5 = .ok (.ifCond .eq 10, 3) := by decide +kernel
theorem dX6_origins_8 : decode cX6_origins 8 = .ok (.iload_n 2, 1) := by decide +kernel
theorem dX6_origins_9 : decode cX6_origins 9 = .ok (.invokestatic 169, 3) := by decide +kernel
theorem dX6_origins_12 : decode cX6_origins 12 = .ok (.ifCond .ne 5, 3) := by decide +kernel
theorem dX6_origins_15 : decode cX6_origins 15 = .ok (.iconst (-1), 1) := by decide +kernel
theorem dX6_origins_16 : decode cX6_origins 16 = .ok (.ireturn, 1) := by decide +kernel
theorem dX6_origins_17 : decode cX6_origins 17 = .ok (.aload_n 0, 1) := by decide +kernel
theorem dX6_origins_18 : decode cX6_origins 18 = .ok (.iload_n 3, 1) := by decide +kernel
theorem dX6_origins_19 : decode cX6_origins 19 = .ok (.invokevirtual 172, 3) := by decide +kernel
theorem dX6_origins_22 : decode cX6_origins 22 = .ok (.aload_n 0, 1) := by decide +kernel
theorem dX6_origins_23 : decode cX6_origins 23 = .ok (.getfield 45, 3) := by decide +kernel
theorem dX6_origins_26 : decode cX6_origins 26 = .ok (.iconst 4, 1) := by decide +kernel
theorem dX6_origins_27 : decode cX6_origins 27 = .ok (.iload_n 1, 1) := by decide +kernel
theorem dX6_origins_28 : decode cX6_origins 28 = .ok (.imul, 1) := by decide +kernel
theorem dX6_origins_29 : decode cX6_origins 29 = .ok (.iload_n 2, 1) := by decide +kernel
theorem dX6_origins_30 : decode cX6_origins 30 = .ok (.iadd, 1) := by decide +kernel
theorem dX6_origins_31 : decode cX6_origins 31 = .ok (.iaload, 1) := by decide +kernel
theorem dX6_origins_32 : decode cX6_origins 32 = .ok (.ireturn, 1) := by decide +kernel
theorem dX6_voice_0 : decode cX6_voice 0 = .ok (.aload_n 0, 1) := by decide +kernel
theorem dX6_voice_1 : decode cX6_voice 1 = .ok (.iload_n 1, 1) := by decide +kernel
theorem dX6_voice_2 : decode cX6_voice 2 = .ok (.invokevirtual 117, 3) := by decide +kernel
theorem dX6_voice_5 : decode cX6_voice 5 = .ok (.ifCond .eq 10, 3) := by decide +kernel
theorem dX6_voice_8 : decode cX6_voice 8 = .ok (.iload_n 2, 1) := by decide +kernel
theorem dX6_voice_9 : decode cX6_voice 9 = .ok (.invokestatic 169, 3) := by decide +kernel
theorem dX6_voice_12 : decode cX6_voice 12 = .ok (.ifCond .ne 5, 3) := by decide +kernel
theorem dX6_voice_15 : decode cX6_voice 15 = .ok (.iconst (-1), 1) := by decide +kernel
theorem dX6_voice_16 : decode cX6_voice 16 = .ok (.ireturn, 1) := by decide +kernel
theorem dX6_voice_17 : decode cX6_voice 17 = .ok (.aload_n 0, 1) := by decide +kernel
theorem dX6_voice_18 : decode cX6_voice 18 = .ok (.iload_n 3, 1) := by decide +kernel
theorem dX6_voice_19 : decode cX6_voice 19 = .ok (.invokevirtual 172, 3) := by decide +kernel
theorem dX6_voice_22 : decode cX6_voice 22 = .ok (.aload_n 0, 1) := by decide +kernel
theorem dX6_voice_23 : decode cX6_voice 23 = .ok (.getfield 48, 3) := by decide +kernel
theorem dX6_voice_26 : decode cX6_voice 26 = .ok (.iconst 4, 1) := by decide +kernel
theorem dX6_voice_27 : decode cX6_voice 27 = .ok (.iload_n 1, 1) := by decide +kernel
theorem dX6_voice_28 : decode cX6_voice 28 = .ok (.imul, 1) := by decide +kernel
theorem dX6_voice_29 : decode cX6_voice 29 = .ok (.iload_n 2, 1) := by decide +kernel
theorem dX6_voice_30 : decode cX6_voice 30 = .ok (.iadd, 1) := by decide +kernel
theorem dX6_voice_31 : decode cX6_voice 31 = .ok (.iaload, 1) := by decide +kernel
theorem dX6_voice_32 : decode cX6_voice 32 = .ok (.ifCond .ne 8, 3) := by decide +kernel
theorem dX6_voice_35 : decode cX6_voice 35 = .ok (.bipush (-9), 2) := by decide +kernel
theorem dX6_voice_37 : decode cX6_voice 37 = .ok (.goto 13, 3) := by decide +kernel
theorem dX6_voice_40 : decode cX6_voice 40 = .ok (.aload_n 0, 1) := by decide +kernel
theorem dX6_voice_41 : decode cX6_voice 41 = .ok (.getfield 48, 3) := by decide +kernel
theorem dX6_voice_44 : decode cX6_voice 44 = .ok (.iconst 4, 1) := by decide +kernel
theorem dX6_voice_45 : decode cX6_voice 45 = .ok (.iload_n 1, 1) := by decide +kernel
theorem dX6_voice_46 : decode cX6_voice 46 = .ok (.imul, 1) := by decide +kernel
theorem dX6_voice_47 : decode cX6_voice 47 = .ok (.iload_n 2, 1) := by decide +kernel
theorem dX6_voice_48 : decode cX6_voice 48 = .ok (.iadd, 1) := by decide +kernel
theorem dX6_voice_49 : decode cX6_voice 49 = .ok (.iaload, 1) := by decide +kernel
theorem dX6_voice_50 : decode cX6_voice 50 = .ok (.ireturn, 1) := by decide +kernel
theorem dX6_law_0 : decode cX6_law 0 = .ok (.iload_n 1, 1) := by decide +kernel
theorem dX6_law_1 : decode cX6_law 1 = .ok (.invokestatic 169, 3) := by decide +kernel
theorem dX6_law_4 : decode cX6_law 4 = .ok (.ifCond .eq 12, 3) := by decide +kernel
theorem dX6_law_7 : decode cX6_law 7 = .ok (.iload_n 3, 1) := by decide +kernel
theorem dX6_law_8 : decode cX6_law 8 = .ok (.iconst 0, 1) := by decide +kernel
theorem dX6_law_9 : decode cX6_law 9 = .ok (.iconst 1, 1) := by decide +kernel
theorem dX6_law_10 : decode cX6_law 10 = .ok (.invokestatic 63, 3) := by decide +kernel
theorem dX6_law_13 : decode cX6_law 13 = .ok (.ifCond .ne 5, 3) := by decide +kernel
theorem dX6_law_16 : decode cX6_law 16 = .ok (.iconst (-1), 1) := by decide +kernel
theorem dX6_law_17 : decode cX6_law 17 = .ok (.ireturn, 1) := by decide +kernel
theorem dX6_law_18 : decode cX6_law 18 = .ok (.aload_n 0, 1) := by decide +kernel
theorem dX6_law_19 : decode cX6_law 19 = .ok (.iload_n 2, 1) := by decide +kernel
theorem dX6_law_20 : decode cX6_law 20 = .ok (.invokevirtual 172, 3) := by decide +kernel
theorem dX6_law_23 : decode cX6_law 23 = .ok (.iload_n 3, 1) := by decide +kernel
theorem dX6_law_24 : decode cX6_law 24 = .ok (.ifCond .ne 12, 3) := by decide +kernel
theorem dX6_law_27 : decode cX6_law 27 = .ok (.aload_n 0, 1) := by decide +kernel
theorem dX6_law_28 : decode cX6_law 28 = .ok (.getfield 51, 3) := by decide +kernel
theorem dX6_law_31 : decode cX6_law 31 = .ok (.iload_n 1, 1) := by decide +kernel
theorem dX6_law_32 : decode cX6_law 32 = .ok (.iaload, 1) := by decide +kernel
theorem dX6_law_33 : decode cX6_law 33 = .ok (.goto 9, 3) := by decide +kernel
theorem dX6_law_36 : decode cX6_law 36 = .ok (.aload_n 0, 1) := by decide +kernel
theorem dX6_law_37 : decode cX6_law 37 = .ok (.getfield 54, 3) := by decide +kernel
theorem dX6_law_40 : decode cX6_law 40 = .ok (.iload_n 1, 1) := by decide +kernel
theorem dX6_law_41 : decode cX6_law 41 = .ok (.iaload, 1) := by decide +kernel
theorem dX6_law_42 : decode cX6_law 42 = .ok (.ireturn, 1) := by decide +kernel
theorem dX6_place_0 : decode cX6_place 0 = .ok (.aload_n 0, 1) := by decide +kernel
theorem dX6_place_1 : decode cX6_place 1 = .ok (.iload_n 1, 1) := by decide +kernel
theorem dX6_place_2 : decode cX6_place 2 = .ok (.invokevirtual 117, 3) := by decide +kernel
theorem dX6_place_5 : decode cX6_place 5 = .ok (.ifCond .ne 5, 3) := by decide +kernel
theorem dX6_place_8 : decode cX6_place 8 = .ok (.iconst (-1), 1) := by decide +kernel
theorem dX6_place_9 : decode cX6_place 9 = .ok (.ireturn, 1) := by decide +kernel
theorem dX6_place_10 : decode cX6_place 10 = .ok (.aload_n 0, 1) := by decide +kernel
theorem dX6_place_11 : decode cX6_place 11 = .ok (.iconst 0, 1) := by decide +kernel
theorem dX6_place_12 : decode cX6_place 12 = .ok (.invokevirtual 172, 3) := by decide +kernel
theorem dX6_place_15 : decode cX6_place 15 = .ok (.aload_n 0, 1) := by decide +kernel
theorem dX6_place_16 : decode cX6_place 16 = .ok (.getfield 42, 3) := by decide +kernel
theorem dX6_place_19 : decode cX6_place 19 = .ok (.iload_n 1, 1) := by decide +kernel
theorem dX6_place_20 : decode cX6_place 20 = .ok (.iaload, 1) := by decide +kernel
theorem dX6_place_21 : decode cX6_place 21 = .ok (.ireturn, 1) := by decide +kernel
theorem dX6_bitsIn_0 : decode cX6_bitsIn 0 = .ok (.iconst 0, 1) := by decide +kernel
theorem dX6_bitsIn_1 : decode cX6_bitsIn 1 = .ok (.istore_n 1, 1) := by decide +kernel
theorem dX6_bitsIn_2 : decode cX6_bitsIn 2 = .ok (.iconst 0, 1) := by decide +kernel
theorem dX6_bitsIn_3 : decode cX6_bitsIn 3 = .ok (.istore_n 2, 1) := by decide +kernel
theorem dX6_bitsIn_4 : decode cX6_bitsIn 4 = .ok (.iload_n 2, 1) := by decide +kernel
theorem dX6_bitsIn_5 : decode cX6_bitsIn 5 = .ok (.bipush 8, 2) := by decide +kernel
theorem dX6_bitsIn_7 : decode cX6_bitsIn 7 = .ok (.if_icmp .ge 17, 3) := by decide +kernel
theorem dX6_bitsIn_10 : decode cX6_bitsIn 10 = .ok (.iload_n 1, 1) := by decide +kernel
theorem dX6_bitsIn_11 : decode cX6_bitsIn 11 = .ok (.iload_n 0, 1) := by decide +kernel
theorem dX6_bitsIn_12 : decode cX6_bitsIn 12 = .ok (.iload_n 2, 1) := by decide +kernel
theorem dX6_bitsIn_13 : decode cX6_bitsIn 13 = .ok (.ishr, 1) := by decide +kernel
theorem dX6_bitsIn_14 : decode cX6_bitsIn 14 = .ok (.iconst 1, 1) := by decide +kernel
theorem dX6_bitsIn_15 : decode cX6_bitsIn 15 = .ok (.iand, 1) := by decide +kernel
theorem dX6_bitsIn_16 : decode cX6_bitsIn 16 = .ok (.iadd, 1) := by decide +kernel
theorem dX6_bitsIn_17 : decode cX6_bitsIn 17 = .ok (.istore_n 1, 1) := by decide +kernel
theorem dX6_bitsIn_18 : decode cX6_bitsIn 18 = .ok (.iinc 2 1, 3) := by decide +kernel
theorem dX6_bitsIn_21 : decode cX6_bitsIn 21 = .ok (.goto (-17), 3) := by decide +kernel
theorem dX6_bitsIn_24 : decode cX6_bitsIn 24 = .ok (.iload_n 1, 1) := by decide +kernel
theorem dX6_bitsIn_25 : decode cX6_bitsIn 25 = .ok (.ireturn, 1) := by decide +kernel
theorem dX6_isLaw_0 : decode cX6_isLaw 0 = .ok (.aload_n 0, 1) := by decide +kernel
theorem dX6_isLaw_1 : decode cX6_isLaw 1 = .ok (.iload_n 2, 1) := by decide +kernel
theorem dX6_isLaw_2 : decode cX6_isLaw 2 = .ok (.invokevirtual 172, 3) := by decide +kernel
theorem dX6_isLaw_5 : decode cX6_isLaw 5 = .ok (.aload_n 0, 1) := by decide +kernel
theorem dX6_isLaw_6 : decode cX6_isLaw 6 = .ok (.getfield 51, 3) := by decide +kernel
theorem dX6_isLaw_9 : decode cX6_isLaw 9 = .ok (.iload_n 1, 1) := by decide +kernel
theorem dX6_isLaw_10 : decode cX6_isLaw 10 = .ok (.iaload, 1) := by decide +kernel
theorem dX6_isLaw_11 : decode cX6_isLaw 11 = .ok (.bipush (-9), 2) := by decide +kernel
theorem dX6_isLaw_13 : decode cX6_isLaw 13 = .ok (.if_icmp .eq 7, 3) := by decide +kernel
theorem dX6_isLaw_16 : decode cX6_isLaw 16 = .ok (.iconst 1, 1) := by decide +kernel
theorem dX6_isLaw_17 : decode cX6_isLaw 17 = .ok (.goto 4, 3) := by decide +kernel
theorem dX6_isLaw_20 : decode cX6_isLaw 20 = .ok (.iconst 0, 1) := by decide +kernel
theorem dX6_isLaw_21 : decode cX6_isLaw 21 = .ok (.ireturn, 1) := by decide +kernel
theorem dX6_fallsBy_0 : decode cX6_fallsBy 0 = .ok (.bipush (-9), 2) := by decide +kernel
theorem dX6_fallsBy_2 : decode cX6_fallsBy 2 = .ok (.istore_n 2, 1) := by decide +kernel
theorem dX6_fallsBy_3 : decode cX6_fallsBy 3 = .ok (.iconst 0, 1) := by decide +kernel
theorem dX6_fallsBy_4 : decode cX6_fallsBy 4 = .ok (.istore_n 3, 1) := by decide +kernel
theorem dX6_fallsBy_5 : decode cX6_fallsBy 5 = .ok (.iload_n 3, 1) := by decide +kernel
theorem dX6_fallsBy_6 : decode cX6_fallsBy 6 = .ok (.iconst 1, 1) := by decide +kernel
theorem dX6_fallsBy_7 : decode cX6_fallsBy 7 = .ok (.aload_n 0, 1) := by decide +kernel
theorem dX6_fallsBy_8 : decode cX6_fallsBy 8 = .ok (.iconst 0, 1) := by decide +kernel
theorem dX6_fallsBy_9 : decode cX6_fallsBy 9 = .ok (.invokevirtual 103, 3) := by decide +kernel
theorem dX6_fallsBy_12 : decode cX6_fallsBy 12 = .ok (.ishl, 1) := by decide +kernel
theorem dX6_fallsBy_13 : decode cX6_fallsBy 13 = .ok (.if_icmp .ge 53, 3) := by decide +kernel
theorem dX6_fallsBy_16 : decode cX6_fallsBy 16 = .ok (.iload_n 2, 1) := by decide +kernel
theorem dX6_fallsBy_17 : decode cX6_fallsBy 17 = .ok (.bipush (-9), 2) := by decide +kernel
theorem dX6_fallsBy_19 : decode cX6_fallsBy 19 = .ok (.if_icmp .eq 14, 3) := by decide +kernel
theorem dX6_fallsBy_22 : decode cX6_fallsBy 22 = .ok (.iload_n 3, 1) := by decide +kernel
theorem dX6_fallsBy_23 : decode cX6_fallsBy 23 = .ok (.invokestatic 175, 3) := by decide +kernel
theorem dX6_fallsBy_26 : decode cX6_fallsBy 26 = .ok (.iload_n 2, 1) := by decide +kernel
theorem dX6_fallsBy_27 : decode cX6_fallsBy 27 = .ok (.invokestatic 175, 3) := by decide +kernel
theorem dX6_fallsBy_30 : decode cX6_fallsBy 30 = .ok (.if_icmp .ge 7, 3) := by decide +kernel
theorem dX6_fallsBy_33 : decode cX6_fallsBy 33 = .ok (.iconst 1, 1) := by decide +kernel
theorem dX6_fallsBy_34 : decode cX6_fallsBy 34 = .ok (.goto 4, 3) := by decide +kernel
theorem dX6_fallsBy_37 : decode cX6_fallsBy 37 = .ok (.iconst 0, 1) := by decide +kernel
theorem dX6_fallsBy_38 : decode cX6_fallsBy 38 = .ok (.istore 4, 2) := by decide +kernel
theorem dX6_fallsBy_40 : decode cX6_fallsBy 40 = .ok (.iload 4, 2) := by decide +kernel
theorem dX6_fallsBy_42 : decode cX6_fallsBy 42 = .ok (.ifCond .eq 16, 3) := by decide +kernel
theorem dX6_fallsBy_45 : decode cX6_fallsBy 45 = .ok (.aload_n 0, 1) := by decide +kernel
theorem dX6_fallsBy_46 : decode cX6_fallsBy 46 = .ok (.iload_n 1, 1) := by decide +kernel
theorem dX6_fallsBy_47 : decode cX6_fallsBy 47 = .ok (.iload_n 3, 1) := by decide +kernel
theorem dX6_fallsBy_48 : decode cX6_fallsBy 48 = .ok (.invokevirtual 178, 3) := by decide +kernel
theorem dX6_fallsBy_51 : decode cX6_fallsBy 51 = .ok (.ifCond .ne 7, 3) := by decide +kernel
theorem dX6_fallsBy_54 : decode cX6_fallsBy 54 = .ok (.iload_n 3, 1) := by decide +kernel
theorem dX6_fallsBy_55 : decode cX6_fallsBy 55 = .ok (.goto 4, 3) := by decide +kernel
theorem dX6_fallsBy_58 : decode cX6_fallsBy 58 = .ok (.iload_n 2, 1) := by decide +kernel
theorem dX6_fallsBy_59 : decode cX6_fallsBy 59 = .ok (.istore_n 2, 1) := by decide +kernel
theorem dX6_fallsBy_60 : decode cX6_fallsBy 60 = .ok (.iinc 3 1, 3) := by decide +kernel
theorem dX6_fallsBy_63 : decode cX6_fallsBy 63 = .ok (.goto (-58), 3) := by decide +kernel
theorem dX6_fallsBy_66 : decode cX6_fallsBy 66 = .ok (.iload_n 2, 1) := by decide +kernel
theorem dX6_fallsBy_67 : decode cX6_fallsBy 67 = .ok (.ireturn, 1) := by decide +kernel
theorem dX6_stands_0 : decode cX6_stands 0 = .ok (.iload_n 1, 1) := by decide +kernel
theorem dX6_stands_1 : decode cX6_stands 1 = .ok (.invokestatic 169, 3) := by decide +kernel
theorem dX6_stands_4 : decode cX6_stands 4 = .ok (.ifCond .eq 21, 3) := by decide +kernel
theorem dX6_stands_7 : decode cX6_stands 7 = .ok (.aload_n 0, 1) := by decide +kernel
theorem dX6_stands_8 : decode cX6_stands 8 = .ok (.iload_n 1, 1) := by decide +kernel
theorem dX6_stands_9 : decode cX6_stands 9 = .ok (.invokevirtual 182, 3) := by decide +kernel
theorem dX6_stands_12 : decode cX6_stands 12 = .ok (.bipush (-9), 2) := by decide +kernel
theorem dX6_stands_14 : decode cX6_stands 14 = .ok (.if_icmp .ne 7, 3) := by decide +kernel
theorem dX6_stands_17 : decode cX6_stands 17 = .ok (.iconst 1, 1) := by decide +kernel
theorem dX6_stands_18 : decode cX6_stands 18 = .ok (.goto 8, 3) := by decide +kernel
theorem dX6_stands_21 : decode cX6_stands 21 = .ok (.iconst 0, 1) := by decide +kernel
theorem dX6_stands_22 : decode cX6_stands 22 = .ok (.goto 4, 3) := by decide +kernel
theorem dX6_stands_25 : decode cX6_stands 25 = .ok (.iconst (-1), 1) := by decide +kernel
theorem dX6_stands_26 : decode cX6_stands 26 = .ok (.ireturn, 1) := by decide +kernel
theorem dX6_falls_0 : decode cX6_falls 0 = .ok (.iload_n 1, 1) := by decide +kernel
theorem dX6_falls_1 : decode cX6_falls 1 = .ok (.invokestatic 169, 3) := by decide +kernel
theorem dX6_falls_4 : decode cX6_falls 4 = .ok (.ifCond .eq 11, 3) := by decide +kernel
theorem dX6_falls_7 : decode cX6_falls 7 = .ok (.aload_n 0, 1) := by decide +kernel
theorem dX6_falls_8 : decode cX6_falls 8 = .ok (.iload_n 1, 1) := by decide +kernel
theorem dX6_falls_9 : decode cX6_falls 9 = .ok (.invokevirtual 182, 3) := by decide +kernel
theorem dX6_falls_12 : decode cX6_falls 12 = .ok (.goto 4, 3) := by decide +kernel
theorem dX6_falls_15 : decode cX6_falls 15 = .ok (.iconst (-1), 1) := by decide +kernel
theorem dX6_falls_16 : decode cX6_falls 16 = .ok (.ireturn, 1) := by decide +kernel
theorem dX6_alone_0 : decode cX6_alone 0 = .ok (.iload_n 1, 1) := by decide +kernel
theorem dX6_alone_1 : decode cX6_alone 1 = .ok (.invokestatic 169, 3) := by decide +kernel
theorem dX6_alone_4 : decode cX6_alone 4 = .ok (.ifCond .ne 5, 3) := by decide +kernel
theorem dX6_alone_7 : decode cX6_alone 7 = .ok (.iconst (-1), 1) := by decide +kernel
theorem dX6_alone_8 : decode cX6_alone 8 = .ok (.ireturn, 1) := by decide +kernel
theorem dX6_alone_9 : decode cX6_alone 9 = .ok (.iconst 0, 1) := by decide +kernel
theorem dX6_alone_10 : decode cX6_alone 10 = .ok (.istore_n 2, 1) := by decide +kernel
theorem dX6_alone_11 : decode cX6_alone 11 = .ok (.iconst 0, 1) := by decide +kernel
theorem dX6_alone_12 : decode cX6_alone 12 = .ok (.istore_n 3, 1) := by decide +kernel
theorem dX6_alone_13 : decode cX6_alone 13 = .ok (.iload_n 3, 1) := by decide +kernel
theorem dX6_alone_14 : decode cX6_alone 14 = .ok (.aload_n 0, 1) := by decide +kernel
theorem dX6_alone_15 : decode cX6_alone 15 = .ok (.iconst 0, 1) := by decide +kernel
theorem dX6_alone_16 : decode cX6_alone 16 = .ok (.invokevirtual 103, 3) := by decide +kernel
theorem dX6_alone_19 : decode cX6_alone 19 = .ok (.if_icmp .ge 39, 3) := by decide +kernel
theorem dX6_alone_22 : decode cX6_alone 22 = .ok (.aload_n 0, 1) := by decide +kernel
theorem dX6_alone_23 : decode cX6_alone 23 = .ok (.iload_n 1, 1) := by decide +kernel
theorem dX6_alone_24 : decode cX6_alone 24 = .ok (.iconst 0, 1) := by decide +kernel
theorem dX6_alone_25 : decode cX6_alone 25 = .ok (.invokevirtual 178, 3) := by decide +kernel
theorem dX6_alone_28 : decode cX6_alone 28 = .ok (.ifCond .eq 30, 3) := by decide +kernel
theorem dX6_alone_31 : decode cX6_alone 31 = .ok (.iload_n 2, 1) := by decide +kernel
theorem dX6_alone_32 : decode cX6_alone 32 = .ok (.aload_n 0, 1) := by decide +kernel
theorem dX6_alone_33 : decode cX6_alone 33 = .ok (.iload_n 1, 1) := by decide +kernel
theorem dX6_alone_34 : decode cX6_alone 34 = .ok (.iconst 1, 1) := by decide +kernel
theorem dX6_alone_35 : decode cX6_alone 35 = .ok (.iload_n 3, 1) := by decide +kernel
theorem dX6_alone_36 : decode cX6_alone 36 = .ok (.ishl, 1) := by decide +kernel
theorem dX6_alone_37 : decode cX6_alone 37 = .ok (.invokevirtual 178, 3) := by decide +kernel
theorem dX6_alone_40 : decode cX6_alone 40 = .ok (.ifCond .eq 7, 3) := by decide +kernel
theorem dX6_alone_43 : decode cX6_alone 43 = .ok (.iconst 0, 1) := by decide +kernel
theorem dX6_alone_44 : decode cX6_alone 44 = .ok (.goto 6, 3) := by decide +kernel
theorem dX6_alone_47 : decode cX6_alone 47 = .ok (.iconst 1, 1) := by decide +kernel
theorem dX6_alone_48 : decode cX6_alone 48 = .ok (.iload_n 3, 1) := by decide +kernel
theorem dX6_alone_49 : decode cX6_alone 49 = .ok (.ishl, 1) := by decide +kernel
theorem dX6_alone_50 : decode cX6_alone 50 = .ok (.ior, 1) := by decide +kernel
theorem dX6_alone_51 : decode cX6_alone 51 = .ok (.istore_n 2, 1) := by decide +kernel
theorem dX6_alone_52 : decode cX6_alone 52 = .ok (.iinc 3 1, 3) := by decide +kernel
theorem dX6_alone_55 : decode cX6_alone 55 = .ok (.goto (-42), 3) := by decide +kernel
theorem dX6_alone_58 : decode cX6_alone 58 = .ok (.iload_n 2, 1) := by decide +kernel
theorem dX6_alone_59 : decode cX6_alone 59 = .ok (.ireturn, 1) := by decide +kernel
theorem dX6_empty_0 : decode cX6_empty 0 = .ok (.aload_n 0, 1) := by decide +kernel
theorem dX6_empty_1 : decode cX6_empty 1 = .ok (.iconst 0, 1) := by decide +kernel
theorem dX6_empty_2 : decode cX6_empty 2 = .ok (.invokevirtual 172, 3) := by decide +kernel
theorem dX6_empty_5 : decode cX6_empty 5 = .ok (.aload_n 0, 1) := by decide +kernel
theorem dX6_empty_6 : decode cX6_empty 6 = .ok (.getfield 150, 3) := by decide +kernel
theorem dX6_empty_9 : decode cX6_empty 9 = .ok (.ireturn, 1) := by decide +kernel
theorem dX6_isLawBy_0 : decode cX6_isLawBy 0 = .ok (.aload_n 0, 1) := by decide +kernel
theorem dX6_isLawBy_1 : decode cX6_isLawBy 1 = .ok (.invokevirtual 163, 3) := by decide +kernel
theorem dX6_isLawBy_4 : decode cX6_isLawBy 4 = .ok (.aload_n 0, 1) := by decide +kernel
theorem dX6_isLawBy_5 : decode cX6_isLawBy 5 = .ok (.iload_n 1, 1) := by decide +kernel
theorem dX6_isLawBy_6 : decode cX6_isLawBy 6 = .ok (.putfield 137, 3) := by decide +kernel
theorem dX6_isLawBy_9 : decode cX6_isLawBy 9 = .ok (.aload_n 0, 1) := by decide +kernel
theorem dX6_isLawBy_10 : decode cX6_isLawBy 10 = .ok (.iload_n 2, 1) := by decide +kernel
theorem dX6_isLawBy_11 : decode cX6_isLawBy 11 = .ok (.putfield 124, 3) := by decide +kernel
theorem dX6_isLawBy_14 : decode cX6_isLawBy 14 = .ok (.iconst 0, 1) := by decide +kernel
theorem dX6_isLawBy_15 : decode cX6_isLawBy 15 = .ok (.istore 5, 2) := by decide +kernel
theorem dX6_isLawBy_17 : decode cX6_isLawBy 17 = .ok (.iload 5, 2) := by decide +kernel
theorem dX6_isLawBy_19 : decode cX6_isLawBy 19 = .ok (.bipush 8, 2) := by decide +kernel
theorem dX6_isLawBy_21 : decode cX6_isLawBy 21 = .ok (.if_icmp .ge 45, 3) := by decide +kernel
theorem dX6_isLawBy_24 : decode cX6_isLawBy 24 = .ok (.iload_n 3, 1) := by decide +kernel
theorem dX6_isLawBy_25 : decode cX6_isLawBy 25 = .ok (.iload 5, 2) := by decide +kernel
theorem dX6_isLawBy_27 : decode cX6_isLawBy 27 = .ok (.ishr, 1) := by decide +kernel
theorem dX6_isLawBy_28 : decode cX6_isLawBy 28 = .ok (.iconst 1, 1) := by decide +kernel
theorem dX6_isLawBy_29 : decode cX6_isLawBy 29 = .ok (.iand, 1) := by decide +kernel
theorem dX6_isLawBy_30 : decode cX6_isLawBy 30 = .ok (.iconst 1, 1) := by decide +kernel
theorem dX6_isLawBy_31 : decode cX6_isLawBy 31 = .ok (.if_icmp .ne 29, 3) := by decide +kernel
theorem dX6_isLawBy_34 : decode cX6_isLawBy 34 = .ok (.aload_n 0, 1) := by decide +kernel
theorem dX6_isLawBy_35 : decode cX6_isLawBy 35 = .ok (.getfield 57, 3) := by decide +kernel
theorem dX6_isLawBy_38 : decode cX6_isLawBy 38 = .ok (.aload_n 0, 1) := by decide +kernel
theorem dX6_isLawBy_39 : decode cX6_isLawBy 39 = .ok (.getfield 121, 3) := by decide +kernel
theorem dX6_isLawBy_42 : decode cX6_isLawBy 42 = .ok (.iload 4, 2) := by decide +kernel
theorem dX6_isLawBy_44 : decode cX6_isLawBy 44 = .ok (.iload 5, 2) := by decide +kernel
theorem dX6_isLawBy_46 : decode cX6_isLawBy 46 = .ok (.iconst 1, 1) := by decide +kernel
theorem dX6_isLawBy_47 : decode cX6_isLawBy 47 = .ok (.iadd, 1) := by decide +kernel
theorem dX6_isLawBy_48 : decode cX6_isLawBy 48 = .ok (.imul, 1) := by decide +kernel
theorem dX6_isLawBy_49 : decode cX6_isLawBy 49 = .ok (.iastore, 1) := by decide +kernel
theorem dX6_isLawBy_50 : decode cX6_isLawBy 50 = .ok (.aload_n 0, 1) := by decide +kernel
theorem dX6_isLawBy_51 : decode cX6_isLawBy 51 = .ok (.dup, 1) := by decide +kernel
theorem dX6_isLawBy_52 : decode cX6_isLawBy 52 = .ok (.getfield 121, 3) := by decide +kernel
theorem dX6_isLawBy_55 : decode cX6_isLawBy 55 = .ok (.iconst 1, 1) := by decide +kernel
theorem dX6_isLawBy_56 : decode cX6_isLawBy 56 = .ok (.iadd, 1) := by decide +kernel
theorem dX6_isLawBy_57 : decode cX6_isLawBy 57 = .ok (.putfield 121, 3) := by decide +kernel
theorem dX6_isLawBy_60 : decode cX6_isLawBy 60 = .ok (.iinc 5 1, 3) := by decide +kernel
theorem dX6_isLawBy_63 : decode cX6_isLawBy 63 = .ok (.goto (-46), 3) := by decide +kernel
theorem dX6_isLawBy_66 : decode cX6_isLawBy 66 = .ok (.aload_n 0, 1) := by decide +kernel
theorem dX6_isLawBy_67 : decode cX6_isLawBy 67 = .ok (.iconst 0, 1) := by decide +kernel
theorem dX6_isLawBy_68 : decode cX6_isLawBy 68 = .ok (.invokevirtual 166, 3) := by decide +kernel
theorem dX6_isLawBy_71 : decode cX6_isLawBy 71 = .ok (.aload_n 0, 1) := by decide +kernel
theorem dX6_isLawBy_72 : decode cX6_isLawBy 72 = .ok (.getfield 51, 3) := by decide +kernel
theorem dX6_isLawBy_75 : decode cX6_isLawBy 75 = .ok (.iload_n 1, 1) := by decide +kernel
theorem dX6_isLawBy_76 : decode cX6_isLawBy 76 = .ok (.iaload, 1) := by decide +kernel
theorem dX6_isLawBy_77 : decode cX6_isLawBy 77 = .ok (.bipush (-9), 2) := by decide +kernel
theorem dX6_isLawBy_79 : decode cX6_isLawBy 79 = .ok (.if_icmp .eq 7, 3) := by decide +kernel
theorem dX6_isLawBy_82 : decode cX6_isLawBy 82 = .ok (.iconst 1, 1) := by decide +kernel
theorem dX6_isLawBy_83 : decode cX6_isLawBy 83 = .ok (.goto 4, 3) := by decide +kernel
theorem dX6_isLawBy_86 : decode cX6_isLawBy 86 = .ok (.iconst 0, 1) := by decide +kernel
theorem dX6_isLawBy_87 : decode cX6_isLawBy 87 = .ok (.ireturn, 1) := by decide +kernel
theorem dX6_fewestBy_0 : decode cX6_fewestBy 0 = .ok (.bipush (-9), 2) := by decide +kernel
theorem dX6_fewestBy_2 : decode cX6_fewestBy 2 = .ok (.istore 5, 2) := by decide +kernel
theorem dX6_fewestBy_4 : decode cX6_fewestBy 4 = .ok (.iconst 0, 1) := by decide +kernel
theorem dX6_fewestBy_5 : decode cX6_fewestBy 5 = .ok (.istore 6, 2) := by decide +kernel
theorem dX6_fewestBy_7 : decode cX6_fewestBy 7 = .ok (.iload 6, 2) := by decide +kernel
theorem dX6_fewestBy_9 : decode cX6_fewestBy 9 = .ok (.iconst 1, 1) := by decide +kernel
theorem dX6_fewestBy_10 : decode cX6_fewestBy 10 = .ok (.aload_n 0, 1) := by decide +kernel
theorem dX6_fewestBy_11 : decode cX6_fewestBy 11 = .ok (.getfield 13, 3) := by decide +kernel
theorem dX6_fewestBy_14 : decode cX6_fewestBy 14 = .ok (.iconst 0, 1) := by decide +kernel
theorem dX6_fewestBy_15 : decode cX6_fewestBy 15 = .ok (.iaload, 1) := by decide +kernel
theorem dX6_fewestBy_16 : decode cX6_fewestBy 16 = .ok (.ishl, 1) := by decide +kernel
theorem dX6_fewestBy_17 : decode cX6_fewestBy 17 = .ok (.if_icmp .ge 64, 3) := by decide +kernel
theorem dX6_fewestBy_20 : decode cX6_fewestBy 20 = .ok (.iload 5, 2) := by decide +kernel
theorem dX6_fewestBy_22 : decode cX6_fewestBy 22 = .ok (.bipush (-9), 2) := by decide +kernel
theorem dX6_fewestBy_24 : decode cX6_fewestBy 24 = .ok (.if_icmp .eq 16, 3) := by decide +kernel
theorem dX6_fewestBy_27 : decode cX6_fewestBy 27 = .ok (.iload 6, 2) := by decide +kernel
theorem dX6_fewestBy_29 : decode cX6_fewestBy 29 = .ok (.invokestatic 175, 3) := by decide +kernel
theorem dX6_fewestBy_32 : decode cX6_fewestBy 32 = .ok (.iload 5, 2) := by decide +kernel
theorem dX6_fewestBy_34 : decode cX6_fewestBy 34 = .ok (.invokestatic 175, 3) := by decide +kernel
theorem dX6_fewestBy_37 : decode cX6_fewestBy 37 = .ok (.if_icmp .ge 7, 3) := by decide +kernel
theorem dX6_fewestBy_40 : decode cX6_fewestBy 40 = .ok (.iconst 1, 1) := by decide +kernel
theorem dX6_fewestBy_41 : decode cX6_fewestBy 41 = .ok (.goto 4, 3) := by decide +kernel
theorem dX6_fewestBy_44 : decode cX6_fewestBy 44 = .ok (.iconst 0, 1) := by decide +kernel
theorem dX6_fewestBy_45 : decode cX6_fewestBy 45 = .ok (.istore 7, 2) := by decide +kernel
theorem dX6_fewestBy_47 : decode cX6_fewestBy 47 = .ok (.iload 7, 2) := by decide +kernel
theorem dX6_fewestBy_49 : decode cX6_fewestBy 49 = .ok (.ifCond .eq 22, 3) := by decide +kernel
theorem dX6_fewestBy_52 : decode cX6_fewestBy 52 = .ok (.aload_n 0, 1) := by decide +kernel
theorem dX6_fewestBy_53 : decode cX6_fewestBy 53 = .ok (.iload_n 1, 1) := by decide +kernel
theorem dX6_fewestBy_54 : decode cX6_fewestBy 54 = .ok (.iload_n 2, 1) := by decide +kernel
theorem dX6_fewestBy_55 : decode cX6_fewestBy 55 = .ok (.iload 6, 2) := by decide +kernel
theorem dX6_fewestBy_57 : decode cX6_fewestBy 57 = .ok (.iload_n 3, 1) := by decide +kernel
theorem dX6_fewestBy_58 : decode cX6_fewestBy 58 = .ok (.invokevirtual 185, 3) := by decide +kernel
theorem dX6_fewestBy_61 : decode cX6_fewestBy 61 = .ok (.iload 4, 2) := by decide +kernel
theorem dX6_fewestBy_63 : decode cX6_fewestBy 63 = .ok (.if_icmp .ne 8, 3) := by decide +kernel
theorem dX6_fewestBy_66 : decode cX6_fewestBy 66 = .ok (.iload 6, 2) := by decide +kernel
theorem dX6_fewestBy_68 : decode cX6_fewestBy 68 = .ok (.goto 5, 3) := by decide +kernel
theorem dX6_fewestBy_71 : decode cX6_fewestBy 71 = .ok (.iload 5, 2) := by decide +kernel
theorem dX6_fewestBy_73 : decode cX6_fewestBy 73 = .ok (.istore 5, 2) := by decide +kernel
theorem dX6_fewestBy_75 : decode cX6_fewestBy 75 = .ok (.iinc 6 1, 3) := by decide +kernel
theorem dX6_fewestBy_78 : decode cX6_fewestBy 78 = .ok (.goto (-71), 3) := by decide +kernel
theorem dX6_fewestBy_81 : decode cX6_fewestBy 81 = .ok (.iload 5, 2) := by decide +kernel
theorem dX6_fewestBy_83 : decode cX6_fewestBy 83 = .ok (.ireturn, 1) := by decide +kernel
theorem dX6_hints_0 : decode cX6_hints 0 = .ok (.iload_n 1, 1) := by decide +kernel
theorem dX6_hints_1 : decode cX6_hints 1 = .ok (.invokestatic 169, 3) := by decide +kernel
theorem dX6_hints_4 : decode cX6_hints 4 = .ok (.ifCond .eq 24, 3) := by decide +kernel
theorem dX6_hints_7 : decode cX6_hints 7 = .ok (.iload_n 2, 1) := by decide +kernel
theorem dX6_hints_8 : decode cX6_hints 8 = .ok (.iconst 0, 1) := by decide +kernel
theorem dX6_hints_9 : decode cX6_hints 9 = .ok (.bipush 99, 2) := by decide +kernel
theorem dX6_hints_11 : decode cX6_hints 11 = .ok (.invokestatic 63, 3) := by decide +kernel
theorem dX6_hints_14 : decode cX6_hints 14 = .ok (.ifCond .eq 14, 3) := by decide +kernel
theorem dX6_hints_17 : decode cX6_hints 17 = .ok (.aload_n 0, 1) := by decide +kernel
theorem dX6_hints_18 : decode cX6_hints 18 = .ok (.iload_n 1, 1) := by decide +kernel
theorem dX6_hints_19 : decode cX6_hints 19 = .ok (.iload_n 2, 1) := by decide +kernel
theorem dX6_hints_20 : decode cX6_hints 20 = .ok (.iconst 1, 1) := by decide +kernel
theorem dX6_hints_21 : decode cX6_hints 21 = .ok (.iconst 1, 1) := by decide +kernel
theorem dX6_hints_22 : decode cX6_hints 22 = .ok (.invokevirtual 188, 3) := by decide +kernel
theorem dX6_hints_25 : decode cX6_hints 25 = .ok (.goto 4, 3) := by decide +kernel
theorem dX6_hints_28 : decode cX6_hints 28 = .ok (.iconst (-1), 1) := by decide +kernel
theorem dX6_hints_29 : decode cX6_hints 29 = .ok (.ireturn, 1) := by decide +kernel
theorem dX6_hinder_0 : decode cX6_hinder 0 = .ok (.iload_n 1, 1) := by decide +kernel
theorem dX6_hinder_1 : decode cX6_hinder 1 = .ok (.invokestatic 169, 3) := by decide +kernel
theorem dX6_hinder_4 : decode cX6_hinder 4 = .ok (.ifCond .eq 24, 3) := by decide +kernel
theorem dX6_hinder_7 : decode cX6_hinder 7 = .ok (.iload_n 2, 1) := by decide +kernel
theorem dX6_hinder_8 : decode cX6_hinder 8 = .ok (.iconst 0, 1) := by decide +kernel
theorem dX6_hinder_9 : decode cX6_hinder 9 = .ok (.bipush 99, 2) := by decide +kernel
theorem dX6_hinder_11 : decode cX6_hinder 11 = .ok (.invokestatic 63, 3) := by decide +kernel
theorem dX6_hinder_14 : decode cX6_hinder 14 = .ok (.ifCond .eq 14, 3) := by decide +kernel
theorem dX6_hinder_17 : decode cX6_hinder 17 = .ok (.aload_n 0, 1) := by decide +kernel
theorem dX6_hinder_18 : decode cX6_hinder 18 = .ok (.iload_n 1, 1) := by decide +kernel
theorem dX6_hinder_19 : decode cX6_hinder 19 = .ok (.iload_n 2, 1) := by decide +kernel
theorem dX6_hinder_20 : decode cX6_hinder 20 = .ok (.iconst (-1), 1) := by decide +kernel
theorem dX6_hinder_21 : decode cX6_hinder 21 = .ok (.iconst 0, 1) := by decide +kernel
theorem dX6_hinder_22 : decode cX6_hinder 22 = .ok (.invokevirtual 188, 3) := by decide +kernel
theorem dX6_hinder_25 : decode cX6_hinder 25 = .ok (.goto 4, 3) := by decide +kernel
theorem dX6_hinder_28 : decode cX6_hinder 28 = .ok (.iconst (-1), 1) := by decide +kernel
theorem dX6_hinder_29 : decode cX6_hinder 29 = .ok (.ireturn, 1) := by decide +kernel
theorem dX6_isLawByTurns_0 : decode cX6_isLawByTurns 0 = .ok (.aload_n 0, 1) := by decide +kernel
theorem dX6_isLawByTurns_1 : decode cX6_isLawByTurns 1 = .ok (.invokevirtual 163, 3) := by decide +kernel
theorem dX6_isLawByTurns_4 : decode cX6_isLawByTurns 4 = .ok (.aload_n 0, 1) := by decide +kernel
theorem dX6_isLawByTurns_5 : decode cX6_isLawByTurns 5 = .ok (.iload_n 1, 1) := by decide +kernel
theorem dX6_isLawByTurns_6 : decode cX6_isLawByTurns 6 = .ok (.putfield 137, 3) := by decide +kernel
theorem dX6_isLawByTurns_9 : decode cX6_isLawByTurns 9 = .ok (.aload_n 0, 1) := by decide +kernel
theorem dX6_isLawByTurns_10 : decode cX6_isLawByTurns 10 = .ok (.iload_n 2, 1) := by decide +kernel
theorem dX6_isLawByTurns_11 : decode cX6_isLawByTurns 11 = .ok (.putfield 124, 3) := by decide +kernel
theorem dX6_isLawByTurns_14 : decode cX6_isLawByTurns 14 = .ok (.aload_n 0, 1) := by decide +kernel
theorem dX6_isLawByTurns_15 : decode cX6_isLawByTurns 15 = .ok (.iconst 2, 1) := by decide +kernel
theorem dX6_isLawByTurns_16 : decode cX6_isLawByTurns 16 = .ok (.iload_n 3, 1) := by decide +kernel
theorem dX6_isLawByTurns_17 : decode cX6_isLawByTurns 17 = .ok (.imul, 1) := by decide +kernel
theorem dX6_isLawByTurns_18 : decode cX6_isLawByTurns 18 = .ok (.putfield 121, 3) := by decide +kernel
theorem dX6_isLawByTurns_21 : decode cX6_isLawByTurns 21 = .ok (.iload 4, 2) := by decide +kernel
theorem dX6_isLawByTurns_23 : decode cX6_isLawByTurns 23 = .ok (.istore 5, 2) := by decide +kernel
theorem dX6_isLawByTurns_25 : decode cX6_isLawByTurns 25 = .ok (.aload_n 0, 1) := by decide +kernel
theorem dX6_isLawByTurns_26 : decode cX6_isLawByTurns 26 = .ok (.getfield 121, 3) := by decide +kernel
theorem dX6_isLawByTurns_29 : decode cX6_isLawByTurns 29 = .ok (.iconst 1, 1) := by decide +kernel
theorem dX6_isLawByTurns_30 : decode cX6_isLawByTurns 30 = .ok (.isub, 1) := by decide +kernel
theorem dX6_isLawByTurns_31 : decode cX6_isLawByTurns 31 = .ok (.istore 6, 2) := by decide +kernel
theorem dX6_isLawByTurns_33 : decode cX6_isLawByTurns 33 = .ok (.iload 6, 2) := by decide +kernel
theorem dX6_isLawByTurns_35 : decode cX6_isLawByTurns 35 = .ok (.ifCond .lt 53, 3) := by decide +kernel
theorem dX6_isLawByTurns_38 : decode cX6_isLawByTurns 38 = .ok (.aload_n 0, 1) := by decide +kernel
theorem dX6_isLawByTurns_39 : decode cX6_isLawByTurns 39 = .ok (.getfield 57, 3) := by decide +kernel
theorem dX6_isLawByTurns_42 : decode cX6_isLawByTurns 42 = .ok (.iload 6, 2) := by decide +kernel
theorem dX6_isLawByTurns_44 : decode cX6_isLawByTurns 44 = .ok (.iload 6, 2) := by decide +kernel
theorem dX6_isLawByTurns_46 : decode cX6_isLawByTurns 46 = .ok (.iconst 2, 1) := by decide +kernel
theorem dX6_isLawByTurns_47 : decode cX6_isLawByTurns 47 = .ok (.irem, 1) := by decide +kernel
theorem dX6_isLawByTurns_48 : decode cX6_isLawByTurns 48 = .ok (.ifCond .ne 7, 3) := by decide +kernel
theorem dX6_isLawByTurns_51 : decode cX6_isLawByTurns 51 = .ok (.iconst 1, 1) := by decide +kernel
theorem dX6_isLawByTurns_52 : decode cX6_isLawByTurns 52 = .ok (.goto 4, 3) := by decide +kernel
theorem dX6_isLawByTurns_55 : decode cX6_isLawByTurns 55 = .ok (.iconst (-1), 1) := by decide +kernel
theorem dX6_isLawByTurns_56 : decode cX6_isLawByTurns 56 = .ok (.iload 5, 2) := by decide +kernel
theorem dX6_isLawByTurns_58 : decode cX6_isLawByTurns 58 = .ok (.aload_n 0, 1) := by decide +kernel
theorem dX6_isLawByTurns_59 : decode cX6_isLawByTurns 59 = .ok (.getfield 13, 3) := by decide +kernel
theorem dX6_isLawByTurns_62 : decode cX6_isLawByTurns 62 = .ok (.iconst 0, 1) := by decide +kernel
theorem dX6_isLawByTurns_63 : decode cX6_isLawByTurns 63 = .ok (.iaload, 1) := by decide +kernel
theorem dX6_isLawByTurns_64 : decode cX6_isLawByTurns 64 = .ok (.iconst 1, 1) := by decide +kernel
theorem dX6_isLawByTurns_65 : decode cX6_isLawByTurns 65 = .ok (.iadd, 1) := by decide +kernel
theorem dX6_isLawByTurns_66 : decode cX6_isLawByTurns 66 = .ok (.irem, 1) := by decide +kernel
theorem dX6_isLawByTurns_67 : decode cX6_isLawByTurns 67 = .ok (.imul, 1) := by decide +kernel
theorem dX6_isLawByTurns_68 : decode cX6_isLawByTurns 68 = .ok (.iastore, 1) := by decide +kernel
theorem dX6_isLawByTurns_69 : decode cX6_isLawByTurns 69 = .ok (.iload 5, 2) := by decide +kernel
theorem dX6_isLawByTurns_71 : decode cX6_isLawByTurns 71 = .ok (.aload_n 0, 1) := by decide +kernel
theorem dX6_isLawByTurns_72 : decode cX6_isLawByTurns 72 = .ok (.getfield 13, 3) := by decide +kernel
theorem dX6_isLawByTurns_75 : decode cX6_isLawByTurns 75 = .ok (.iconst 0, 1) := by decide +kernel
theorem dX6_isLawByTurns_76 : decode cX6_isLawByTurns 76 = .ok (.iaload, 1) := by decide +kernel
theorem dX6_isLawByTurns_77 : decode cX6_isLawByTurns 77 = .ok (.iconst 1, 1) := by decide +kernel
theorem dX6_isLawByTurns_78 : decode cX6_isLawByTurns 78 = .ok (.iadd, 1) := by decide +kernel
theorem dX6_isLawByTurns_79 : decode cX6_isLawByTurns 79 = .ok (.idiv, 1) := by decide +kernel
theorem dX6_isLawByTurns_80 : decode cX6_isLawByTurns 80 = .ok (.istore 5, 2) := by decide +kernel
theorem dX6_isLawByTurns_82 : decode cX6_isLawByTurns 82 = .ok (.iinc 6 (-1), 3) := by decide +kernel
theorem dX6_isLawByTurns_85 : decode cX6_isLawByTurns 85 = .ok (.goto (-52), 3) := by decide +kernel
theorem dX6_isLawByTurns_88 : decode cX6_isLawByTurns 88 = .ok (.aload_n 0, 1) := by decide +kernel
theorem dX6_isLawByTurns_89 : decode cX6_isLawByTurns 89 = .ok (.iconst 0, 1) := by decide +kernel
theorem dX6_isLawByTurns_90 : decode cX6_isLawByTurns 90 = .ok (.invokevirtual 166, 3) := by decide +kernel
theorem dX6_isLawByTurns_93 : decode cX6_isLawByTurns 93 = .ok (.aload_n 0, 1) := by decide +kernel
theorem dX6_isLawByTurns_94 : decode cX6_isLawByTurns 94 = .ok (.getfield 51, 3) := by decide +kernel
theorem dX6_isLawByTurns_97 : decode cX6_isLawByTurns 97 = .ok (.iload_n 1, 1) := by decide +kernel
theorem dX6_isLawByTurns_98 : decode cX6_isLawByTurns 98 = .ok (.iaload, 1) := by decide +kernel
theorem dX6_isLawByTurns_99 : decode cX6_isLawByTurns 99 = .ok (.bipush (-9), 2) := by decide +kernel
theorem dX6_isLawByTurns_101 : decode cX6_isLawByTurns 101 = .ok (.if_icmp .eq 7, 3) := by decide +kernel
theorem dX6_isLawByTurns_104 : decode cX6_isLawByTurns 104 = .ok (.iconst 1, 1) := by decide +kernel
theorem dX6_isLawByTurns_105 : decode cX6_isLawByTurns 105 = .ok (.goto 4, 3) := by decide +kernel
theorem dX6_isLawByTurns_108 : decode cX6_isLawByTurns 108 = .ok (.iconst 0, 1) := by decide +kernel
theorem dX6_isLawByTurns_109 : decode cX6_isLawByTurns 109 = .ok (.ireturn, 1) := by decide +kernel
theorem dX6_turns_0 : decode cX6_turns 0 = .ok (.iload_n 1, 1) := by decide +kernel
theorem dX6_turns_1 : decode cX6_turns 1 = .ok (.invokestatic 169, 3) := by decide +kernel
theorem dX6_turns_4 : decode cX6_turns 4 = .ok (.ifCond .eq 22, 3) := by decide +kernel
theorem dX6_turns_7 : decode cX6_turns 7 = .ok (.iload_n 2, 1) := by decide +kernel
theorem dX6_turns_8 : decode cX6_turns 8 = .ok (.iconst 0, 1) := by decide +kernel
theorem dX6_turns_9 : decode cX6_turns 9 = .ok (.bipush 99, 2) := by decide +kernel
theorem dX6_turns_11 : decode cX6_turns 11 = .ok (.invokestatic 63, 3) := by decide +kernel
theorem dX6_turns_14 : decode cX6_turns 14 = .ok (.ifCond .eq 12, 3) := by decide +kernel
theorem dX6_turns_17 : decode cX6_turns 17 = .ok (.iload_n 3, 1) := by decide +kernel
theorem dX6_turns_18 : decode cX6_turns 18 = .ok (.iconst 1, 1) := by decide +kernel
theorem dX6_turns_19 : decode cX6_turns 19 = .ok (.iconst 2, 1) := by decide +kernel
theorem dX6_turns_20 : decode cX6_turns 20 = .ok (.invokestatic 63, 3) := by decide +kernel
theorem dX6_turns_23 : decode cX6_turns 23 = .ok (.ifCond .ne 5, 3) := by decide +kernel
theorem dX6_turns_26 : decode cX6_turns 26 = .ok (.iconst (-1), 1) := by decide +kernel
theorem dX6_turns_27 : decode cX6_turns 27 = .ok (.ireturn, 1) := by decide +kernel
theorem dX6_turns_28 : decode cX6_turns 28 = .ok (.aload_n 0, 1) := by decide +kernel
theorem dX6_turns_29 : decode cX6_turns 29 = .ok (.getfield 13, 3) := by decide +kernel
theorem dX6_turns_32 : decode cX6_turns 32 = .ok (.iconst 0, 1) := by decide +kernel
theorem dX6_turns_33 : decode cX6_turns 33 = .ok (.iaload, 1) := by decide +kernel
theorem dX6_turns_34 : decode cX6_turns 34 = .ok (.iconst 1, 1) := by decide +kernel
theorem dX6_turns_35 : decode cX6_turns 35 = .ok (.iadd, 1) := by decide +kernel
theorem dX6_turns_36 : decode cX6_turns 36 = .ok (.istore 4, 2) := by decide +kernel
theorem dX6_turns_38 : decode cX6_turns 38 = .ok (.iconst 1, 1) := by decide +kernel
theorem dX6_turns_39 : decode cX6_turns 39 = .ok (.istore 5, 2) := by decide +kernel
theorem dX6_turns_41 : decode cX6_turns 41 = .ok (.iconst 0, 1) := by decide +kernel
theorem dX6_turns_42 : decode cX6_turns 42 = .ok (.istore 6, 2) := by decide +kernel
theorem dX6_turns_44 : decode cX6_turns 44 = .ok (.iload 6, 2) := by decide +kernel
theorem dX6_turns_46 : decode cX6_turns 46 = .ok (.iconst 2, 1) := by decide +kernel
theorem dX6_turns_47 : decode cX6_turns 47 = .ok (.iload_n 3, 1) := by decide +kernel
theorem dX6_turns_48 : decode cX6_turns 48 = .ok (.imul, 1) := by decide +kernel
theorem dX6_turns_49 : decode cX6_turns 49 = .ok (.if_icmp .ge 16, 3) := by decide +kernel
theorem dX6_turns_52 : decode cX6_turns 52 = .ok (.iload 5, 2) := by decide +kernel
theorem dX6_turns_54 : decode cX6_turns 54 = .ok (.iload 4, 2) := by decide +kernel
theorem dX6_turns_56 : decode cX6_turns 56 = .ok (.imul, 1) := by decide +kernel
theorem dX6_turns_57 : decode cX6_turns 57 = .ok (.istore 5, 2) := by decide +kernel
theorem dX6_turns_59 : decode cX6_turns 59 = .ok (.iinc 6 1, 3) := by decide +kernel
theorem dX6_turns_62 : decode cX6_turns 62 = .ok (.goto (-18), 3) := by decide +kernel
theorem dX6_turns_65 : decode cX6_turns 65 = .ok (.iconst 0, 1) := by decide +kernel
theorem dX6_turns_66 : decode cX6_turns 66 = .ok (.istore 6, 2) := by decide +kernel
theorem dX6_turns_68 : decode cX6_turns 68 = .ok (.iload 6, 2) := by decide +kernel
theorem dX6_turns_70 : decode cX6_turns 70 = .ok (.iload 5, 2) := by decide +kernel
theorem dX6_turns_72 : decode cX6_turns 72 = .ok (.if_icmp .ge 25, 3) := by decide +kernel
theorem dX6_turns_75 : decode cX6_turns 75 = .ok (.aload_n 0, 1) := by decide +kernel
theorem dX6_turns_76 : decode cX6_turns 76 = .ok (.getfield 60, 3) := by decide +kernel
theorem dX6_turns_79 : decode cX6_turns 79 = .ok (.iload 6, 2) := by decide +kernel
theorem dX6_turns_81 : decode cX6_turns 81 = .ok (.aload_n 0, 1) := by decide +kernel
theorem dX6_turns_82 : decode cX6_turns 82 = .ok (.iload_n 1, 1) := by decide +kernel
theorem dX6_turns_83 : decode cX6_turns 83 = .ok (.iload_n 2, 1) := by decide +kernel
theorem dX6_turns_84 : decode cX6_turns 84 = .ok (.iload_n 3, 1) := by decide +kernel
theorem dX6_turns_85 : decode cX6_turns 85 = .ok (.iload 6, 2) := by decide +kernel
theorem dX6_turns_87 : decode cX6_turns 87 = .ok (.invokevirtual 192, 3) := by decide +kernel
theorem dX6_turns_90 : decode cX6_turns 90 = .ok (.bastore, 1) := by decide +kernel
theorem dX6_turns_91 : decode cX6_turns 91 = .ok (.iinc 6 1, 3) := by decide +kernel
theorem dX6_turns_94 : decode cX6_turns 94 = .ok (.goto (-26), 3) := by decide +kernel
theorem dX6_turns_97 : decode cX6_turns 97 = .ok (.iconst 2, 1) := by decide +kernel
theorem dX6_turns_98 : decode cX6_turns 98 = .ok (.iload_n 3, 1) := by decide +kernel
theorem dX6_turns_99 : decode cX6_turns 99 = .ok (.imul, 1) := by decide +kernel
theorem dX6_turns_100 : decode cX6_turns 100 = .ok (.iconst 1, 1) := by decide +kernel
theorem dX6_turns_101 : decode cX6_turns 101 = .ok (.isub, 1) := by decide +kernel
theorem dX6_turns_102 : decode cX6_turns 102 = .ok (.istore 6, 2) := by decide +kernel
theorem dX6_turns_104 : decode cX6_turns 104 = .ok (.iload 6, 2) := by decide +kernel
theorem dX6_turns_106 : decode cX6_turns 106 = .ok (.ifCond .lt 131, 3) := by decide +kernel
theorem dX6_turns_109 : decode cX6_turns 109 = .ok (.iload 5, 2) := by decide +kernel
theorem dX6_turns_111 : decode cX6_turns 111 = .ok (.iload 4, 2) := by decide +kernel
theorem dX6_turns_113 : decode cX6_turns 113 = .ok (.idiv, 1) := by decide +kernel
theorem dX6_turns_114 : decode cX6_turns 114 = .ok (.istore 5, 2) := by decide +kernel
theorem dX6_turns_116 : decode cX6_turns 116 = .ok (.iconst 0, 1) := by decide +kernel
theorem dX6_turns_117 : decode cX6_turns 117 = .ok (.istore 7, 2) := by decide +kernel
theorem dX6_turns_119 : decode cX6_turns 119 = .ok (.iload 7, 2) := by decide +kernel
theorem dX6_turns_121 : decode cX6_turns 121 = .ok (.iload 5, 2) := by decide +kernel
theorem dX6_turns_123 : decode cX6_turns 123 = .ok (.if_icmp .ge 108, 3) := by decide +kernel
theorem dX6_turns_126 : decode cX6_turns 126 = .ok (.iconst 1, 1) := by decide +kernel
theorem dX6_turns_127 : decode cX6_turns 127 = .ok (.istore 8, 2) := by decide +kernel
theorem dX6_turns_129 : decode cX6_turns 129 = .ok (.iconst 0, 1) := by decide +kernel
theorem dX6_turns_130 : decode cX6_turns 130 = .ok (.istore 9, 2) := by decide +kernel
theorem dX6_turns_132 : decode cX6_turns 132 = .ok (.iconst 0, 1) := by decide +kernel
theorem dX6_turns_133 : decode cX6_turns 133 = .ok (.istore 10, 2) := by decide +kernel
theorem dX6_turns_135 : decode cX6_turns 135 = .ok (.iload 10, 2) := by decide +kernel
theorem dX6_turns_137 : decode cX6_turns 137 = .ok (.iload 4, 2) := by decide +kernel
theorem dX6_turns_139 : decode cX6_turns 139 = .ok (.if_icmp .ge 65, 3) := by decide +kernel
theorem dX6_turns_142 : decode cX6_turns 142 = .ok (.iload 8, 2) := by decide +kernel
theorem dX6_turns_144 : decode cX6_turns 144 = .ok (.ifCond .eq 23, 3) := by decide +kernel
theorem dX6_turns_147 : decode cX6_turns 147 = .ok (.aload_n 0, 1) := by decide +kernel
theorem dX6_turns_148 : decode cX6_turns 148 = .ok (.getfield 60, 3) := by decide +kernel
theorem dX6_turns_151 : decode cX6_turns 151 = .ok (.iload 4, 2) := by decide +kernel
theorem dX6_turns_153 : decode cX6_turns 153 = .ok (.iload 7, 2) := by decide +kernel
theorem dX6_turns_155 : decode cX6_turns 155 = .ok (.imul, 1) := by decide +kernel
theorem dX6_turns_156 : decode cX6_turns 156 = .ok (.iload 10, 2) := by decide +kernel
theorem dX6_turns_158 : decode cX6_turns 158 = .ok (.iadd, 1) := by decide +kernel
theorem dX6_turns_159 : decode cX6_turns 159 = .ok (.baload, 1) := by decide +kernel
theorem dX6_turns_160 : decode cX6_turns 160 = .ok (.ifCond .eq 7, 3) := by decide +kernel
theorem dX6_turns_163 : decode cX6_turns 163 = .ok (.iconst 1, 1) := by decide +kernel
theorem dX6_turns_164 : decode cX6_turns 164 = .ok (.goto 4, 3) := by decide +kernel
theorem dX6_turns_167 : decode cX6_turns 167 = .ok (.iconst 0, 1) := by decide +kernel
theorem dX6_turns_168 : decode cX6_turns 168 = .ok (.istore 8, 2) := by decide +kernel
theorem dX6_turns_170 : decode cX6_turns 170 = .ok (.iload 9, 2) := by decide +kernel
theorem dX6_turns_172 : decode cX6_turns 172 = .ok (.ifCond .ne 19, 3) := by decide +kernel
theorem dX6_turns_175 : decode cX6_turns 175 = .ok (.aload_n 0, 1) := by decide +kernel
theorem dX6_turns_176 : decode cX6_turns 176 = .ok (.getfield 60, 3) := by decide +kernel
theorem dX6_turns_179 : decode cX6_turns 179 = .ok (.iload 4, 2) := by decide +kernel
theorem dX6_turns_181 : decode cX6_turns 181 = .ok (.iload 7, 2) := by decide +kernel
theorem dX6_turns_183 : decode cX6_turns 183 = .ok (.imul, 1) := by decide +kernel
theorem dX6_turns_184 : decode cX6_turns 184 = .ok (.iload 10, 2) := by decide +kernel
theorem dX6_turns_186 : decode cX6_turns 186 = .ok (.iadd, 1) := by decide +kernel
theorem dX6_turns_187 : decode cX6_turns 187 = .ok (.baload, 1) := by decide +kernel
theorem dX6_turns_188 : decode cX6_turns 188 = .ok (.ifCond .eq 7, 3) := by decide +kernel
theorem dX6_turns_191 : decode cX6_turns 191 = .ok (.iconst 1, 1) := by decide +kernel
theorem dX6_turns_192 : decode cX6_turns 192 = .ok (.goto 4, 3) := by decide +kernel
theorem dX6_turns_195 : decode cX6_turns 195 = .ok (.iconst 0, 1) := by decide +kernel
theorem dX6_turns_196 : decode cX6_turns 196 = .ok (.istore 9, 2) := by decide +kernel
theorem dX6_turns_198 : decode cX6_turns 198 = .ok (.iinc 10 1, 3) := by decide +kernel
theorem dX6_turns_201 : decode cX6_turns 201 = .ok (.goto (-66), 3) := by decide +kernel
theorem dX6_turns_204 : decode cX6_turns 204 = .ok (.aload_n 0, 1) := by decide +kernel
theorem dX6_turns_205 : decode cX6_turns 205 = .ok (.getfield 60, 3) := by decide +kernel
theorem dX6_turns_208 : decode cX6_turns 208 = .ok (.iload 7, 2) := by decide +kernel
theorem dX6_turns_210 : decode cX6_turns 210 = .ok (.iload 6, 2) := by decide +kernel
theorem dX6_turns_212 : decode cX6_turns 212 = .ok (.iconst 2, 1) := by decide +kernel
theorem dX6_turns_213 : decode cX6_turns 213 = .ok (.irem, 1) := by decide +kernel
theorem dX6_turns_214 : decode cX6_turns 214 = .ok (.ifCond .ne 8, 3) := by decide +kernel
theorem dX6_turns_217 : decode cX6_turns 217 = .ok (.iload 9, 2) := by decide +kernel
theorem dX6_turns_219 : decode cX6_turns 219 = .ok (.goto 5, 3) := by decide +kernel
theorem dX6_turns_222 : decode cX6_turns 222 = .ok (.iload 8, 2) := by decide +kernel
theorem dX6_turns_224 : decode cX6_turns 224 = .ok (.bastore, 1) := by decide +kernel
theorem dX6_turns_225 : decode cX6_turns 225 = .ok (.iinc 7 1, 3) := by decide +kernel
theorem dX6_turns_228 : decode cX6_turns 228 = .ok (.goto (-109), 3) := by decide +kernel
theorem dX6_turns_231 : decode cX6_turns 231 = .ok (.iinc 6 (-1), 3) := by decide +kernel
theorem dX6_turns_234 : decode cX6_turns 234 = .ok (.goto (-130), 3) := by decide +kernel
theorem dX6_turns_237 : decode cX6_turns 237 = .ok (.aload_n 0, 1) := by decide +kernel
theorem dX6_turns_238 : decode cX6_turns 238 = .ok (.getfield 60, 3) := by decide +kernel
theorem dX6_turns_241 : decode cX6_turns 241 = .ok (.iconst 0, 1) := by decide +kernel
theorem dX6_turns_242 : decode cX6_turns 242 = .ok (.baload, 1) := by decide +kernel
theorem dX6_turns_243 : decode cX6_turns 243 = .ok (.ifCond .eq 7, 3) := by decide +kernel
theorem dX6_turns_246 : decode cX6_turns 246 = .ok (.iconst 1, 1) := by decide +kernel
theorem dX6_turns_247 : decode cX6_turns 247 = .ok (.goto 4, 3) := by decide +kernel
theorem dX6_turns_250 : decode cX6_turns 250 = .ok (.iconst 0, 1) := by decide +kernel
theorem dX6_turns_251 : decode cX6_turns 251 = .ok (.ireturn, 1) := by decide +kernel
theorem dX6_keepAt_0 : decode cX6_keepAt 0 = .ok (.aload_n 0, 1) := by decide +kernel
theorem dX6_keepAt_1 : decode cX6_keepAt 1 = .ok (.iload_n 1, 1) := by decide +kernel
theorem dX6_keepAt_2 : decode cX6_keepAt 2 = .ok (.invokevirtual 117, 3) := by decide +kernel
theorem dX6_keepAt_5 : decode cX6_keepAt 5 = .ok (.ifCond .eq 13, 3) := by decide +kernel
theorem dX6_keepAt_8 : decode cX6_keepAt 8 = .ok (.iload_n 2, 1) := by decide +kernel
theorem dX6_keepAt_9 : decode cX6_keepAt 9 = .ok (.iconst 0, 1) := by decide +kernel
theorem dX6_keepAt_10 : decode cX6_keepAt 10 = .ok (.bipush 99, 2) := by decide +kernel
theorem dX6_keepAt_12 : decode cX6_keepAt 12 = .ok (.invokestatic 63, 3) := by decide +kernel
theorem dX6_keepAt_15 : decode cX6_keepAt 15 = .ok (.ifCond .ne 5, 3) := by decide +kernel
theorem dX6_keepAt_18 : decode cX6_keepAt 18 = .ok (.iconst (-1), 1) := by decide +kernel
theorem dX6_keepAt_19 : decode cX6_keepAt 19 = .ok (.ireturn, 1) := by decide +kernel
theorem dX6_keepAt_20 : decode cX6_keepAt 20 = .ok (.iconst 0, 1) := by decide +kernel
theorem dX6_keepAt_21 : decode cX6_keepAt 21 = .ok (.istore_n 3, 1) := by decide +kernel
theorem dX6_keepAt_22 : decode cX6_keepAt 22 = .ok (.bipush 9, 2) := by decide +kernel
theorem dX6_keepAt_24 : decode cX6_keepAt 24 = .ok (.istore 4, 2) := by decide +kernel
theorem dX6_keepAt_26 : decode cX6_keepAt 26 = .ok (.iconst 0, 1) := by decide +kernel
theorem dX6_keepAt_27 : decode cX6_keepAt 27 = .ok (.istore 5, 2) := by decide +kernel
theorem dX6_keepAt_29 : decode cX6_keepAt 29 = .ok (.iload 5, 2) := by decide +kernel
theorem dX6_keepAt_31 : decode cX6_keepAt 31 = .ok (.iconst 4, 1) := by decide +kernel
theorem dX6_keepAt_32 : decode cX6_keepAt 32 = .ok (.if_icmp .ge 106, 3) := by decide +kernel
theorem dX6_keepAt_35 : decode cX6_keepAt 35 = .ok (.aload_n 0, 1) := by decide +kernel
theorem dX6_keepAt_36 : decode cX6_keepAt 36 = .ok (.invokevirtual 163, 3) := by decide +kernel
theorem dX6_keepAt_39 : decode cX6_keepAt 39 = .ok (.aload_n 0, 1) := by decide +kernel
theorem dX6_keepAt_40 : decode cX6_keepAt 40 = .ok (.iload_n 2, 1) := by decide +kernel
theorem dX6_keepAt_41 : decode cX6_keepAt 41 = .ok (.putfield 124, 3) := by decide +kernel
theorem dX6_keepAt_44 : decode cX6_keepAt 44 = .ok (.aload_n 0, 1) := by decide +kernel
theorem dX6_keepAt_45 : decode cX6_keepAt 45 = .ok (.iload_n 1, 1) := by decide +kernel
theorem dX6_keepAt_46 : decode cX6_keepAt 46 = .ok (.putfield 127, 3) := by decide +kernel
theorem dX6_keepAt_49 : decode cX6_keepAt 49 = .ok (.aload_n 0, 1) := by decide +kernel
theorem dX6_keepAt_50 : decode cX6_keepAt 50 = .ok (.iload 5, 2) := by decide +kernel
theorem dX6_keepAt_52 : decode cX6_keepAt 52 = .ok (.putfield 147, 3) := by decide +kernel
theorem dX6_keepAt_55 : decode cX6_keepAt 55 = .ok (.aload_n 0, 1) := by decide +kernel
theorem dX6_keepAt_56 : decode cX6_keepAt 56 = .ok (.iconst 0, 1) := by decide +kernel
theorem dX6_keepAt_57 : decode cX6_keepAt 57 = .ok (.invokevirtual 166, 3) := by decide +kernel
theorem dX6_keepAt_60 : decode cX6_keepAt 60 = .ok (.iconst 0, 1) := by decide +kernel
theorem dX6_keepAt_61 : decode cX6_keepAt 61 = .ok (.istore 6, 2) := by decide +kernel
theorem dX6_keepAt_63 : decode cX6_keepAt 63 = .ok (.iconst 0, 1) := by decide +kernel
theorem dX6_keepAt_64 : decode cX6_keepAt 64 = .ok (.istore 7, 2) := by decide +kernel
theorem dX6_keepAt_66 : decode cX6_keepAt 66 = .ok (.iload 7, 2) := by decide +kernel
theorem dX6_keepAt_68 : decode cX6_keepAt 68 = .ok (.iconst 4, 1) := by decide +kernel
theorem dX6_keepAt_69 : decode cX6_keepAt 69 = .ok (.if_icmp .ge 33, 3) := by decide +kernel
theorem dX6_keepAt_72 : decode cX6_keepAt 72 = .ok (.iload 6, 2) := by decide +kernel
theorem dX6_keepAt_74 : decode cX6_keepAt 74 = .ok (.aload_n 0, 1) := by decide +kernel
theorem dX6_keepAt_75 : decode cX6_keepAt 75 = .ok (.getfield 45, 3) := by decide +kernel
theorem dX6_keepAt_78 : decode cX6_keepAt 78 = .ok (.iconst 4, 1) := by decide +kernel
theorem dX6_keepAt_79 : decode cX6_keepAt 79 = .ok (.iload_n 1, 1) := by decide +kernel
theorem dX6_keepAt_80 : decode cX6_keepAt 80 = .ok (.imul, 1) := by decide +kernel
theorem dX6_keepAt_81 : decode cX6_keepAt 81 = .ok (.iload 7, 2) := by decide +kernel
theorem dX6_keepAt_83 : decode cX6_keepAt 83 = .ok (.iadd, 1) := by decide +kernel
theorem dX6_keepAt_84 : decode cX6_keepAt 84 = .ok (.iaload, 1) := by decide +kernel
theorem dX6_keepAt_85 : decode cX6_keepAt 85 = .ok (.ifCond .eq 7, 3) := by decide +kernel
theorem dX6_keepAt_88 : decode cX6_keepAt 88 = .ok (.iconst 1, 1) := by decide +kernel
theorem dX6_keepAt_89 : decode cX6_keepAt 89 = .ok (.goto 4, 3) := by decide +kernel
theorem dX6_keepAt_92 : decode cX6_keepAt 92 = .ok (.iconst 0, 1) := by decide +kernel
theorem dX6_keepAt_93 : decode cX6_keepAt 93 = .ok (.iadd, 1) := by decide +kernel
theorem dX6_keepAt_94 : decode cX6_keepAt 94 = .ok (.istore 6, 2) := by decide +kernel
theorem dX6_keepAt_96 : decode cX6_keepAt 96 = .ok (.iinc 7 1, 3) := by decide +kernel
theorem dX6_keepAt_99 : decode cX6_keepAt 99 = .ok (.goto (-33), 3) := by decide +kernel
theorem dX6_keepAt_102 : decode cX6_keepAt 102 = .ok (.iload 6, 2) := by decide +kernel
theorem dX6_keepAt_104 : decode cX6_keepAt 104 = .ok (.iload 4, 2) := by decide +kernel
theorem dX6_keepAt_106 : decode cX6_keepAt 106 = .ok (.if_icmp .ge 8, 3) := by decide +kernel
theorem dX6_keepAt_109 : decode cX6_keepAt 109 = .ok (.iload 5, 2) := by decide +kernel
theorem dX6_keepAt_111 : decode cX6_keepAt 111 = .ok (.goto 4, 3) := by decide +kernel
theorem dX6_keepAt_114 : decode cX6_keepAt 114 = .ok (.iload_n 3, 1) := by decide +kernel
theorem dX6_keepAt_115 : decode cX6_keepAt 115 = .ok (.istore_n 3, 1) := by decide +kernel
theorem dX6_keepAt_116 : decode cX6_keepAt 116 = .ok (.iload 6, 2) := by decide +kernel
theorem dX6_keepAt_118 : decode cX6_keepAt 118 = .ok (.iload 4, 2) := by decide +kernel
theorem dX6_keepAt_120 : decode cX6_keepAt 120 = .ok (.if_icmp .ge 8, 3) := by decide +kernel
theorem dX6_keepAt_123 : decode cX6_keepAt 123 = .ok (.iload 6, 2) := by decide +kernel
theorem dX6_keepAt_125 : decode cX6_keepAt 125 = .ok (.goto 5, 3) := by decide +kernel
theorem dX6_keepAt_128 : decode cX6_keepAt 128 = .ok (.iload 4, 2) := by decide +kernel
theorem dX6_keepAt_130 : decode cX6_keepAt 130 = .ok (.istore 4, 2) := by decide +kernel
theorem dX6_keepAt_132 : decode cX6_keepAt 132 = .ok (.iinc 5 1, 3) := by decide +kernel
theorem dX6_keepAt_135 : decode cX6_keepAt 135 = .ok (.goto (-106), 3) := by decide +kernel
theorem dX6_keepAt_138 : decode cX6_keepAt 138 = .ok (.iload_n 3, 1) := by decide +kernel
theorem dX6_keepAt_139 : decode cX6_keepAt 139 = .ok (.ireturn, 1) := by decide +kernel
theorem dX6_common_0 : decode cX6_common 0 = .ok (.lload_n 0, 1) := by decide +kernel
theorem dX6_common_1 : decode cX6_common 1 = .ok (.lstore 4, 2) := by decide +kernel
theorem dX6_common_3 : decode cX6_common 3 = .ok (.lload_n 2, 1) := by decide +kernel
theorem dX6_common_4 : decode cX6_common 4 = .ok (.lstore 6, 2) := by decide +kernel
theorem dX6_common_6 : decode cX6_common 6 = .ok (.lload 6, 2) := by decide +kernel
theorem dX6_common_8 : decode cX6_common 8 = .ok (.lconst 0, 1) := by decide +kernel
theorem dX6_common_9 : decode cX6_common 9 = .ok (.lcmp, 1) := by decide +kernel
theorem dX6_common_10 : decode cX6_common 10 = .ok (.ifCond .eq 21, 3) := by decide +kernel
theorem dX6_common_13 : decode cX6_common 13 = .ok (.lload 4, 2) := by decide +kernel
theorem dX6_common_15 : decode cX6_common 15 = .ok (.lload 6, 2) := by decide +kernel
theorem dX6_common_17 : decode cX6_common 17 = .ok (.lrem, 1) := by decide +kernel
theorem dX6_common_18 : decode cX6_common 18 = .ok (.lstore 8, 2) := by decide +kernel
theorem dX6_common_20 : decode cX6_common 20 = .ok (.lload 6, 2) := by decide +kernel
theorem dX6_common_22 : decode cX6_common 22 = .ok (.lstore 4, 2) := by decide +kernel
theorem dX6_common_24 : decode cX6_common 24 = .ok (.lload 8, 2) := by decide +kernel
theorem dX6_common_26 : decode cX6_common 26 = .ok (.lstore 6, 2) := by decide +kernel
theorem dX6_common_28 : decode cX6_common 28 = .ok (.goto (-22), 3) := by decide +kernel
theorem dX6_common_31 : decode cX6_common 31 = .ok (.lload 4, 2) := by decide +kernel
theorem dX6_common_33 : decode cX6_common 33 = .ok (.lreturn, 1) := by decide +kernel
theorem dX6_chance_0 : decode cX6_chance 0 = .ok (.iload_n 1, 1) := by decide +kernel
theorem dX6_chance_1 : decode cX6_chance 1 = .ok (.invokestatic 169, 3) := by decide +kernel
theorem dX6_chance_4 : decode cX6_chance 4 = .ok (.ifCond .eq 44, 3) := by decide +kernel
theorem dX6_chance_7 : decode cX6_chance 7 = .ok (.iload_n 2, 1) := by decide +kernel
theorem dX6_chance_8 : decode cX6_chance 8 = .ok (.iconst 0, 1) := by decide +kernel
theorem dX6_chance_9 : decode cX6_chance 9 = .ok (.bipush 99, 2) := by decide +kernel
theorem dX6_chance_11 : decode cX6_chance 11 = .ok (.invokestatic 63, 3) := by decide +kernel
theorem dX6_chance_14 : decode cX6_chance 14 = .ok (.ifCond .eq 34, 3) := by decide +kernel
theorem dX6_chance_17 : decode cX6_chance 17 = .ok (.iload 4, 2) := by decide +kernel
theorem dX6_chance_19 : decode cX6_chance 19 = .ok (.iconst 1, 1) := by decide +kernel
theorem dX6_chance_20 : decode cX6_chance 20 = .ok (.bipush 9, 2) := by decide +kernel
theorem dX6_chance_22 : decode cX6_chance 22 = .ok (.invokestatic 63, 3) := by decide +kernel
theorem dX6_chance_25 : decode cX6_chance 25 = .ok (.ifCond .eq 23, 3) := by decide +kernel
theorem dX6_chance_28 : decode cX6_chance 28 = .ok (.iload_n 3, 1) := by decide +kernel
theorem dX6_chance_29 : decode cX6_chance 29 = .ok (.iconst 0, 1) := by decide +kernel
theorem dX6_chance_30 : decode cX6_chance 30 = .ok (.iload 4, 2) := by decide +kernel
theorem dX6_chance_32 : decode cX6_chance 32 = .ok (.invokestatic 63, 3) := by decide +kernel
theorem dX6_chance_35 : decode cX6_chance 35 = .ok (.ifCond .eq 13, 3) := by decide +kernel
theorem dX6_chance_38 : decode cX6_chance 38 = .ok (.iload 5, 2) := by decide +kernel
theorem dX6_chance_40 : decode cX6_chance 40 = .ok (.iconst 0, 1) := by decide +kernel
theorem dX6_chance_41 : decode cX6_chance 41 = .ok (.iconst 1, 1) := by decide +kernel
theorem dX6_chance_42 : decode cX6_chance 42 = .ok (.invokestatic 63, 3) := by decide +kernel
theorem dX6_chance_45 : decode cX6_chance 45 = .ok (.ifCond .ne 7, 3) := by decide +kernel
theorem dX6_chance_48 : decode cX6_chance 48 = .ok (.ldc2_w 195, 3) := by decide +kernel
theorem dX6_chance_51 : decode cX6_chance 51 = .ok (.lreturn, 1) := by decide +kernel
theorem dX6_chance_52 : decode cX6_chance 52 = .ok (.aload_n 0, 1) := by decide +kernel
theorem dX6_chance_53 : decode cX6_chance 53 = .ok (.iload_n 1, 1) := by decide +kernel
theorem dX6_chance_54 : decode cX6_chance 54 = .ok (.iload_n 2, 1) := by decide +kernel
theorem dX6_chance_55 : decode cX6_chance 55 = .ok (.iconst 0, 1) := by decide +kernel
theorem dX6_chance_56 : decode cX6_chance 56 = .ok (.iconst 1, 1) := by decide +kernel
theorem dX6_chance_57 : decode cX6_chance 57 = .ok (.invokevirtual 185, 3) := by decide +kernel
theorem dX6_chance_60 : decode cX6_chance 60 = .ok (.pop, 1) := by decide +kernel
theorem dX6_chance_61 : decode cX6_chance 61 = .ok (.aload_n 0, 1) := by decide +kernel
theorem dX6_chance_62 : decode cX6_chance 62 = .ok (.getfield 134, 3) := by decide +kernel
theorem dX6_chance_65 : decode cX6_chance 65 = .ok (.iconst (-1), 1) := by decide +kernel
theorem dX6_chance_66 : decode cX6_chance 66 = .ok (.ixor, 1) := by decide +kernel
theorem dX6_chance_67 : decode cX6_chance 67 = .ok (.iconst 1, 1) := by decide +kernel
theorem dX6_chance_68 : decode cX6_chance 68 = .ok (.aload_n 0, 1) := by decide +kernel
theorem dX6_chance_69 : decode cX6_chance 69 = .ok (.getfield 13, 3) := by decide +kernel
theorem dX6_chance_72 : decode cX6_chance 72 = .ok (.iconst 0, 1) := by decide +kernel
theorem dX6_chance_73 : decode cX6_chance 73 = .ok (.iaload, 1) := by decide +kernel
theorem dX6_chance_74 : decode cX6_chance 74 = .ok (.ishl, 1) := by decide +kernel
theorem dX6_chance_75 : decode cX6_chance 75 = .ok (.iconst 1, 1) := by decide +kernel
theorem dX6_chance_76 : decode cX6_chance 76 = .ok (.isub, 1) := by decide +kernel
theorem dX6_chance_77 : decode cX6_chance 77 = .ok (.iand, 1) := by decide +kernel
theorem dX6_chance_78 : decode cX6_chance 78 = .ok (.istore 6, 2) := by decide +kernel
theorem dX6_chance_80 : decode cX6_chance 80 = .ok (.lconst 0, 1) := by decide +kernel
theorem dX6_chance_81 : decode cX6_chance 81 = .ok (.lstore 7, 2) := by decide +kernel
theorem dX6_chance_83 : decode cX6_chance 83 = .ok (.lconst 1, 1) := by decide +kernel
theorem dX6_chance_84 : decode cX6_chance 84 = .ok (.lstore 9, 2) := by decide +kernel
theorem dX6_chance_86 : decode cX6_chance 86 = .ok (.iconst 0, 1) := by decide +kernel
theorem dX6_chance_87 : decode cX6_chance 87 = .ok (.istore 11, 2) := by decide +kernel
theorem dX6_chance_89 : decode cX6_chance 89 = .ok (.iload 11, 2) := by decide +kernel
theorem dX6_chance_91 : decode cX6_chance 91 = .ok (.iload 6, 2) := by decide +kernel
theorem dX6_chance_93 : decode cX6_chance 93 = .ok (.invokestatic 175, 3) := by decide +kernel
theorem dX6_chance_96 : decode cX6_chance 96 = .ok (.if_icmp .ge 17, 3) := by decide +kernel
theorem dX6_chance_99 : decode cX6_chance 99 = .ok (.lload 9, 2) := by decide +kernel
theorem dX6_chance_101 : decode cX6_chance 101 = .ok (.iload 4, 2) := by decide +kernel
theorem dX6_chance_103 : decode cX6_chance 103 = .ok (.i2l, 1) := by decide +kernel
theorem dX6_chance_104 : decode cX6_chance 104 = .ok (.lmul, 1) := by decide +kernel
theorem dX6_chance_105 : decode cX6_chance 105 = .ok (.lstore 9, 2) := by decide +kernel
theorem dX6_chance_107 : decode cX6_chance 107 = .ok (.iinc 11 1, 3) := by decide +kernel
theorem dX6_chance_110 : decode cX6_chance 110 = .ok (.goto (-21), 3) := by decide +kernel
theorem dX6_chance_113 : decode cX6_chance 113 = .ok (.iconst 0, 1) := by decide +kernel
theorem dX6_chance_114 : decode cX6_chance 114 = .ok (.istore 11, 2) := by decide +kernel
theorem dX6_chance_116 : decode cX6_chance 116 = .ok (.iload 11, 2) := by decide +kernel
theorem dX6_chance_118 : decode cX6_chance 118 = .ok (.iconst 1, 1) := by decide +kernel
theorem dX6_chance_119 : decode cX6_chance 119 = .ok (.aload_n 0, 1) := by decide +kernel
theorem dX6_chance_120 : decode cX6_chance 120 = .ok (.getfield 13, 3) := by decide +kernel
theorem dX6_chance_123 : decode cX6_chance 123 = .ok (.iconst 0, 1) := by decide +kernel
theorem dX6_chance_124 : decode cX6_chance 124 = .ok (.iaload, 1) := by decide +kernel
theorem dX6_chance_125 : decode cX6_chance 125 = .ok (.ishl, 1) := by decide +kernel
theorem dX6_chance_126 : decode cX6_chance 126 = .ok (.if_icmp .ge 101, 3) := by decide +kernel
theorem dX6_chance_129 : decode cX6_chance 129 = .ok (.iload 11, 2) := by decide +kernel
theorem dX6_chance_131 : decode cX6_chance 131 = .ok (.iload 6, 2) := by decide +kernel
theorem dX6_chance_133 : decode cX6_chance 133 = .ok (.iconst (-1), 1) := by decide +kernel
theorem dX6_chance_134 : decode cX6_chance 134 = .ok (.ixor, 1) := by decide +kernel
theorem dX6_chance_135 : decode cX6_chance 135 = .ok (.iand, 1) := by decide +kernel
theorem dX6_chance_136 : decode cX6_chance 136 = .ok (.ifCond .ne 85, 3) := by decide +kernel
theorem dX6_chance_139 : decode cX6_chance 139 = .ok (.aload_n 0, 1) := by decide +kernel
theorem dX6_chance_140 : decode cX6_chance 140 = .ok (.iload_n 1, 1) := by decide +kernel
theorem dX6_chance_141 : decode cX6_chance 141 = .ok (.iload_n 2, 1) := by decide +kernel
theorem dX6_chance_142 : decode cX6_chance 142 = .ok (.iload 11, 2) := by decide +kernel
theorem dX6_chance_144 : decode cX6_chance 144 = .ok (.iconst 1, 1) := by decide +kernel
theorem dX6_chance_145 : decode cX6_chance 145 = .ok (.invokevirtual 185, 3) := by decide +kernel
theorem dX6_chance_148 : decode cX6_chance 148 = .ok (.ifCond .eq 73, 3) := by decide +kernel
theorem dX6_chance_151 : decode cX6_chance 151 = .ok (.lconst 1, 1) := by decide +kernel
theorem dX6_chance_152 : decode cX6_chance 152 = .ok (.lstore 12, 2) := by decide +kernel
theorem dX6_chance_154 : decode cX6_chance 154 = .ok (.iconst 0, 1) := by decide +kernel
theorem dX6_chance_155 : decode cX6_chance 155 = .ok (.istore 14, 2) := by decide +kernel
theorem dX6_chance_157 : decode cX6_chance 157 = .ok (.iload 14, 2) := by decide +kernel
theorem dX6_chance_159 : decode cX6_chance 159 = .ok (.aload_n 0, 1) := by decide +kernel
theorem dX6_chance_160 : decode cX6_chance 160 = .ok (.getfield 13, 3) := by decide +kernel
theorem dX6_chance_163 : decode cX6_chance 163 = .ok (.iconst 0, 1) := by decide +kernel
theorem dX6_chance_164 : decode cX6_chance 164 = .ok (.iaload, 1) := by decide +kernel
theorem dX6_chance_165 : decode cX6_chance 165 = .ok (.if_icmp .ge 49, 3) := by decide +kernel
theorem dX6_chance_168 : decode cX6_chance 168 = .ok (.lload 12, 2) := by decide +kernel
theorem dX6_chance_170 : decode cX6_chance 170 = .ok (.iload 6, 2) := by decide +kernel
theorem dX6_chance_172 : decode cX6_chance 172 = .ok (.iload 14, 2) := by decide +kernel
theorem dX6_chance_174 : decode cX6_chance 174 = .ok (.ishr, 1) := by decide +kernel
theorem dX6_chance_175 : decode cX6_chance 175 = .ok (.iconst 1, 1) := by decide +kernel
theorem dX6_chance_176 : decode cX6_chance 176 = .ok (.iand, 1) := by decide +kernel
theorem dX6_chance_177 : decode cX6_chance 177 = .ok (.ifCond .ne 7, 3) := by decide +kernel
theorem dX6_chance_180 : decode cX6_chance 180 = .ok (.lconst 1, 1) := by decide +kernel
theorem dX6_chance_181 : decode cX6_chance 181 = .ok (.goto 24, 3) := by decide +kernel
theorem dX6_chance_184 : decode cX6_chance 184 = .ok (.iload 11, 2) := by decide +kernel
theorem dX6_chance_186 : decode cX6_chance 186 = .ok (.iload 14, 2) := by decide +kernel
theorem dX6_chance_188 : decode cX6_chance 188 = .ok (.ishr, 1) := by decide +kernel
theorem dX6_chance_189 : decode cX6_chance 189 = .ok (.iconst 1, 1) := by decide +kernel
theorem dX6_chance_190 : decode cX6_chance 190 = .ok (.iand, 1) := by decide +kernel
theorem dX6_chance_191 : decode cX6_chance 191 = .ok (.iconst 1, 1) := by decide +kernel
theorem dX6_chance_192 : decode cX6_chance 192 = .ok (.if_icmp .ne 8, 3) := by decide +kernel
theorem dX6_chance_195 : decode cX6_chance 195 = .ok (.iload_n 3, 1) := by decide +kernel
theorem dX6_chance_196 : decode cX6_chance 196 = .ok (.i2l, 1) := by decide +kernel
theorem dX6_chance_197 : decode cX6_chance 197 = .ok (.goto 8, 3) := by decide +kernel
theorem dX6_chance_200 : decode cX6_chance 200 = .ok (.iload 4, 2) := by decide +kernel
theorem dX6_chance_202 : decode cX6_chance 202 = .ok (.iload_n 3, 1) := by decide +kernel
theorem dX6_chance_203 : decode cX6_chance 203 = .ok (.isub, 1) := by decide +kernel
theorem dX6_chance_204 : decode cX6_chance 204 = .ok (.i2l, 1) := by decide +kernel
theorem dX6_chance_205 : decode cX6_chance 205 = .ok (.lmul, 1) := by decide +kernel
theorem dX6_chance_206 : decode cX6_chance 206 = .ok (.lstore 12, 2) := by decide +kernel
theorem dX6_chance_208 : decode cX6_chance 208 = .ok (.iinc 14 1, 3) := by decide +kernel
theorem dX6_chance_211 : decode cX6_chance 211 = .ok (.goto (-54), 3) := by decide +kernel
theorem dX6_chance_214 : decode cX6_chance 214 = .ok (.lload 7, 2) := by decide +kernel
theorem dX6_chance_216 : decode cX6_chance 216 = .ok (.lload 12, 2) := by decide +kernel
theorem dX6_chance_218 : decode cX6_chance 218 = .ok (.ladd, 1) := by decide +kernel
theorem dX6_chance_219 : decode cX6_chance 219 = .ok (.lstore 7, 2) := by decide +kernel
theorem dX6_chance_221 : decode cX6_chance 221 = .ok (.iinc 11 1, 3) := by decide +kernel
theorem dX6_chance_224 : decode cX6_chance 224 = .ok (.goto (-108), 3) := by decide +kernel
theorem dX6_chance_227 : decode cX6_chance 227 = .ok (.lload 7, 2) := by decide +kernel
theorem dX6_chance_229 : decode cX6_chance 229 = .ok (.lload 9, 2) := by decide +kernel
theorem dX6_chance_231 : decode cX6_chance 231 = .ok (.invokestatic 197, 3) := by decide +kernel
theorem dX6_chance_234 : decode cX6_chance 234 = .ok (.lstore 11, 2) := by decide +kernel
theorem dX6_chance_236 : decode cX6_chance 236 = .ok (.iload 5, 2) := by decide +kernel
theorem dX6_chance_238 : decode cX6_chance 238 = .ok (.ifCond .ne 11, 3) := by decide +kernel
theorem dX6_chance_241 : decode cX6_chance 241 = .ok (.lload 7, 2) := by decide +kernel
theorem dX6_chance_243 : decode cX6_chance 243 = .ok (.lload 11, 2) := by decide +kernel
theorem dX6_chance_245 : decode cX6_chance 245 = .ok (.ldiv, 1) := by decide +kernel
theorem dX6_chance_246 : decode cX6_chance 246 = .ok (.goto 8, 3) := by decide +kernel
theorem dX6_chance_249 : decode cX6_chance 249 = .ok (.lload 9, 2) := by decide +kernel
theorem dX6_chance_251 : decode cX6_chance 251 = .ok (.lload 11, 2) := by decide +kernel
theorem dX6_chance_253 : decode cX6_chance 253 = .ok (.ldiv, 1) := by decide +kernel
theorem dX6_chance_254 : decode cX6_chance 254 = .ok (.lreturn, 1) := by decide +kernel
theorem dX6_mark_0 : decode cX6_mark 0 = .ok (.iload_n 1, 1) := by decide +kernel
theorem dX6_mark_1 : decode cX6_mark 1 = .ok (.iconst 0, 1) := by decide +kernel
theorem dX6_mark_2 : decode cX6_mark 2 = .ok (.iconst 5, 1) := by decide +kernel
theorem dX6_mark_3 : decode cX6_mark 3 = .ok (.invokestatic 63, 3) := by decide +kernel
theorem dX6_mark_6 : decode cX6_mark 6 = .ok (.ifCond .eq 18, 3) := by decide +kernel
theorem dX6_mark_9 : decode cX6_mark 9 = .ok (.aload_n 0, 1) := by decide +kernel
theorem dX6_mark_10 : decode cX6_mark 10 = .ok (.iload_n 2, 1) := by decide +kernel
theorem dX6_mark_11 : decode cX6_mark 11 = .ok (.invokevirtual 117, 3) := by decide +kernel
theorem dX6_mark_14 : decode cX6_mark 14 = .ok (.ifCond .eq 10, 3) := by decide +kernel
theorem dX6_mark_17 : decode cX6_mark 17 = .ok (.iload_n 3, 1) := by decide +kernel
theorem dX6_mark_18 : decode cX6_mark 18 = .ok (.invokestatic 169, 3) := by decide +kernel
theorem dX6_mark_21 : decode cX6_mark 21 = .ok (.ifCond .ne 6, 3) := by decide +kernel
theorem dX6_mark_24 : decode cX6_mark 24 = .ok (.ldc 201, 2) := by decide +kernel
theorem dX6_mark_26 : decode cX6_mark 26 = .ok (.ireturn, 1) := by decide +kernel
theorem dX6_mark_27 : decode cX6_mark 27 = .ok (.aload_n 0, 1) := by decide +kernel
theorem dX6_mark_28 : decode cX6_mark 28 = .ok (.iconst 0, 1) := by decide +kernel
theorem dX6_mark_29 : decode cX6_mark 29 = .ok (.invokevirtual 172, 3) := by decide +kernel
theorem dX6_mark_32 : decode cX6_mark 32 = .ok (.aload_n 0, 1) := by decide +kernel
theorem dX6_mark_33 : decode cX6_mark 33 = .ok (.getfield 45, 3) := by decide +kernel
theorem dX6_mark_36 : decode cX6_mark 36 = .ok (.iconst 4, 1) := by decide +kernel
theorem dX6_mark_37 : decode cX6_mark 37 = .ok (.iload_n 2, 1) := by decide +kernel
theorem dX6_mark_38 : decode cX6_mark 38 = .ok (.imul, 1) := by decide +kernel
theorem dX6_mark_39 : decode cX6_mark 39 = .ok (.iload_n 3, 1) := by decide +kernel
theorem dX6_mark_40 : decode cX6_mark 40 = .ok (.iadd, 1) := by decide +kernel
theorem dX6_mark_41 : decode cX6_mark 41 = .ok (.iaload, 1) := by decide +kernel
theorem dX6_mark_42 : decode cX6_mark 42 = .ok (.invokestatic 175, 3) := by decide +kernel
theorem dX6_mark_45 : decode cX6_mark 45 = .ok (.istore 4, 2) := by decide +kernel
theorem dX6_mark_47 : decode cX6_mark 47 = .ok (.iload_n 1, 1) := by decide +kernel
theorem dX6_mark_48 : decode cX6_mark 48 = .ok (.tableswitch 126 0 4 #[36, 49, 66, 83, 102], 36) := by decide +kernel
theorem dX6_mark_84 : decode cX6_mark 84 = .ok (.aload_n 0, 1) := by decide +kernel
theorem dX6_mark_85 : decode cX6_mark 85 = .ok (.dup, 1) := by decide +kernel
theorem dX6_mark_86 : decode cX6_mark 86 = .ok (.getfield 202, 3) := by decide +kernel
theorem dX6_mark_89 : decode cX6_mark 89 = .ok (.lconst 1, 1) := by decide +kernel
theorem dX6_mark_90 : decode cX6_mark 90 = .ok (.ladd, 1) := by decide +kernel
theorem dX6_mark_91 : decode cX6_mark 91 = .ok (.putfield 202, 3) := by decide +kernel
theorem dX6_mark_94 : decode cX6_mark 94 = .ok (.iload 4, 2) := by decide +kernel
theorem dX6_mark_96 : decode cX6_mark 96 = .ok (.ireturn, 1) := by decide +kernel
theorem dX6_mark_97 : decode cX6_mark 97 = .ok (.aload_n 0, 1) := by decide +kernel
theorem dX6_mark_98 : decode cX6_mark 98 = .ok (.dup, 1) := by decide +kernel
theorem dX6_mark_99 : decode cX6_mark 99 = .ok (.getfield 202, 3) := by decide +kernel
theorem dX6_mark_102 : decode cX6_mark 102 = .ok (.ldc2_w 206, 3) := by decide +kernel
theorem dX6_mark_105 : decode cX6_mark 105 = .ok (.ladd, 1) := by decide +kernel
theorem dX6_mark_106 : decode cX6_mark 106 = .ok (.putfield 202, 3) := by decide +kernel
theorem dX6_mark_109 : decode cX6_mark 109 = .ok (.iconst 2, 1) := by decide +kernel
theorem dX6_mark_110 : decode cX6_mark 110 = .ok (.iload 4, 2) := by decide +kernel
theorem dX6_mark_112 : decode cX6_mark 112 = .ok (.imul, 1) := by decide +kernel
theorem dX6_mark_113 : decode cX6_mark 113 = .ok (.ireturn, 1) := by decide +kernel
theorem dX6_mark_114 : decode cX6_mark 114 = .ok (.aload_n 0, 1) := by decide +kernel
theorem dX6_mark_115 : decode cX6_mark 115 = .ok (.dup, 1) := by decide +kernel
theorem dX6_mark_116 : decode cX6_mark 116 = .ok (.getfield 202, 3) := by decide +kernel
theorem dX6_mark_119 : decode cX6_mark 119 = .ok (.ldc2_w 208, 3) := by decide +kernel
theorem dX6_mark_122 : decode cX6_mark 122 = .ok (.ladd, 1) := by decide +kernel
theorem dX6_mark_123 : decode cX6_mark 123 = .ok (.putfield 202, 3) := by decide +kernel
theorem dX6_mark_126 : decode cX6_mark 126 = .ok (.iload 4, 2) := by decide +kernel
theorem dX6_mark_128 : decode cX6_mark 128 = .ok (.iload_n 2, 1) := by decide +kernel
theorem dX6_mark_129 : decode cX6_mark 129 = .ok (.iadd, 1) := by decide +kernel
theorem dX6_mark_130 : decode cX6_mark 130 = .ok (.ireturn, 1) := by decide +kernel
theorem dX6_mark_131 : decode cX6_mark 131 = .ok (.aload_n 0, 1) := by decide +kernel
theorem dX6_mark_132 : decode cX6_mark 132 = .ok (.dup, 1) := by decide +kernel
theorem dX6_mark_133 : decode cX6_mark 133 = .ok (.getfield 202, 3) := by decide +kernel
theorem dX6_mark_136 : decode cX6_mark 136 = .ok (.ldc2_w 210, 3) := by decide +kernel
theorem dX6_mark_139 : decode cX6_mark 139 = .ok (.ladd, 1) := by decide +kernel
theorem dX6_mark_140 : decode cX6_mark 140 = .ok (.putfield 202, 3) := by decide +kernel
theorem dX6_mark_143 : decode cX6_mark 143 = .ok (.iconst 2, 1) := by decide +kernel
theorem dX6_mark_144 : decode cX6_mark 144 = .ok (.iload 4, 2) := by decide +kernel
theorem dX6_mark_146 : decode cX6_mark 146 = .ok (.imul, 1) := by decide +kernel
theorem dX6_mark_147 : decode cX6_mark 147 = .ok (.iload_n 3, 1) := by decide +kernel
theorem dX6_mark_148 : decode cX6_mark 148 = .ok (.iadd, 1) := by decide +kernel
theorem dX6_mark_149 : decode cX6_mark 149 = .ok (.ireturn, 1) := by decide +kernel
theorem dX6_mark_150 : decode cX6_mark 150 = .ok (.aload_n 0, 1) := by decide +kernel
theorem dX6_mark_151 : decode cX6_mark 151 = .ok (.dup, 1) := by decide +kernel
theorem dX6_mark_152 : decode cX6_mark 152 = .ok (.getfield 202, 3) := by decide +kernel
theorem dX6_mark_155 : decode cX6_mark 155 = .ok (.ldc2_w 212, 3) := by decide +kernel
theorem dX6_mark_158 : decode cX6_mark 158 = .ok (.ladd, 1) := by decide +kernel
theorem dX6_mark_159 : decode cX6_mark 159 = .ok (.putfield 202, 3) := by decide +kernel
theorem dX6_mark_162 : decode cX6_mark 162 = .ok (.iload 4, 2) := by decide +kernel
theorem dX6_mark_164 : decode cX6_mark 164 = .ok (.iload_n 2, 1) := by decide +kernel
theorem dX6_mark_165 : decode cX6_mark 165 = .ok (.iadd, 1) := by decide +kernel
theorem dX6_mark_166 : decode cX6_mark 166 = .ok (.aload_n 0, 1) := by decide +kernel
theorem dX6_mark_167 : decode cX6_mark 167 = .ok (.getfield 42, 3) := by decide +kernel
theorem dX6_mark_170 : decode cX6_mark 170 = .ok (.iload_n 2, 1) := by decide +kernel
theorem dX6_mark_171 : decode cX6_mark 171 = .ok (.iaload, 1) := by decide +kernel
theorem dX6_mark_172 : decode cX6_mark 172 = .ok (.isub, 1) := by decide +kernel
theorem dX6_mark_173 : decode cX6_mark 173 = .ok (.ireturn, 1) := by decide +kernel
theorem dX6_mark_174 : decode cX6_mark 174 = .ok (.aload_n 0, 1) := by decide +kernel
theorem dX6_mark_175 : decode cX6_mark 175 = .ok (.dup, 1) := by decide +kernel
theorem dX6_mark_176 : decode cX6_mark 176 = .ok (.getfield 202, 3) := by decide +kernel
theorem dX6_mark_179 : decode cX6_mark 179 = .ok (.ldc2_w 214, 3) := by decide +kernel
theorem dX6_mark_182 : decode cX6_mark 182 = .ok (.ladd, 1) := by decide +kernel
theorem dX6_mark_183 : decode cX6_mark 183 = .ok (.putfield 202, 3) := by decide +kernel
theorem dX6_mark_186 : decode cX6_mark 186 = .ok (.iload 4, 2) := by decide +kernel
theorem dX6_mark_188 : decode cX6_mark 188 = .ok (.aload_n 0, 1) := by decide +kernel
theorem dX6_mark_189 : decode cX6_mark 189 = .ok (.getfield 20, 3) := by decide +kernel
theorem dX6_mark_192 : decode cX6_mark 192 = .ok (.iconst 0, 1) := by decide +kernel
theorem dX6_mark_193 : decode cX6_mark 193 = .ok (.iaload, 1) := by decide +kernel
theorem dX6_mark_194 : decode cX6_mark 194 = .ok (.iadd, 1) := by decide +kernel
theorem dX6_mark_195 : decode cX6_mark 195 = .ok (.ireturn, 1) := by decide +kernel
theorem dX6_keep_0 : decode cX6_keep 0 = .ok (.iload_n 1, 1) := by decide +kernel
theorem dX6_keep_1 : decode cX6_keep 1 = .ok (.iconst 0, 1) := by decide +kernel
theorem dX6_keep_2 : decode cX6_keep 2 = .ok (.iconst 1, 1) := by decide +kernel
theorem dX6_keep_3 : decode cX6_keep 3 = .ok (.invokestatic 63, 3) := by decide +kernel
theorem dX6_keep_6 : decode cX6_keep 6 = .ok (.ifCond .ne 5, 3) := by decide +kernel
theorem dX6_keep_9 : decode cX6_keep 9 = .ok (.iconst (-1), 1) := by decide +kernel
theorem dX6_keep_10 : decode cX6_keep 10 = .ok (.ireturn, 1) := by decide +kernel
theorem dX6_keep_11 : decode cX6_keep 11 = .ok (.aload_n 0, 1) := by decide +kernel
theorem dX6_keep_12 : decode cX6_keep 12 = .ok (.iconst 0, 1) := by decide +kernel
theorem dX6_keep_13 : decode cX6_keep 13 = .ok (.iconst 2, 1) := by decide +kernel
theorem dX6_keep_14 : decode cX6_keep 14 = .ok (.iload_n 1, 1) := by decide +kernel
theorem dX6_keep_15 : decode cX6_keep 15 = .ok (.iadd, 1) := by decide +kernel
theorem dX6_keep_16 : decode cX6_keep 16 = .ok (.invokevirtual 113, 3) := by decide +kernel
theorem dX6_keep_19 : decode cX6_keep 19 = .ok (.aload_n 0, 1) := by decide +kernel
theorem dX6_keep_20 : decode cX6_keep 20 = .ok (.getfield 38, 3) := by decide +kernel
theorem dX6_keep_23 : decode cX6_keep 23 = .ok (.iload_n 1, 1) := by decide +kernel
theorem dX6_keep_24 : decode cX6_keep 24 = .ok (.iconst 1, 1) := by decide +kernel
theorem dX6_keep_25 : decode cX6_keep 25 = .ok (.bastore, 1) := by decide +kernel
theorem dX6_keep_26 : decode cX6_keep 26 = .ok (.aload_n 0, 1) := by decide +kernel
theorem dX6_keep_27 : decode cX6_keep 27 = .ok (.getfield 20, 3) := by decide +kernel
theorem dX6_keep_30 : decode cX6_keep 30 = .ok (.iconst 0, 1) := by decide +kernel
theorem dX6_keep_31 : decode cX6_keep 31 = .ok (.iaload, 1) := by decide +kernel
theorem dX6_keep_32 : decode cX6_keep 32 = .ok (.ireturn, 1) := by decide +kernel
theorem dX6_back_0 : decode cX6_back 0 = .ok (.iload_n 1, 1) := by decide +kernel
theorem dX6_back_1 : decode cX6_back 1 = .ok (.iconst 0, 1) := by decide +kernel
theorem dX6_back_2 : decode cX6_back 2 = .ok (.iconst 1, 1) := by decide +kernel
theorem dX6_back_3 : decode cX6_back 3 = .ok (.invokestatic 63, 3) := by decide +kernel
theorem dX6_back_6 : decode cX6_back 6 = .ok (.ifCond .ne 5, 3) := by decide +kernel
theorem dX6_back_9 : decode cX6_back 9 = .ok (.iconst (-1), 1) := by decide +kernel
theorem dX6_back_10 : decode cX6_back 10 = .ok (.ireturn, 1) := by decide +kernel
theorem dX6_back_11 : decode cX6_back 11 = .ok (.aload_n 0, 1) := by decide +kernel
theorem dX6_back_12 : decode cX6_back 12 = .ok (.getfield 38, 3) := by decide +kernel
theorem dX6_back_15 : decode cX6_back 15 = .ok (.iload_n 1, 1) := by decide +kernel
theorem dX6_back_16 : decode cX6_back 16 = .ok (.baload, 1) := by decide +kernel
theorem dX6_back_17 : decode cX6_back 17 = .ok (.ifCond .ne 6, 3) := by decide +kernel
theorem dX6_back_20 : decode cX6_back 20 = .ok (.bipush (-2), 2) := by decide +kernel
theorem dX6_back_22 : decode cX6_back 22 = .ok (.ireturn, 1) := by decide +kernel
theorem dX6_back_23 : decode cX6_back 23 = .ok (.aload_n 0, 1) := by decide +kernel
theorem dX6_back_24 : decode cX6_back 24 = .ok (.iconst 2, 1) := by decide +kernel
theorem dX6_back_25 : decode cX6_back 25 = .ok (.iload_n 1, 1) := by decide +kernel
theorem dX6_back_26 : decode cX6_back 26 = .ok (.iadd, 1) := by decide +kernel
theorem dX6_back_27 : decode cX6_back 27 = .ok (.iconst 0, 1) := by decide +kernel
theorem dX6_back_28 : decode cX6_back 28 = .ok (.invokevirtual 113, 3) := by decide +kernel
theorem dX6_back_31 : decode cX6_back 31 = .ok (.aload_n 0, 1) := by decide +kernel
theorem dX6_back_32 : decode cX6_back 32 = .ok (.getfield 20, 3) := by decide +kernel
theorem dX6_back_35 : decode cX6_back 35 = .ok (.iconst 0, 1) := by decide +kernel
theorem dX6_back_36 : decode cX6_back 36 = .ok (.iaload, 1) := by decide +kernel
theorem dX6_back_37 : decode cX6_back 37 = .ok (.ireturn, 1) := by decide +kernel
theorem dX6_count_0 : decode cX6_count 0 = .ok (.iload_n 1, 1) := by decide +kernel
theorem dX6_count_1 : decode cX6_count 1 = .ok (.ifCond .ne 12, 3) := by decide +kernel
theorem dX6_count_4 : decode cX6_count 4 = .ok (.aload_n 0, 1) := by decide +kernel
theorem dX6_count_5 : decode cX6_count 5 = .ok (.getfield 13, 3) := by decide +kernel
theorem dX6_count_8 : decode cX6_count 8 = .ok (.iconst 0, 1) := by decide +kernel
theorem dX6_count_9 : decode cX6_count 9 = .ok (.iaload, 1) := by decide +kernel
theorem dX6_count_10 : decode cX6_count 10 = .ok (.goto 57, 3) := by decide +kernel
theorem dX6_count_13 : decode cX6_count 13 = .ok (.iload_n 1, 1) := by decide +kernel
theorem dX6_count_14 : decode cX6_count 14 = .ok (.iconst 1, 1) := by decide +kernel
theorem dX6_count_15 : decode cX6_count 15 = .ok (.if_icmp .ne 12, 3) := by decide +kernel
theorem dX6_count_18 : decode cX6_count 18 = .ok (.aload_n 0, 1) := by decide +kernel
theorem dX6_count_19 : decode cX6_count 19 = .ok (.getfield 20, 3) := by decide +kernel
theorem dX6_count_22 : decode cX6_count 22 = .ok (.iconst 0, 1) := by decide +kernel
theorem dX6_count_23 : decode cX6_count 23 = .ok (.iaload, 1) := by decide +kernel
theorem dX6_count_24 : decode cX6_count 24 = .ok (.goto 43, 3) := by decide +kernel
theorem dX6_count_27 : decode cX6_count 27 = .ok (.iload_n 1, 1) := by decide +kernel
theorem dX6_count_28 : decode cX6_count 28 = .ok (.iconst 2, 1) := by decide +kernel
theorem dX6_count_29 : decode cX6_count 29 = .ok (.if_icmp .ne 11, 3) := by decide +kernel
theorem dX6_count_32 : decode cX6_count 32 = .ok (.aload_n 0, 1) := by decide +kernel
theorem dX6_count_33 : decode cX6_count 33 = .ok (.iconst 0, 1) := by decide +kernel
theorem dX6_count_34 : decode cX6_count 34 = .ok (.invokevirtual 103, 3) := by decide +kernel
theorem dX6_count_37 : decode cX6_count 37 = .ok (.goto 30, 3) := by decide +kernel
theorem dX6_count_40 : decode cX6_count 40 = .ok (.iload_n 1, 1) := by decide +kernel
theorem dX6_count_41 : decode cX6_count 41 = .ok (.iconst 3, 1) := by decide +kernel
theorem dX6_count_42 : decode cX6_count 42 = .ok (.if_icmp .ne 12, 3) := by decide +kernel
theorem dX6_count_45 : decode cX6_count 45 = .ok (.aload_n 0, 1) := by decide +kernel
theorem dX6_count_46 : decode cX6_count 46 = .ok (.getfield 23, 3) := by decide +kernel
theorem dX6_count_49 : decode cX6_count 49 = .ok (.iconst 0, 1) := by decide +kernel
theorem dX6_count_50 : decode cX6_count 50 = .ok (.iaload, 1) := by decide +kernel
theorem dX6_count_51 : decode cX6_count 51 = .ok (.goto 16, 3) := by decide +kernel
theorem dX6_count_54 : decode cX6_count 54 = .ok (.iload_n 1, 1) := by decide +kernel
theorem dX6_count_55 : decode cX6_count 55 = .ok (.iconst 4, 1) := by decide +kernel
theorem dX6_count_56 : decode cX6_count 56 = .ok (.if_icmp .ne 10, 3) := by decide +kernel
theorem dX6_count_59 : decode cX6_count 59 = .ok (.aload_n 0, 1) := by decide +kernel
theorem dX6_count_60 : decode cX6_count 60 = .ok (.getfield 67, 3) := by decide +kernel
theorem dX6_count_63 : decode cX6_count 63 = .ok (.goto 4, 3) := by decide +kernel
theorem dX6_count_66 : decode cX6_count 66 = .ok (.iconst (-1), 1) := by decide +kernel
theorem dX6_count_67 : decode cX6_count 67 = .ok (.ireturn, 1) := by decide +kernel
theorem dX6_trace_0 : decode cX6_trace 0 = .ok (.aload_n 0, 1) := by decide +kernel
theorem dX6_trace_1 : decode cX6_trace 1 = .ok (.getfield 202, 3) := by decide +kernel
theorem dX6_trace_4 : decode cX6_trace 4 = .ok (.lreturn, 1) := by decide +kernel
