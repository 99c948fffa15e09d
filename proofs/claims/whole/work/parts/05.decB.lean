theorem dX5_init_0 : decode cX5_init 0 = .ok (.aload_n 0, 1) := by decide +kernel
theorem dX5_init_1 : decode cX5_init 1 = .ok (.invokespecial 3, 3) := by decide +kernel
theorem dX5_init_4 : decode cX5_init 4 = .ok (.aload_n 0, 1) := by decide +kernel
theorem dX5_init_5 : decode cX5_init 5 = .ok (.new 9, 3) := by decide +kernel
theorem dX5_init_8 : decode cX5_init 8 = .ok (.dup, 1) := by decide +kernel
theorem dX5_init_9 : decode cX5_init 9 = .ok (.invokespecial 11, 3) := by decide +kernel
theorem dX5_init_12 : decode cX5_init 12 = .ok (.putfield 12, 3) := by decide +kernel
theorem dX5_init_15 : decode cX5_init 15 = .ok (.aload_n 0, 1) := by decide +kernel
theorem dX5_init_16 : decode cX5_init 16 = .ok (.new 16, 3) := by decide +kernel
theorem dX5_init_19 : decode cX5_init 19 = .ok (.dup, 1) := by decide +kernel
theorem dX5_init_20 : decode cX5_init 20 = .ok (.invokespecial 18, 3) := by decide +kernel
theorem dX5_init_23 : decode cX5_init 23 = .ok (.putfield 19, 3) := by decide +kernel
theorem dX5_init_26 : decode cX5_init 26 = .ok (.aload_n 0, 1) := by decide +kernel
theorem dX5_init_27 : decode cX5_init 27 = .ok (.new 23, 3) := by decide +kernel
theorem dX5_init_30 : decode cX5_init 30 = .ok (.dup, 1) := by decide +kernel
theorem dX5_init_31 : decode cX5_init 31 = .ok (.invokespecial 25, 3) := by decide +kernel
theorem dX5_init_34 : decode cX5_init 34 = .ok (.putfield 26, 3) := by decide +kernel
theorem dX5_init_37 : decode cX5_init 37 = .ok (.aload_n 0, 1) := by decide +kernel
theorem dX5_init_38 : decode cX5_init 38 = .ok (.new 30, 3) := by decide +kernel
theorem dX5_init_41 : decode cX5_init 41 = .ok (.dup, 1) := by decide +kernel
theorem dX5_init_42 : decode cX5_init 42 = .ok (.aload_n 0, 1) := by decide +kernel
theorem dX5_init_43 : decode cX5_init 43 = .ok (.getfield 12, 3) := by decide +kernel
theorem dX5_init_46 : decode cX5_init 46 = .ok (.invokespecial 32, 3) := by decide +kernel
theorem dX5_init_49 : decode cX5_init 49 = .ok (.putfield 35, 3) := by decide +kernel
theorem dX5_init_52 : decode cX5_init 52 = .ok (.aload_n 0, 1) := by decide +kernel
theorem dX5_init_53 : decode cX5_init 53 = .ok (.new 23, 3) := by decide +kernel
theorem dX5_init_56 : decode cX5_init 56 = .ok (.dup, 1) := by decide +kernel
theorem dX5_init_57 : decode cX5_init 57 = .ok (.invokespecial 25, 3) := by decide +kernel
theorem dX5_init_60 : decode cX5_init 60 = .ok (.putfield 39, 3) := by decide +kernel
theorem dX5_init_63 : decode cX5_init 63 = .ok (.aload_n 0, 1) := by decide +kernel
theorem dX5_init_64 : decode cX5_init 64 = .ok (.new 23, 3) := by decide +kernel
theorem dX5_init_67 : decode cX5_init 67 = .ok (.dup, 1) := by decide +kernel
theorem dX5_init_68 : decode cX5_init 68 = .ok (.invokespecial 25, 3) := by decide +kernel
theorem dX5_init_71 : decode cX5_init 71 = .ok (.putfield 42, 3) := by decide +kernel
theorem dX5_init_74 : decode cX5_init 74 = .ok (.aload_n 0, 1) := by decide +kernel
theorem dX5_init_75 : decode cX5_init 75 = .ok (.iconst 0, 1) := by decide +kernel
theorem dX5_init_76 : decode cX5_init 76 = .ok (.putfield 45, 3) := by decide +kernel
theorem dX5_init_79 : decode cX5_init 79 = .ok (.aload_n 0, 1) := by decide +kernel
theorem dX5_init_80 : decode cX5_init 80 = .ok (.iconst 0, 1) := by decide +kernel
theorem dX5_init_81 : decode cX5_init 81 = .ok (.putfield 49, 3) := by decide +kernel
theorem dX5_init_84 : decode cX5_init 84 = .ok (.aload_n 0, 1) := by decide +kernel
theorem dX5_init_85 : decode cX5_init 85 = .ok (.new 52, 3) := by decide +kernel
theorem dX5_init_88 : decode cX5_init 88 = .ok (.dup, 1) := by decide +kernel
theorem dX5_init_89 : decode cX5_init 89 = .ok (.invokespecial 54, 3) := by decide +kernel
theorem dX5_init_92 : decode cX5_init 92 = .ok (.putfield 55, 3) := by decide +kernel
theorem dX5_init_95 : decode cX5_init 95 = .ok (.aload_n 0, 1) := by decide +kernel
theorem dX5_init_96 : decode cX5_init 96 = .ok (.new 52, 3) := by decide +kernel
theorem dX5_init_99 : decode cX5_init 99 = .ok (.dup, 1) := by decide +kernel
theorem dX5_init_100 : decode cX5_init 100 = .ok (.invokespecial 54, 3) := by decide +kernel
theorem dX5_init_103 : decode cX5_init 103 = .ok (.putfield 59, 3) := by decide +kernel
theorem dX5_init_106 : decode cX5_init 106 = .ok (.aload_n 0, 1) := by decide +kernel
theorem dX5_init_107 : decode cX5_init 107 = .ok (.lconst 0, 1) := by decide +kernel
theorem dX5_init_108 : decode cX5_init 108 = .ok (.putfield 62, 3) := by decide +kernel
theorem dX5_init_111 : decode cX5_init 111 = .ok (.return_, 1) := by decide +kernel
theorem dX5_type_0 : decode cX5_type 0 = .ok (.iload_n 3, 1) := by decide +kernel
theorem dX5_type_1 : decode cX5_type 1 = .ok (.iconst 1, 1) := by decide +kernel
theorem dX5_type_2 : decode cX5_type 2 = .ok (.if_icmp .lt 9, 3) := by decide +kernel
theorem dX5_type_5 : decode cX5_type 5 = .ok (.iload_n 3, 1) := by decide +kernel
theorem dX5_type_6 : decode cX5_type 6 = .ok (.bipush 8, 2) := by decide +kernel
theorem dX5_type_8 : decode cX5_type 8 = .ok (.if_icmp .le 5, 3) := by decide +kernel
theorem dX5_type_11 : decode cX5_type 11 = .ok (.iconst (-1), 1) := by decide +kernel
theorem dX5_type_12 : decode cX5_type 12 = .ok (.ireturn, 1) := by decide +kernel
theorem dX5_type_13 : decode cX5_type 13 = .ok (.aload_n 0, 1) := by decide +kernel
theorem dX5_type_14 : decode cX5_type 14 = .ok (.getfield 12, 3) := by decide +kernel
theorem dX5_type_17 : decode cX5_type 17 = .ok (.getfield 66, 3) := by decide +kernel
theorem dX5_type_20 : decode cX5_type 20 = .ok (.iload_n 3, 1) := by decide +kernel
theorem dX5_type_21 : decode cX5_type 21 = .ok (.iadd, 1) := by decide +kernel
theorem dX5_type_22 : decode cX5_type 22 = .ok (.sipush 400, 3) := by decide +kernel
theorem dX5_type_25 : decode cX5_type 25 = .ok (.if_icmp .le 6, 3) := by decide +kernel
theorem dX5_type_28 : decode cX5_type 28 = .ok (.bipush (-3), 2) := by decide +kernel
theorem dX5_type_30 : decode cX5_type 30 = .ok (.ireturn, 1) := by decide +kernel
theorem dX5_type_31 : decode cX5_type 31 = .ok (.iload_n 3, 1) := by decide +kernel
theorem dX5_type_32 : decode cX5_type 32 = .ok (.iconst 1, 1) := by decide +kernel
theorem dX5_type_33 : decode cX5_type 33 = .ok (.isub, 1) := by decide +kernel
theorem dX5_type_34 : decode cX5_type 34 = .ok (.istore 4, 2) := by decide +kernel
theorem dX5_type_36 : decode cX5_type 36 = .ok (.iload 4, 2) := by decide +kernel
theorem dX5_type_38 : decode cX5_type 38 = .ok (.ifCond .lt 28, 3) := by decide +kernel
theorem dX5_type_41 : decode cX5_type 41 = .ok (.aload_n 0, 1) := by decide +kernel
theorem dX5_type_42 : decode cX5_type 42 = .ok (.getfield 12, 3) := by decide +kernel
theorem dX5_type_45 : decode cX5_type 45 = .ok (.lload_n 1, 1) := by decide +kernel
theorem dX5_type_46 : decode cX5_type 46 = .ok (.bipush 8, 2) := by decide +kernel
theorem dX5_type_48 : decode cX5_type 48 = .ok (.iload 4, 2) := by decide +kernel
theorem dX5_type_50 : decode cX5_type 50 = .ok (.imul, 1) := by decide +kernel
theorem dX5_type_51 : decode cX5_type 51 = .ok (.lshr, 1) := by decide +kernel
theorem dX5_type_52 : decode cX5_type 52 = .ok (.l2i, 1) := by decide +kernel
theorem dX5_type_53 : decode cX5_type 53 = .ok (.sipush 255, 3) := by decide +kernel
theorem dX5_type_56 : decode cX5_type 56 = .ok (.iand, 1) := by decide +kernel
theorem dX5_type_57 : decode cX5_type 57 = .ok (.invokevirtual 70, 3) := by decide +kernel
theorem dX5_type_60 : decode cX5_type 60 = .ok (.iinc 4 (-1), 3) := by decide +kernel
theorem dX5_type_63 : decode cX5_type 63 = .ok (.goto (-27), 3) := by decide +kernel
theorem dX5_type_66 : decode cX5_type 66 = .ok (.aload_n 0, 1) := by decide +kernel
theorem dX5_type_67 : decode cX5_type 67 = .ok (.getfield 12, 3) := by decide +kernel
theorem dX5_type_70 : decode cX5_type 70 = .ok (.getfield 66, 3) := by decide +kernel
theorem dX5_type_73 : decode cX5_type 73 = .ok (.ireturn, 1) := by decide +kernel
theorem dX5_clear_0 : decode cX5_clear 0 = .ok (.aload_n 0, 1) := by decide +kernel
theorem dX5_clear_1 : decode cX5_clear 1 = .ok (.getfield 12, 3) := by decide +kernel
theorem dX5_clear_4 : decode cX5_clear 4 = .ok (.getfield 66, 3) := by decide +kernel
theorem dX5_clear_7 : decode cX5_clear 7 = .ok (.istore_n 1, 1) := by decide +kernel
theorem dX5_clear_8 : decode cX5_clear 8 = .ok (.aload_n 0, 1) := by decide +kernel
theorem dX5_clear_9 : decode cX5_clear 9 = .ok (.getfield 12, 3) := by decide +kernel
theorem dX5_clear_12 : decode cX5_clear 12 = .ok (.iconst 0, 1) := by decide +kernel
theorem dX5_clear_13 : decode cX5_clear 13 = .ok (.putfield 66, 3) := by decide +kernel
theorem dX5_clear_16 : decode cX5_clear 16 = .ok (.iload_n 1, 1) := by decide +kernel
theorem dX5_clear_17 : decode cX5_clear 17 = .ok (.ireturn, 1) := by decide +kernel
theorem dX5_tell_0 : decode cX5_tell 0 = .ok (.aload_n 0, 1) := by decide +kernel
theorem dX5_tell_1 : decode cX5_tell 1 = .ok (.getfield 35, 3) := by decide +kernel
theorem dX5_tell_4 : decode cX5_tell 4 = .ok (.invokevirtual 74, 3) := by decide +kernel
theorem dX5_tell_7 : decode cX5_tell 7 = .ok (.istore_n 1, 1) := by decide +kernel
theorem dX5_tell_8 : decode cX5_tell 8 = .ok (.iload_n 1, 1) := by decide +kernel
theorem dX5_tell_9 : decode cX5_tell 9 = .ok (.ifCond .ge 14, 3) := by decide +kernel
theorem dX5_tell_12 : decode cX5_tell 12 = .ok (.bipush (-10), 2) := by decide +kernel
theorem dX5_tell_14 : decode cX5_tell 14 = .ok (.aload_n 0, 1) := by decide +kernel
theorem dX5_tell_15 : decode cX5_tell 15 = .ok (.getfield 35, 3) := by decide +kernel
theorem dX5_tell_18 : decode cX5_tell 18 = .ok (.getfield 78, 3) := by decide +kernel
theorem dX5_tell_21 : decode cX5_tell 21 = .ok (.isub, 1) := by decide +kernel
theorem dX5_tell_22 : decode cX5_tell 22 = .ok (.ireturn, 1) := by decide +kernel
theorem dX5_tell_23 : decode cX5_tell 23 = .ok (.aload_n 0, 1) := by decide +kernel
theorem dX5_tell_24 : decode cX5_tell 24 = .ok (.getfield 19, 3) := by decide +kernel
theorem dX5_tell_27 : decode cX5_tell 27 = .ok (.aload_n 0, 1) := by decide +kernel
theorem dX5_tell_28 : decode cX5_tell 28 = .ok (.getfield 35, 3) := by decide +kernel
theorem dX5_tell_31 : decode cX5_tell 31 = .ok (.getfield 81, 3) := by decide +kernel
theorem dX5_tell_34 : decode cX5_tell 34 = .ok (.invokevirtual 82, 3) := by decide +kernel
theorem dX5_tell_37 : decode cX5_tell 37 = .ok (.aload_n 0, 1) := by decide +kernel
theorem dX5_tell_38 : decode cX5_tell 38 = .ok (.getfield 26, 3) := by decide +kernel
theorem dX5_tell_41 : decode cX5_tell 41 = .ok (.aload_n 0, 1) := by decide +kernel
theorem dX5_tell_42 : decode cX5_tell 42 = .ok (.getfield 35, 3) := by decide +kernel
theorem dX5_tell_45 : decode cX5_tell 45 = .ok (.getfield 86, 3) := by decide +kernel
theorem dX5_tell_48 : decode cX5_tell 48 = .ok (.invokevirtual 87, 3) := by decide +kernel
theorem dX5_tell_51 : decode cX5_tell 51 = .ok (.aload_n 0, 1) := by decide +kernel
theorem dX5_tell_52 : decode cX5_tell 52 = .ok (.getfield 12, 3) := by decide +kernel
theorem dX5_tell_55 : decode cX5_tell 55 = .ok (.iconst 0, 1) := by decide +kernel
theorem dX5_tell_56 : decode cX5_tell 56 = .ok (.putfield 66, 3) := by decide +kernel
theorem dX5_tell_59 : decode cX5_tell 59 = .ok (.aload_n 0, 1) := by decide +kernel
theorem dX5_tell_60 : decode cX5_tell 60 = .ok (.iconst 0, 1) := by decide +kernel
theorem dX5_tell_61 : decode cX5_tell 61 = .ok (.putfield 45, 3) := by decide +kernel
theorem dX5_tell_64 : decode cX5_tell 64 = .ok (.aload_n 0, 1) := by decide +kernel
theorem dX5_tell_65 : decode cX5_tell 65 = .ok (.iconst 0, 1) := by decide +kernel
theorem dX5_tell_66 : decode cX5_tell 66 = .ok (.putfield 49, 3) := by decide +kernel
theorem dX5_tell_69 : decode cX5_tell 69 = .ok (.iload_n 1, 1) := by decide +kernel
theorem dX5_tell_70 : decode cX5_tell 70 = .ok (.ireturn, 1) := by decide +kernel
theorem dX5_event_0 : decode cX5_event 0 = .ok (.iload_n 1, 1) := by decide +kernel
theorem dX5_event_1 : decode cX5_event 1 = .ok (.ifCond .lt 14, 3) := by decide +kernel
theorem dX5_event_4 : decode cX5_event 4 = .ok (.iload_n 1, 1) := by decide +kernel
theorem dX5_event_5 : decode cX5_event 5 = .ok (.aload_n 0, 1) := by decide +kernel
theorem dX5_event_6 : decode cX5_event 6 = .ok (.getfield 26, 3) := by decide +kernel
theorem dX5_event_9 : decode cX5_event 9 = .ok (.getfield 90, 3) := by decide +kernel
theorem dX5_event_12 : decode cX5_event 12 = .ok (.if_icmp .lt 5, 3) := by decide +kernel
theorem dX5_event_15 : decode cX5_event 15 = .ok (.iconst (-1), 1) := by decide +kernel
theorem dX5_event_16 : decode cX5_event 16 = .ok (.ireturn, 1) := by decide +kernel
theorem dX5_event_17 : decode cX5_event 17 = .ok (.iload_n 2, 1) := by decide +kernel
theorem dX5_event_18 : decode cX5_event 18 = .ok (.tableswitch 70 0 3 #[30, 40, 50, 60], 30) := by decide +kernel
theorem dX5_event_48 : decode cX5_event 48 = .ok (.aload_n 0, 1) := by decide +kernel
theorem dX5_event_49 : decode cX5_event 49 = .ok (.getfield 26, 3) := by decide +kernel
theorem dX5_event_52 : decode cX5_event 52 = .ok (.getfield 91, 3) := by decide +kernel
theorem dX5_event_55 : decode cX5_event 55 = .ok (.iload_n 1, 1) := by decide +kernel
theorem dX5_event_56 : decode cX5_event 56 = .ok (.iaload, 1) := by decide +kernel
theorem dX5_event_57 : decode cX5_event 57 = .ok (.ireturn, 1) := by decide +kernel
theorem dX5_event_58 : decode cX5_event 58 = .ok (.aload_n 0, 1) := by decide +kernel
theorem dX5_event_59 : decode cX5_event 59 = .ok (.getfield 26, 3) := by decide +kernel
theorem dX5_event_62 : decode cX5_event 62 = .ok (.getfield 95, 3) := by decide +kernel
theorem dX5_event_65 : decode cX5_event 65 = .ok (.iload_n 1, 1) := by decide +kernel
theorem dX5_event_66 : decode cX5_event 66 = .ok (.iaload, 1) := by decide +kernel
theorem dX5_event_67 : decode cX5_event 67 = .ok (.ireturn, 1) := by decide +kernel
theorem dX5_event_68 : decode cX5_event 68 = .ok (.aload_n 0, 1) := by decide +kernel
theorem dX5_event_69 : decode cX5_event 69 = .ok (.getfield 26, 3) := by decide +kernel
theorem dX5_event_72 : decode cX5_event 72 = .ok (.getfield 98, 3) := by decide +kernel
theorem dX5_event_75 : decode cX5_event 75 = .ok (.iload_n 1, 1) := by decide +kernel
theorem dX5_event_76 : decode cX5_event 76 = .ok (.iaload, 1) := by decide +kernel
theorem dX5_event_77 : decode cX5_event 77 = .ok (.ireturn, 1) := by decide +kernel
theorem dX5_event_78 : decode cX5_event 78 = .ok (.aload_n 0, 1) := by decide +kernel
theorem dX5_event_79 : decode cX5_event 79 = .ok (.getfield 26, 3) := by decide +kernel
theorem dX5_event_82 : decode cX5_event 82 = .ok (.getfield 101, 3) := by decide +kernel
theorem dX5_event_85 : decode cX5_event 85 = .ok (.iload_n 1, 1) := by decide +kernel
theorem dX5_event_86 : decode cX5_event 86 = .ok (.iaload, 1) := by decide +kernel
theorem dX5_event_87 : decode cX5_event 87 = .ok (.ireturn, 1) := by decide +kernel
theorem dX5_event_88 : decode cX5_event 88 = .ok (.iconst (-1), 1) := by decide +kernel
theorem dX5_event_89 : decode cX5_event 89 = .ok (.ireturn, 1) := by decide +kernel
theorem dX5_comes_0 : decode cX5_comes 0 = .ok (.iload_n 1, 1) := by decide +kernel
theorem dX5_comes_1 : decode cX5_comes 1 = .ok (.ifCond .lt 32, 3) := by decide +kernel
theorem dX5_comes_4 : decode cX5_comes 4 = .ok (.iload_n 1, 1) := by decide +kernel
theorem dX5_comes_5 : decode cX5_comes 5 = .ok (.iconst 4, 1) := by decide +kernel
theorem dX5_comes_6 : decode cX5_comes 6 = .ok (.if_icmp .gt 27, 3) := by decide +kernel
theorem dX5_comes_9 : decode cX5_comes 9 = .ok (.aload_n 0, 1) := by decide +kernel
theorem dX5_comes_10 : decode cX5_comes 10 = .ok (.getfield 19, 3) := by decide +kernel
theorem dX5_comes_13 : decode cX5_comes 13 = .ok (.iload_n 2, 1) := by decide +kernel
theorem dX5_comes_14 : decode cX5_comes 14 = .ok (.invokevirtual 104, 3) := by decide +kernel
theorem dX5_comes_17 : decode cX5_comes 17 = .ok (.ifCond .eq 16, 3) := by decide +kernel
theorem dX5_comes_20 : decode cX5_comes 20 = .ok (.aload_n 0, 1) := by decide +kernel
theorem dX5_comes_21 : decode cX5_comes 21 = .ok (.getfield 19, 3) := by decide +kernel
theorem dX5_comes_24 : decode cX5_comes 24 = .ok (.iload_n 1, 1) := by decide +kernel
theorem dX5_comes_25 : decode cX5_comes 25 = .ok (.iload_n 2, 1) := by decide +kernel
theorem dX5_comes_26 : decode cX5_comes 26 = .ok (.iload_n 3, 1) := by decide +kernel
theorem dX5_comes_27 : decode cX5_comes 27 = .ok (.invokevirtual 108, 3) := by decide +kernel
theorem dX5_comes_30 : decode cX5_comes 30 = .ok (.ifCond .ne 5, 3) := by decide +kernel
theorem dX5_comes_33 : decode cX5_comes 33 = .ok (.iconst (-1), 1) := by decide +kernel
theorem dX5_comes_34 : decode cX5_comes 34 = .ok (.ireturn, 1) := by decide +kernel
theorem dX5_comes_35 : decode cX5_comes 35 = .ok (.aload_n 0, 1) := by decide +kernel
theorem dX5_comes_36 : decode cX5_comes 36 = .ok (.getfield 26, 3) := by decide +kernel
theorem dX5_comes_39 : decode cX5_comes 39 = .ok (.iload_n 1, 1) := by decide +kernel
theorem dX5_comes_40 : decode cX5_comes 40 = .ok (.invokevirtual 112, 3) := by decide +kernel
theorem dX5_comes_43 : decode cX5_comes 43 = .ok (.ifCond .ne 6, 3) := by decide +kernel
theorem dX5_comes_46 : decode cX5_comes 46 = .ok (.bipush (-3), 2) := by decide +kernel
theorem dX5_comes_48 : decode cX5_comes 48 = .ok (.ireturn, 1) := by decide +kernel
theorem dX5_comes_49 : decode cX5_comes 49 = .ok (.aload_n 0, 1) := by decide +kernel
theorem dX5_comes_50 : decode cX5_comes 50 = .ok (.getfield 26, 3) := by decide +kernel
theorem dX5_comes_53 : decode cX5_comes 53 = .ok (.iload_n 1, 1) := by decide +kernel
theorem dX5_comes_54 : decode cX5_comes 54 = .ok (.iload_n 2, 1) := by decide +kernel
theorem dX5_comes_55 : decode cX5_comes 55 = .ok (.iload_n 3, 1) := by decide +kernel
theorem dX5_comes_56 : decode cX5_comes 56 = .ok (.invokevirtual 115, 3) := by decide +kernel
theorem dX5_comes_59 : decode cX5_comes 59 = .ok (.aload_n 0, 1) := by decide +kernel
theorem dX5_comes_60 : decode cX5_comes 60 = .ok (.getfield 26, 3) := by decide +kernel
theorem dX5_comes_63 : decode cX5_comes 63 = .ok (.getfield 90, 3) := by decide +kernel
theorem dX5_comes_66 : decode cX5_comes 66 = .ok (.ireturn, 1) := by decide +kernel
theorem dX5_days_0 : decode cX5_days 0 = .ok (.iload_n 1, 1) := by decide +kernel
theorem dX5_days_1 : decode cX5_days 1 = .ok (.iconst 1, 1) := by decide +kernel
theorem dX5_days_2 : decode cX5_days 2 = .ok (.if_icmp .lt 9, 3) := by decide +kernel
theorem dX5_days_5 : decode cX5_days 5 = .ok (.iload_n 1, 1) := by decide +kernel
theorem dX5_days_6 : decode cX5_days 6 = .ok (.bipush 99, 2) := by decide +kernel
theorem dX5_days_8 : decode cX5_days 8 = .ok (.if_icmp .le 5, 3) := by decide +kernel
theorem dX5_days_11 : decode cX5_days 11 = .ok (.iconst (-1), 1) := by decide +kernel
theorem dX5_days_12 : decode cX5_days 12 = .ok (.ireturn, 1) := by decide +kernel
theorem dX5_days_13 : decode cX5_days 13 = .ok (.aload_n 0, 1) := by decide +kernel
theorem dX5_days_14 : decode cX5_days 14 = .ok (.getfield 26, 3) := by decide +kernel
theorem dX5_days_17 : decode cX5_days 17 = .ok (.getfield 118, 3) := by decide +kernel
theorem dX5_days_20 : decode cX5_days 20 = .ok (.iload_n 1, 1) := by decide +kernel
theorem dX5_days_21 : decode cX5_days 21 = .ok (.iadd, 1) := by decide +kernel
theorem dX5_days_22 : decode cX5_days 22 = .ok (.bipush 99, 2) := by decide +kernel
theorem dX5_days_24 : decode cX5_days 24 = .ok (.if_icmp .le 6, 3) := by decide +kernel
theorem dX5_days_27 : decode cX5_days 27 = .ok (.bipush (-2), 2) := by decide +kernel
theorem dX5_days_29 : decode cX5_days 29 = .ok (.ireturn, 1) := by decide +kernel
theorem dX5_days_30 : decode cX5_days 30 = .ok (.aload_n 0, 1) := by decide +kernel
theorem dX5_days_31 : decode cX5_days 31 = .ok (.getfield 26, 3) := by decide +kernel
theorem dX5_days_34 : decode cX5_days 34 = .ok (.dup, 1) := by decide +kernel
theorem dX5_days_35 : decode cX5_days 35 = .ok (.getfield 118, 3) := by decide +kernel
theorem dX5_days_38 : decode cX5_days 38 = .ok (.iload_n 1, 1) := by decide +kernel
theorem dX5_days_39 : decode cX5_days 39 = .ok (.iadd, 1) := by decide +kernel
theorem dX5_days_40 : decode cX5_days 40 = .ok (.putfield 118, 3) := by decide +kernel
theorem dX5_days_43 : decode cX5_days 43 = .ok (.aload_n 0, 1) := by decide +kernel
theorem dX5_days_44 : decode cX5_days 44 = .ok (.getfield 26, 3) := by decide +kernel
theorem dX5_days_47 : decode cX5_days 47 = .ok (.getfield 118, 3) := by decide +kernel
theorem dX5_days_50 : decode cX5_days 50 = .ok (.ireturn, 1) := by decide +kernel
theorem dX5_undo_0 : decode cX5_undo 0 = .ok (.aload_n 0, 1) := by decide +kernel
theorem dX5_undo_1 : decode cX5_undo 1 = .ok (.getfield 26, 3) := by decide +kernel
theorem dX5_undo_4 : decode cX5_undo 4 = .ok (.getfield 90, 3) := by decide +kernel
theorem dX5_undo_7 : decode cX5_undo 7 = .ok (.ifCond .ne 6, 3) := by decide +kernel
theorem dX5_undo_10 : decode cX5_undo 10 = .ok (.bipush (-2), 2) := by decide +kernel
theorem dX5_undo_12 : decode cX5_undo 12 = .ok (.ireturn, 1) := by decide +kernel
theorem dX5_undo_13 : decode cX5_undo 13 = .ok (.aload_n 0, 1) := by decide +kernel
theorem dX5_undo_14 : decode cX5_undo 14 = .ok (.getfield 26, 3) := by decide +kernel
theorem dX5_undo_17 : decode cX5_undo 17 = .ok (.invokevirtual 121, 3) := by decide +kernel
theorem dX5_undo_20 : decode cX5_undo 20 = .ok (.aload_n 0, 1) := by decide +kernel
theorem dX5_undo_21 : decode cX5_undo 21 = .ok (.getfield 26, 3) := by decide +kernel
theorem dX5_undo_24 : decode cX5_undo 24 = .ok (.getfield 90, 3) := by decide +kernel
theorem dX5_undo_27 : decode cX5_undo 27 = .ok (.ireturn, 1) := by decide +kernel
theorem dX5_origins_0 : decode cX5_origins 0 = .ok (.aload_n 0, 1) := by decide +kernel
theorem dX5_origins_1 : decode cX5_origins 1 = .ok (.getfield 19, 3) := by decide +kernel
theorem dX5_origins_4 : decode cX5_origins 4 = .ok (.iload_n 1, 1) := by decide +kernel
theorem dX5_origins_5 : decode cX5_origins 5 = .ok (.invokevirtual 104, 3) := by decide +kernel
theorem dX5_origins_8 : decode cX5_origins 8 = .ok (.ifCond .eq 10, 3) := by decide +kernel
theorem dX5_origins_11 : decode cX5_origins 11 = .ok (.iload_n 2, 1) := by decide +kernel
theorem dX5_origins_12 : decode cX5_origins 12 = .ok (.invokestatic 124, 3) := by decide +kernel
theorem dX5_origins_15 : decode cX5_origins 15 = .ok (.ifCond .ne 5, 3) := by decide +kernel
theorem dX5_origins_18 : decode cX5_origins 18 = .ok (.iconst (-1), 1) := by decide +kernel
theorem dX5_origins_19 : decode cX5_origins 19 = .ok (.ireturn, 1) := by decide +kernel
theorem dX5_origins_20 : decode cX5_origins 20 = .ok (.aload_n 0, 1) := by decide +kernel
theorem dX5_origins_21 : decode cX5_origins 21 = .ok (.iload_n 2, 1) := by decide +kernel
theorem dX5_origins_22 : decode cX5_origins 22 = .ok (.iload_n 3, 1) := by decide +kernel
theorem dX5_origins_23 : decode cX5_origins 23 = .ok (.invokevirtual 127, 3) := by decide +kernel
theorem dX5_origins_26 : decode cX5_origins 26 = .ok (.aload_n 0, 1) := by decide +kernel
theorem dX5_origins_27 : decode cX5_origins 27 = .ok (.getfield 59, 3) := by decide +kernel
theorem dX5_origins_30 : decode cX5_origins 30 = .ok (.getfield 131, 3) := by decide +kernel
theorem dX5_origins_33 : decode cX5_origins 33 = .ok (.iload_n 1, 1) := by decide +kernel
theorem dX5_origins_34 : decode cX5_origins 34 = .ok (.iaload, 1) := by decide +kernel
theorem dX5_origins_35 : decode cX5_origins 35 = .ok (.ireturn, 1) := by decide +kernel
theorem dX5_voice_0 : decode cX5_voice 0 = .ok (.aload_n 0, 1) := by decide +kernel
theorem dX5_voice_1 : decode cX5_voice 1 = .ok (.getfield 19, 3) := by decide +kernel
theorem dX5_voice_4 : decode cX5_voice 4 = .ok (.iload_n 1, 1) := by decide +kernel
theorem dX5_voice_5 : decode cX5_voice 5 = .ok (.invokevirtual 104, 3) := by decide +kernel
theorem dX5_voice_8 : decode cX5_voice 8 = .ok (.ifCond .eq 10, 3) := by decide +kernel
theorem dX5_voice_11 : decode cX5_voice 11 = .ok (.iload_n 2, 1) := by decide +kernel
theorem dX5_voice_12 : decode cX5_voice 12 = .ok (.invokestatic 124, 3) := by decide +kernel
theorem dX5_voice_15 : decode cX5_voice 15 = .ok (.ifCond .ne 5, 3) := by decide +kernel
theorem dX5_voice_18 : decode cX5_voice 18 = .ok (.iconst (-1), 1) := by decide +kernel
theorem dX5_voice_19 : decode cX5_voice 19 = .ok (.ireturn, 1) := by decide +kernel
theorem dX5_voice_20 : decode cX5_voice 20 = .ok (.aload_n 0, 1) := by decide +kernel
theorem dX5_voice_21 : decode cX5_voice 21 = .ok (.iload_n 2, 1) := by decide +kernel
theorem dX5_voice_22 : decode cX5_voice 22 = .ok (.iload_n 3, 1) := by decide +kernel
theorem dX5_voice_23 : decode cX5_voice 23 = .ok (.invokevirtual 127, 3) := by decide +kernel
theorem dX5_voice_26 : decode cX5_voice 26 = .ok (.aload_n 0, 1) := by decide +kernel
theorem dX5_voice_27 : decode cX5_voice 27 = .ok (.getfield 59, 3) := by decide +kernel
theorem dX5_voice_30 : decode cX5_voice 30 = .ok (.getfield 134, 3) := by decide +kernel
theorem dX5_voice_33 : decode cX5_voice 33 = .ok (.iload_n 1, 1) := by decide +kernel
theorem dX5_voice_34 : decode cX5_voice 34 = .ok (.iaload, 1) := by decide +kernel
theorem dX5_voice_35 : decode cX5_voice 35 = .ok (.ifCond .ne 8, 3) := by decide +kernel
theorem dX5_voice_38 : decode cX5_voice 38 = .ok (.bipush (-9), 2) := by decide +kernel
theorem dX5_voice_40 : decode cX5_voice 40 = .ok (.goto 12, 3) := by decide +kernel
theorem dX5_voice_43 : decode cX5_voice 43 = .ok (.aload_n 0, 1) := by decide +kernel
theorem dX5_voice_44 : decode cX5_voice 44 = .ok (.getfield 59, 3) := by decide +kernel
theorem dX5_voice_47 : decode cX5_voice 47 = .ok (.getfield 134, 3) := by decide +kernel
theorem dX5_voice_50 : decode cX5_voice 50 = .ok (.iload_n 1, 1) := by decide +kernel
theorem dX5_voice_51 : decode cX5_voice 51 = .ok (.iaload, 1) := by decide +kernel
theorem dX5_voice_52 : decode cX5_voice 52 = .ok (.ireturn, 1) := by decide +kernel
theorem dX5_law_0 : decode cX5_law 0 = .ok (.iload_n 1, 1) := by decide +kernel
theorem dX5_law_1 : decode cX5_law 1 = .ok (.invokestatic 124, 3) := by decide +kernel
theorem dX5_law_4 : decode cX5_law 4 = .ok (.ifCond .eq 12, 3) := by decide +kernel
theorem dX5_law_7 : decode cX5_law 7 = .ok (.iload_n 3, 1) := by decide +kernel
theorem dX5_law_8 : decode cX5_law 8 = .ok (.ifCond .lt 8, 3) := by decide +kernel
theorem dX5_law_11 : decode cX5_law 11 = .ok (.iload_n 3, 1) := by decide +kernel
theorem dX5_law_12 : decode cX5_law 12 = .ok (.iconst 1, 1) := by decide +kernel
theorem dX5_law_13 : decode cX5_law 13 = .ok (.if_icmp .le 5, 3) := by decide +kernel
theorem dX5_law_16 : decode cX5_law 16 = .ok (.iconst (-1), 1) := by decide +kernel
theorem dX5_law_17 : decode cX5_law 17 = .ok (.ireturn, 1) := by decide +kernel
theorem dX5_law_18 : decode cX5_law 18 = .ok (.aload_n 0, 1) := by decide +kernel
theorem dX5_law_19 : decode cX5_law 19 = .ok (.iload_n 1, 1) := by decide +kernel
theorem dX5_law_20 : decode cX5_law 20 = .ok (.iload_n 2, 1) := by decide +kernel
theorem dX5_law_21 : decode cX5_law 21 = .ok (.invokevirtual 127, 3) := by decide +kernel
theorem dX5_law_24 : decode cX5_law 24 = .ok (.aload_n 0, 1) := by decide +kernel
theorem dX5_law_25 : decode cX5_law 25 = .ok (.getfield 59, 3) := by decide +kernel
theorem dX5_law_28 : decode cX5_law 28 = .ok (.getfield 137, 3) := by decide +kernel
theorem dX5_law_31 : decode cX5_law 31 = .ok (.ifCond .ne 6, 3) := by decide +kernel
theorem dX5_law_34 : decode cX5_law 34 = .ok (.bipush (-9), 2) := by decide +kernel
theorem dX5_law_36 : decode cX5_law 36 = .ok (.ireturn, 1) := by decide +kernel
theorem dX5_law_37 : decode cX5_law 37 = .ok (.iload_n 3, 1) := by decide +kernel
theorem dX5_law_38 : decode cX5_law 38 = .ok (.ifCond .ne 13, 3) := by decide +kernel
theorem dX5_law_41 : decode cX5_law 41 = .ok (.aload_n 0, 1) := by decide +kernel
theorem dX5_law_42 : decode cX5_law 42 = .ok (.getfield 59, 3) := by decide +kernel
theorem dX5_law_45 : decode cX5_law 45 = .ok (.getfield 140, 3) := by decide +kernel
theorem dX5_law_48 : decode cX5_law 48 = .ok (.goto 10, 3) := by decide +kernel
theorem dX5_law_51 : decode cX5_law 51 = .ok (.aload_n 0, 1) := by decide +kernel
theorem dX5_law_52 : decode cX5_law 52 = .ok (.getfield 59, 3) := by decide +kernel
theorem dX5_law_55 : decode cX5_law 55 = .ok (.getfield 137, 3) := by decide +kernel
theorem dX5_law_58 : decode cX5_law 58 = .ok (.ireturn, 1) := by decide +kernel
theorem dX5_place_0 : decode cX5_place 0 = .ok (.aload_n 0, 1) := by decide +kernel
theorem dX5_place_1 : decode cX5_place 1 = .ok (.getfield 19, 3) := by decide +kernel
theorem dX5_place_4 : decode cX5_place 4 = .ok (.iload_n 1, 1) := by decide +kernel
theorem dX5_place_5 : decode cX5_place 5 = .ok (.invokevirtual 104, 3) := by decide +kernel
theorem dX5_place_8 : decode cX5_place 8 = .ok (.ifCond .ne 5, 3) := by decide +kernel
theorem dX5_place_11 : decode cX5_place 11 = .ok (.iconst (-1), 1) := by decide +kernel
theorem dX5_place_12 : decode cX5_place 12 = .ok (.ireturn, 1) := by decide +kernel
theorem dX5_place_13 : decode cX5_place 13 = .ok (.aload_n 0, 1) := by decide +kernel
theorem dX5_place_14 : decode cX5_place 14 = .ok (.iconst 0, 1) := by decide +kernel
theorem dX5_place_15 : decode cX5_place 15 = .ok (.iconst 0, 1) := by decide +kernel
theorem dX5_place_16 : decode cX5_place 16 = .ok (.invokevirtual 127, 3) := by decide +kernel
theorem dX5_place_19 : decode cX5_place 19 = .ok (.aload_n 0, 1) := by decide +kernel
theorem dX5_place_20 : decode cX5_place 20 = .ok (.getfield 59, 3) := by decide +kernel
theorem dX5_place_23 : decode cX5_place 23 = .ok (.getfield 143, 3) := by decide +kernel
theorem dX5_place_26 : decode cX5_place 26 = .ok (.iload_n 1, 1) := by decide +kernel
theorem dX5_place_27 : decode cX5_place 27 = .ok (.iaload, 1) := by decide +kernel
theorem dX5_place_28 : decode cX5_place 28 = .ok (.ireturn, 1) := by decide +kernel
theorem dX5_stands_0 : decode cX5_stands 0 = .ok (.iload_n 1, 1) := by decide +kernel
theorem dX5_stands_1 : decode cX5_stands 1 = .ok (.invokestatic 124, 3) := by decide +kernel
theorem dX5_stands_4 : decode cX5_stands 4 = .ok (.ifCond .ne 5, 3) := by decide +kernel
theorem dX5_stands_7 : decode cX5_stands 7 = .ok (.iconst (-1), 1) := by decide +kernel
theorem dX5_stands_8 : decode cX5_stands 8 = .ok (.ireturn, 1) := by decide +kernel
theorem dX5_stands_9 : decode cX5_stands 9 = .ok (.aload_n 0, 1) := by decide +kernel
theorem dX5_stands_10 : decode cX5_stands 10 = .ok (.iload_n 1, 1) := by decide +kernel
theorem dX5_stands_11 : decode cX5_stands 11 = .ok (.invokevirtual 146, 3) := by decide +kernel
theorem dX5_stands_14 : decode cX5_stands 14 = .ok (.bipush (-9), 2) := by decide +kernel
theorem dX5_stands_16 : decode cX5_stands 16 = .ok (.if_icmp .ne 7, 3) := by decide +kernel
theorem dX5_stands_19 : decode cX5_stands 19 = .ok (.iconst 1, 1) := by decide +kernel
theorem dX5_stands_20 : decode cX5_stands 20 = .ok (.goto 4, 3) := by decide +kernel
theorem dX5_stands_23 : decode cX5_stands 23 = .ok (.iconst 0, 1) := by decide +kernel
theorem dX5_stands_24 : decode cX5_stands 24 = .ok (.ireturn, 1) := by decide +kernel
theorem dX5_falls_0 : decode cX5_falls 0 = .ok (.iload_n 1, 1) := by decide +kernel
theorem dX5_falls_1 : decode cX5_falls 1 = .ok (.invokestatic 124, 3) := by decide +kernel
theorem dX5_falls_4 : decode cX5_falls 4 = .ok (.ifCond .ne 5, 3) := by decide +kernel
theorem dX5_falls_7 : decode cX5_falls 7 = .ok (.iconst (-1), 1) := by decide +kernel
theorem dX5_falls_8 : decode cX5_falls 8 = .ok (.ireturn, 1) := by decide +kernel
theorem dX5_falls_9 : decode cX5_falls 9 = .ok (.aload_n 0, 1) := by decide +kernel
theorem dX5_falls_10 : decode cX5_falls 10 = .ok (.iload_n 1, 1) := by decide +kernel
theorem dX5_falls_11 : decode cX5_falls 11 = .ok (.invokevirtual 146, 3) := by decide +kernel
theorem dX5_falls_14 : decode cX5_falls 14 = .ok (.ireturn, 1) := by decide +kernel
theorem dX5_alone_0 : decode cX5_alone 0 = .ok (.iload_n 1, 1) := by decide +kernel
theorem dX5_alone_1 : decode cX5_alone 1 = .ok (.invokestatic 124, 3) := by decide +kernel
theorem dX5_alone_4 : decode cX5_alone 4 = .ok (.ifCond .ne 5, 3) := by decide +kernel
theorem dX5_alone_7 : decode cX5_alone 7 = .ok (.iconst (-1), 1) := by decide +kernel
theorem dX5_alone_8 : decode cX5_alone 8 = .ok (.ireturn, 1) := by decide +kernel
theorem dX5_alone_9 : decode cX5_alone 9 = .ok (.aload_n 0, 1) := by decide +kernel
theorem dX5_alone_10 : decode cX5_alone 10 = .ok (.iload_n 1, 1) := by decide +kernel
theorem dX5_alone_11 : decode cX5_alone 11 = .ok (.iconst 0, 1) := by decide +kernel
theorem dX5_alone_12 : decode cX5_alone 12 = .ok (.invokevirtual 150, 3) := by decide +kernel
theorem dX5_alone_15 : decode cX5_alone 15 = .ok (.ifCond .ne 5, 3) := by decide +kernel
theorem dX5_alone_18 : decode cX5_alone 18 = .ok (.iconst 0, 1) := by decide +kernel
theorem dX5_alone_19 : decode cX5_alone 19 = .ok (.ireturn, 1) := by decide +kernel
theorem dX5_alone_20 : decode cX5_alone 20 = .ok (.iconst 0, 1) := by decide +kernel
theorem dX5_alone_21 : decode cX5_alone 21 = .ok (.istore_n 2, 1) := by decide +kernel
theorem dX5_alone_22 : decode cX5_alone 22 = .ok (.iconst 0, 1) := by decide +kernel
theorem dX5_alone_23 : decode cX5_alone 23 = .ok (.istore_n 3, 1) := by decide +kernel
theorem dX5_alone_24 : decode cX5_alone 24 = .ok (.iload_n 3, 1) := by decide +kernel
theorem dX5_alone_25 : decode cX5_alone 25 = .ok (.aload_n 0, 1) := by decide +kernel
theorem dX5_alone_26 : decode cX5_alone 26 = .ok (.getfield 26, 3) := by decide +kernel
theorem dX5_alone_29 : decode cX5_alone 29 = .ok (.getfield 154, 3) := by decide +kernel
theorem dX5_alone_32 : decode cX5_alone 32 = .ok (.if_icmp .ge 26, 3) := by decide +kernel
theorem dX5_alone_35 : decode cX5_alone 35 = .ok (.aload_n 0, 1) := by decide +kernel
theorem dX5_alone_36 : decode cX5_alone 36 = .ok (.iload_n 1, 1) := by decide +kernel
theorem dX5_alone_37 : decode cX5_alone 37 = .ok (.iconst 1, 1) := by decide +kernel
theorem dX5_alone_38 : decode cX5_alone 38 = .ok (.iload_n 3, 1) := by decide +kernel
theorem dX5_alone_39 : decode cX5_alone 39 = .ok (.ishl, 1) := by decide +kernel
theorem dX5_alone_40 : decode cX5_alone 40 = .ok (.invokevirtual 150, 3) := by decide +kernel
theorem dX5_alone_43 : decode cX5_alone 43 = .ok (.ifCond .ne 9, 3) := by decide +kernel
theorem dX5_alone_46 : decode cX5_alone 46 = .ok (.iload_n 2, 1) := by decide +kernel
theorem dX5_alone_47 : decode cX5_alone 47 = .ok (.iconst 1, 1) := by decide +kernel
theorem dX5_alone_48 : decode cX5_alone 48 = .ok (.iload_n 3, 1) := by decide +kernel
theorem dX5_alone_49 : decode cX5_alone 49 = .ok (.ishl, 1) := by decide +kernel
theorem dX5_alone_50 : decode cX5_alone 50 = .ok (.ior, 1) := by decide +kernel
theorem dX5_alone_51 : decode cX5_alone 51 = .ok (.istore_n 2, 1) := by decide +kernel
theorem dX5_alone_52 : decode cX5_alone 52 = .ok (.iinc 3 1, 3) := by decide +kernel
theorem dX5_alone_55 : decode cX5_alone 55 = .ok (.goto (-31), 3) := by decide +kernel
theorem dX5_alone_58 : decode cX5_alone 58 = .ok (.iload_n 2, 1) := by decide +kernel
theorem dX5_alone_59 : decode cX5_alone 59 = .ok (.ireturn, 1) := by decide +kernel
theorem dX5_empty_0 : decode cX5_empty 0 = .ok (.iconst 0, 1) := by decide +kernel
theorem dX5_empty_1 : decode cX5_empty 1 = .ok (.istore_n 1, 1) := by decide +kernel
theorem dX5_empty_2 : decode cX5_empty 2 = .ok (.iconst 0, 1) := by decide +kernel
theorem dX5_empty_3 : decode cX5_empty 3 = .ok (.istore_n 2, 1) := by decide +kernel
theorem dX5_empty_4 : decode cX5_empty 4 = .ok (.iload_n 2, 1) := by decide +kernel
theorem dX5_empty_5 : decode cX5_empty 5 = .ok (.iconst 4, 1) := by decide +kernel
theorem dX5_empty_6 : decode cX5_empty 6 = .ok (.if_icmp .ge 17, 3) := by decide +kernel
theorem dX5_empty_9 : decode cX5_empty 9 = .ok (.iload_n 1, 1) := by decide +kernel
theorem dX5_empty_10 : decode cX5_empty 10 = .ok (.aload_n 0, 1) := by decide +kernel
theorem dX5_empty_11 : decode cX5_empty 11 = .ok (.iload_n 2, 1) := by decide +kernel
theorem dX5_empty_12 : decode cX5_empty 12 = .ok (.invokevirtual 157, 3) := by decide +kernel
theorem dX5_empty_15 : decode cX5_empty 15 = .ok (.ior, 1) := by decide +kernel
theorem dX5_empty_16 : decode cX5_empty 16 = .ok (.istore_n 1, 1) := by decide +kernel
theorem dX5_empty_17 : decode cX5_empty 17 = .ok (.iinc 2 1, 3) := by decide +kernel
theorem dX5_empty_20 : decode cX5_empty 20 = .ok (.goto (-16), 3) := by decide +kernel
theorem dX5_empty_23 : decode cX5_empty 23 = .ok (.iload_n 1, 1) := by decide +kernel
theorem dX5_empty_24 : decode cX5_empty 24 = .ok (.iconst (-1), 1) := by decide +kernel
theorem dX5_empty_25 : decode cX5_empty 25 = .ok (.ixor, 1) := by decide +kernel
theorem dX5_empty_26 : decode cX5_empty 26 = .ok (.iconst 1, 1) := by decide +kernel
theorem dX5_empty_27 : decode cX5_empty 27 = .ok (.aload_n 0, 1) := by decide +kernel
theorem dX5_empty_28 : decode cX5_empty 28 = .ok (.getfield 26, 3) := by decide +kernel
theorem dX5_empty_31 : decode cX5_empty 31 = .ok (.getfield 154, 3) := by decide +kernel
theorem dX5_empty_34 : decode cX5_empty 34 = .ok (.ishl, 1) := by decide +kernel
theorem dX5_empty_35 : decode cX5_empty 35 = .ok (.iconst 1, 1) := by decide +kernel
theorem dX5_empty_36 : decode cX5_empty 36 = .ok (.isub, 1) := by decide +kernel
theorem dX5_empty_37 : decode cX5_empty 37 = .ok (.iand, 1) := by decide +kernel
theorem dX5_empty_38 : decode cX5_empty 38 = .ok (.ireturn, 1) := by decide +kernel
theorem dX5_hints_0 : decode cX5_hints 0 = .ok (.iload_n 1, 1) := by decide +kernel
theorem dX5_hints_1 : decode cX5_hints 1 = .ok (.invokestatic 124, 3) := by decide +kernel
theorem dX5_hints_4 : decode cX5_hints 4 = .ok (.ifCond .eq 10, 3) := by decide +kernel
theorem dX5_hints_7 : decode cX5_hints 7 = .ok (.iload_n 2, 1) := by decide +kernel
theorem dX5_hints_8 : decode cX5_hints 8 = .ok (.invokestatic 160, 3) := by decide +kernel
theorem dX5_hints_11 : decode cX5_hints 11 = .ok (.ifCond .ne 5, 3) := by decide +kernel
theorem dX5_hints_14 : decode cX5_hints 14 = .ok (.iconst (-1), 1) := by decide +kernel
theorem dX5_hints_15 : decode cX5_hints 15 = .ok (.ireturn, 1) := by decide +kernel
theorem dX5_hints_16 : decode cX5_hints 16 = .ok (.aload_n 0, 1) := by decide +kernel
theorem dX5_hints_17 : decode cX5_hints 17 = .ok (.iload_n 1, 1) := by decide +kernel
theorem dX5_hints_18 : decode cX5_hints 18 = .ok (.iload_n 2, 1) := by decide +kernel
theorem dX5_hints_19 : decode cX5_hints 19 = .ok (.iconst 1, 1) := by decide +kernel
theorem dX5_hints_20 : decode cX5_hints 20 = .ok (.invokevirtual 163, 3) := by decide +kernel
theorem dX5_hints_23 : decode cX5_hints 23 = .ok (.ireturn, 1) := by decide +kernel
theorem dX5_hinder_0 : decode cX5_hinder 0 = .ok (.iload_n 1, 1) := by decide +kernel
theorem dX5_hinder_1 : decode cX5_hinder 1 = .ok (.invokestatic 124, 3) := by decide +kernel
theorem dX5_hinder_4 : decode cX5_hinder 4 = .ok (.ifCond .eq 10, 3) := by decide +kernel
theorem dX5_hinder_7 : decode cX5_hinder 7 = .ok (.iload_n 2, 1) := by decide +kernel
theorem dX5_hinder_8 : decode cX5_hinder 8 = .ok (.invokestatic 160, 3) := by decide +kernel
theorem dX5_hinder_11 : decode cX5_hinder 11 = .ok (.ifCond .ne 5, 3) := by decide +kernel
theorem dX5_hinder_14 : decode cX5_hinder 14 = .ok (.iconst (-1), 1) := by decide +kernel
theorem dX5_hinder_15 : decode cX5_hinder 15 = .ok (.ireturn, 1) := by decide +kernel
theorem dX5_hinder_16 : decode cX5_hinder 16 = .ok (.aload_n 0, 1) := by decide +kernel
theorem dX5_hinder_17 : decode cX5_hinder 17 = .ok (.iload_n 1, 1) := by decide +kernel
theorem dX5_hinder_18 : decode cX5_hinder 18 = .ok (.iload_n 2, 1) := by decide +kernel
theorem dX5_hinder_19 : decode cX5_hinder 19 = .ok (.iconst 0, 1) := by decide +kernel
theorem dX5_hinder_20 : decode cX5_hinder 20 = .ok (.invokevirtual 163, 3) := by decide +kernel
theorem dX5_hinder_23 : decode cX5_hinder 23 = .ok (.ireturn, 1) := by decide +kernel
theorem dX5_turns_0 : decode cX5_turns 0 = .ok (.iload_n 1, 1) := by decide +kernel
theorem dX5_turns_1 : decode cX5_turns 1 = .ok (.invokestatic 124, 3) := by decide +kernel
theorem dX5_turns_4 : decode cX5_turns 4 = .ok (.ifCond .eq 20, 3) := by decide +kernel
theorem dX5_turns_7 : decode cX5_turns 7 = .ok (.iload_n 2, 1) := by decide +kernel
theorem dX5_turns_8 : decode cX5_turns 8 = .ok (.invokestatic 160, 3) := by decide +kernel
theorem dX5_turns_11 : decode cX5_turns 11 = .ok (.ifCond .eq 13, 3) := by decide +kernel
theorem dX5_turns_14 : decode cX5_turns 14 = .ok (.iload_n 3, 1) := by decide +kernel
theorem dX5_turns_15 : decode cX5_turns 15 = .ok (.iconst 1, 1) := by decide +kernel
theorem dX5_turns_16 : decode cX5_turns 16 = .ok (.if_icmp .lt 8, 3) := by decide +kernel
theorem dX5_turns_19 : decode cX5_turns 19 = .ok (.iload_n 3, 1) := by decide +kernel
theorem dX5_turns_20 : decode cX5_turns 20 = .ok (.iconst 2, 1) := by decide +kernel
theorem dX5_turns_21 : decode cX5_turns 21 = .ok (.if_icmp .le 5, 3) := by decide +kernel
theorem dX5_turns_24 : decode cX5_turns 24 = .ok (.iconst (-1), 1) := by decide +kernel
theorem dX5_turns_25 : decode cX5_turns 25 = .ok (.ireturn, 1) := by decide +kernel
theorem dX5_turns_26 : decode cX5_turns 26 = .ok (.aload_n 0, 1) := by decide +kernel
theorem dX5_turns_27 : decode cX5_turns 27 = .ok (.iload_n 1, 1) := by decide +kernel
theorem dX5_turns_28 : decode cX5_turns 28 = .ok (.iload_n 2, 1) := by decide +kernel
theorem dX5_turns_29 : decode cX5_turns 29 = .ok (.invokevirtual 167, 3) := by decide +kernel
theorem dX5_turns_32 : decode cX5_turns 32 = .ok (.aload_n 0, 1) := by decide +kernel
theorem dX5_turns_33 : decode cX5_turns 33 = .ok (.iconst 2, 1) := by decide +kernel
theorem dX5_turns_34 : decode cX5_turns 34 = .ok (.iload_n 3, 1) := by decide +kernel
theorem dX5_turns_35 : decode cX5_turns 35 = .ok (.imul, 1) := by decide +kernel
theorem dX5_turns_36 : decode cX5_turns 36 = .ok (.aload_n 0, 1) := by decide +kernel
theorem dX5_turns_37 : decode cX5_turns 37 = .ok (.getfield 26, 3) := by decide +kernel
theorem dX5_turns_40 : decode cX5_turns 40 = .ok (.iload_n 2, 1) := by decide +kernel
theorem dX5_turns_41 : decode cX5_turns 41 = .ok (.invokevirtual 170, 3) := by decide +kernel
theorem dX5_turns_44 : decode cX5_turns 44 = .ok (.invokevirtual 173, 3) := by decide +kernel
theorem dX5_turns_47 : decode cX5_turns 47 = .ok (.ifCond .eq 7, 3) := by decide +kernel
theorem dX5_turns_50 : decode cX5_turns 50 = .ok (.iconst 1, 1) := by decide +kernel
theorem dX5_turns_51 : decode cX5_turns 51 = .ok (.goto 4, 3) := by decide +kernel
theorem dX5_turns_54 : decode cX5_turns 54 = .ok (.iconst 0, 1) := by decide +kernel
theorem dX5_turns_55 : decode cX5_turns 55 = .ok (.ireturn, 1) := by decide +kernel
theorem dX5_keepAt_0 : decode cX5_keepAt 0 = .ok (.aload_n 0, 1) := by decide +kernel
theorem dX5_keepAt_1 : decode cX5_keepAt 1 = .ok (.getfield 19, 3) := by decide +kernel
theorem dX5_keepAt_4 : decode cX5_keepAt 4 = .ok (.iload_n 1, 1) := by decide +kernel
theorem dX5_keepAt_5 : decode cX5_keepAt 5 = .ok (.invokevirtual 104, 3) := by decide +kernel
theorem dX5_keepAt_8 : decode cX5_keepAt 8 = .ok (.ifCond .eq 10, 3) := by decide +kernel
theorem dX5_keepAt_11 : decode cX5_keepAt 11 = .ok (.iload_n 2, 1) := by decide +kernel
theorem dX5_keepAt_12 : decode cX5_keepAt 12 = .ok (.invokestatic 160, 3) := by decide +kernel
theorem dX5_keepAt_15 : decode cX5_keepAt 15 = .ok (.ifCond .ne 5, 3) := by decide +kernel
theorem dX5_keepAt_18 : decode cX5_keepAt 18 = .ok (.iconst (-1), 1) := by decide +kernel
theorem dX5_keepAt_19 : decode cX5_keepAt 19 = .ok (.ireturn, 1) := by decide +kernel
theorem dX5_keepAt_20 : decode cX5_keepAt 20 = .ok (.iconst 0, 1) := by decide +kernel
theorem dX5_keepAt_21 : decode cX5_keepAt 21 = .ok (.istore_n 3, 1) := by decide +kernel
theorem dX5_keepAt_22 : decode cX5_keepAt 22 = .ok (.iconst 5, 1) := by decide +kernel
theorem dX5_keepAt_23 : decode cX5_keepAt 23 = .ok (.istore 4, 2) := by decide +kernel
theorem dX5_keepAt_25 : decode cX5_keepAt 25 = .ok (.iconst 0, 1) := by decide +kernel
theorem dX5_keepAt_26 : decode cX5_keepAt 26 = .ok (.istore 5, 2) := by decide +kernel
theorem dX5_keepAt_28 : decode cX5_keepAt 28 = .ok (.iload 5, 2) := by decide +kernel
theorem dX5_keepAt_30 : decode cX5_keepAt 30 = .ok (.iconst 4, 1) := by decide +kernel
theorem dX5_keepAt_31 : decode cX5_keepAt 31 = .ok (.if_icmp .ge 33, 3) := by decide +kernel
theorem dX5_keepAt_34 : decode cX5_keepAt 34 = .ok (.aload_n 0, 1) := by decide +kernel
theorem dX5_keepAt_35 : decode cX5_keepAt 35 = .ok (.iload_n 1, 1) := by decide +kernel
theorem dX5_keepAt_36 : decode cX5_keepAt 36 = .ok (.iload_n 2, 1) := by decide +kernel
theorem dX5_keepAt_37 : decode cX5_keepAt 37 = .ok (.iload 5, 2) := by decide +kernel
theorem dX5_keepAt_39 : decode cX5_keepAt 39 = .ok (.invokevirtual 176, 3) := by decide +kernel
theorem dX5_keepAt_42 : decode cX5_keepAt 42 = .ok (.istore 6, 2) := by decide +kernel
theorem dX5_keepAt_44 : decode cX5_keepAt 44 = .ok (.iload 6, 2) := by decide +kernel
theorem dX5_keepAt_46 : decode cX5_keepAt 46 = .ok (.iload 4, 2) := by decide +kernel
theorem dX5_keepAt_48 : decode cX5_keepAt 48 = .ok (.if_icmp .ge 10, 3) := by decide +kernel
theorem dX5_keepAt_51 : decode cX5_keepAt 51 = .ok (.iload 6, 2) := by decide +kernel
theorem dX5_keepAt_53 : decode cX5_keepAt 53 = .ok (.istore 4, 2) := by decide +kernel
theorem dX5_keepAt_55 : decode cX5_keepAt 55 = .ok (.iload 5, 2) := by decide +kernel
theorem dX5_keepAt_57 : decode cX5_keepAt 57 = .ok (.istore_n 3, 1) := by decide +kernel
theorem dX5_keepAt_58 : decode cX5_keepAt 58 = .ok (.iinc 5 1, 3) := by decide +kernel
theorem dX5_keepAt_61 : decode cX5_keepAt 61 = .ok (.goto (-33), 3) := by decide +kernel
theorem dX5_keepAt_64 : decode cX5_keepAt 64 = .ok (.iload_n 3, 1) := by decide +kernel
theorem dX5_keepAt_65 : decode cX5_keepAt 65 = .ok (.ireturn, 1) := by decide +kernel
theorem dX5_chance_0 : decode cX5_chance 0 = .ok (.iload_n 1, 1) := by decide +kernel
theorem dX5_chance_1 : decode cX5_chance 1 = .ok (.invokestatic 124, 3) := by decide +kernel
theorem dX5_chance_4 : decode cX5_chance 4 = .ok (.ifCond .eq 30, 3) := by decide +kernel
theorem dX5_chance_7 : decode cX5_chance 7 = .ok (.iload_n 2, 1) := by decide +kernel
theorem dX5_chance_8 : decode cX5_chance 8 = .ok (.invokestatic 160, 3) := by decide +kernel
theorem dX5_chance_11 : decode cX5_chance 11 = .ok (.ifCond .eq 23, 3) := by decide +kernel
theorem dX5_chance_14 : decode cX5_chance 14 = .ok (.iload_n 3, 1) := by decide +kernel
theorem dX5_chance_15 : decode cX5_chance 15 = .ok (.iload 4, 2) := by decide +kernel
theorem dX5_chance_17 : decode cX5_chance 17 = .ok (.invokestatic 180, 3) := by decide +kernel
theorem dX5_chance_20 : decode cX5_chance 20 = .ok (.ifCond .eq 14, 3) := by decide +kernel
theorem dX5_chance_23 : decode cX5_chance 23 = .ok (.iload 5, 2) := by decide +kernel
theorem dX5_chance_25 : decode cX5_chance 25 = .ok (.ifCond .lt 9, 3) := by decide +kernel
theorem dX5_chance_28 : decode cX5_chance 28 = .ok (.iload 5, 2) := by decide +kernel
theorem dX5_chance_30 : decode cX5_chance 30 = .ok (.iconst 1, 1) := by decide +kernel
theorem dX5_chance_31 : decode cX5_chance 31 = .ok (.if_icmp .le 7, 3) := by decide +kernel
theorem dX5_chance_34 : decode cX5_chance 34 = .ok (.ldc2_w 183, 3) := by decide +kernel
theorem dX5_chance_37 : decode cX5_chance 37 = .ok (.lreturn, 1) := by decide +kernel
theorem dX5_chance_38 : decode cX5_chance 38 = .ok (.aload_n 0, 1) := by decide +kernel
theorem dX5_chance_39 : decode cX5_chance 39 = .ok (.iload_n 1, 1) := by decide +kernel
theorem dX5_chance_40 : decode cX5_chance 40 = .ok (.iload_n 2, 1) := by decide +kernel
theorem dX5_chance_41 : decode cX5_chance 41 = .ok (.invokevirtual 167, 3) := by decide +kernel
theorem dX5_chance_44 : decode cX5_chance 44 = .ok (.aload_n 0, 1) := by decide +kernel
theorem dX5_chance_45 : decode cX5_chance 45 = .ok (.getfield 55, 3) := by decide +kernel
theorem dX5_chance_48 : decode cX5_chance 48 = .ok (.invokevirtual 185, 3) := by decide +kernel
theorem dX5_chance_51 : decode cX5_chance 51 = .ok (.istore 6, 2) := by decide +kernel
theorem dX5_chance_53 : decode cX5_chance 53 = .ok (.aload_n 0, 1) := by decide +kernel
theorem dX5_chance_54 : decode cX5_chance 54 = .ok (.getfield 26, 3) := by decide +kernel
theorem dX5_chance_57 : decode cX5_chance 57 = .ok (.iload_n 2, 1) := by decide +kernel
theorem dX5_chance_58 : decode cX5_chance 58 = .ok (.invokevirtual 170, 3) := by decide +kernel
theorem dX5_chance_61 : decode cX5_chance 61 = .ok (.istore 7, 2) := by decide +kernel
theorem dX5_chance_63 : decode cX5_chance 63 = .ok (.lconst 0, 1) := by decide +kernel
theorem dX5_chance_64 : decode cX5_chance 64 = .ok (.lstore 8, 2) := by decide +kernel
theorem dX5_chance_66 : decode cX5_chance 66 = .ok (.iconst 0, 1) := by decide +kernel
theorem dX5_chance_67 : decode cX5_chance 67 = .ok (.istore 10, 2) := by decide +kernel
theorem dX5_chance_69 : decode cX5_chance 69 = .ok (.iload 10, 2) := by decide +kernel
theorem dX5_chance_71 : decode cX5_chance 71 = .ok (.iload 6, 2) := by decide +kernel
theorem dX5_chance_73 : decode cX5_chance 73 = .ok (.if_icmp .gt 63, 3) := by decide +kernel
theorem dX5_chance_76 : decode cX5_chance 76 = .ok (.iload 10, 2) := by decide +kernel
theorem dX5_chance_78 : decode cX5_chance 78 = .ok (.iload 6, 2) := by decide +kernel
theorem dX5_chance_80 : decode cX5_chance 80 = .ok (.iconst (-1), 1) := by decide +kernel
theorem dX5_chance_81 : decode cX5_chance 81 = .ok (.ixor, 1) := by decide +kernel
theorem dX5_chance_82 : decode cX5_chance 82 = .ok (.iand, 1) := by decide +kernel
theorem dX5_chance_83 : decode cX5_chance 83 = .ok (.ifCond .ne 47, 3) := by decide +kernel
theorem dX5_chance_86 : decode cX5_chance 86 = .ok (.aload_n 0, 1) := by decide +kernel
theorem dX5_chance_87 : decode cX5_chance 87 = .ok (.iload 10, 2) := by decide +kernel
theorem dX5_chance_89 : decode cX5_chance 89 = .ok (.iconst 1, 1) := by decide +kernel
theorem dX5_chance_90 : decode cX5_chance 90 = .ok (.iload 7, 2) := by decide +kernel
theorem dX5_chance_92 : decode cX5_chance 92 = .ok (.invokevirtual 188, 3) := by decide +kernel
theorem dX5_chance_95 : decode cX5_chance 95 = .ok (.ifCond .eq 35, 3) := by decide +kernel
theorem dX5_chance_98 : decode cX5_chance 98 = .ok (.lload 8, 2) := by decide +kernel
theorem dX5_chance_100 : decode cX5_chance 100 = .ok (.iload_n 3, 1) := by decide +kernel
theorem dX5_chance_101 : decode cX5_chance 101 = .ok (.iload 10, 2) := by decide +kernel
theorem dX5_chance_103 : decode cX5_chance 103 = .ok (.invokestatic 192, 3) := by decide +kernel
theorem dX5_chance_106 : decode cX5_chance 106 = .ok (.invokestatic 197, 3) := by decide +kernel
theorem dX5_chance_109 : decode cX5_chance 109 = .ok (.iload 4, 2) := by decide +kernel
theorem dX5_chance_111 : decode cX5_chance 111 = .ok (.iload_n 3, 1) := by decide +kernel
theorem dX5_chance_112 : decode cX5_chance 112 = .ok (.isub, 1) := by decide +kernel
theorem dX5_chance_113 : decode cX5_chance 113 = .ok (.iload 6, 2) := by decide +kernel
theorem dX5_chance_115 : decode cX5_chance 115 = .ok (.iload 10, 2) := by decide +kernel
theorem dX5_chance_117 : decode cX5_chance 117 = .ok (.iconst (-1), 1) := by decide +kernel
theorem dX5_chance_118 : decode cX5_chance 118 = .ok (.ixor, 1) := by decide +kernel
theorem dX5_chance_119 : decode cX5_chance 119 = .ok (.iand, 1) := by decide +kernel
theorem dX5_chance_120 : decode cX5_chance 120 = .ok (.invokestatic 192, 3) := by decide +kernel
theorem dX5_chance_123 : decode cX5_chance 123 = .ok (.invokestatic 197, 3) := by decide +kernel
theorem dX5_chance_126 : decode cX5_chance 126 = .ok (.lmul, 1) := by decide +kernel
theorem dX5_chance_127 : decode cX5_chance 127 = .ok (.ladd, 1) := by decide +kernel
theorem dX5_chance_128 : decode cX5_chance 128 = .ok (.lstore 8, 2) := by decide +kernel
theorem dX5_chance_130 : decode cX5_chance 130 = .ok (.iinc 10 1, 3) := by decide +kernel
theorem dX5_chance_133 : decode cX5_chance 133 = .ok (.goto (-64), 3) := by decide +kernel
theorem dX5_chance_136 : decode cX5_chance 136 = .ok (.iload 4, 2) := by decide +kernel
theorem dX5_chance_138 : decode cX5_chance 138 = .ok (.iload 6, 2) := by decide +kernel
theorem dX5_chance_140 : decode cX5_chance 140 = .ok (.invokestatic 192, 3) := by decide +kernel
theorem dX5_chance_143 : decode cX5_chance 143 = .ok (.invokestatic 197, 3) := by decide +kernel
theorem dX5_chance_146 : decode cX5_chance 146 = .ok (.lstore 10, 2) := by decide +kernel
theorem dX5_chance_148 : decode cX5_chance 148 = .ok (.lload 8, 2) := by decide +kernel
theorem dX5_chance_150 : decode cX5_chance 150 = .ok (.lload 10, 2) := by decide +kernel
theorem dX5_chance_152 : decode cX5_chance 152 = .ok (.invokestatic 201, 3) := by decide +kernel
theorem dX5_chance_155 : decode cX5_chance 155 = .ok (.lstore 12, 2) := by decide +kernel
theorem dX5_chance_157 : decode cX5_chance 157 = .ok (.iload 5, 2) := by decide +kernel
theorem dX5_chance_159 : decode cX5_chance 159 = .ok (.ifCond .ne 8, 3) := by decide +kernel
theorem dX5_chance_162 : decode cX5_chance 162 = .ok (.lload 8, 2) := by decide +kernel
theorem dX5_chance_164 : decode cX5_chance 164 = .ok (.goto 5, 3) := by decide +kernel
theorem dX5_chance_167 : decode cX5_chance 167 = .ok (.lload 10, 2) := by decide +kernel
theorem dX5_chance_169 : decode cX5_chance 169 = .ok (.lstore 14, 2) := by decide +kernel
theorem dX5_chance_171 : decode cX5_chance 171 = .ok (.lload 12, 2) := by decide +kernel
theorem dX5_chance_173 : decode cX5_chance 173 = .ok (.lconst 0, 1) := by decide +kernel
theorem dX5_chance_174 : decode cX5_chance 174 = .ok (.lcmp, 1) := by decide +kernel
theorem dX5_chance_175 : decode cX5_chance 175 = .ok (.ifCond .le 11, 3) := by decide +kernel
theorem dX5_chance_178 : decode cX5_chance 178 = .ok (.lload 14, 2) := by decide +kernel
theorem dX5_chance_180 : decode cX5_chance 180 = .ok (.lload 12, 2) := by decide +kernel
theorem dX5_chance_182 : decode cX5_chance 182 = .ok (.ldiv, 1) := by decide +kernel
theorem dX5_chance_183 : decode cX5_chance 183 = .ok (.goto 5, 3) := by decide +kernel
theorem dX5_chance_186 : decode cX5_chance 186 = .ok (.lload 14, 2) := by decide +kernel
theorem dX5_chance_188 : decode cX5_chance 188 = .ok (.lreturn, 1) := by decide +kernel
theorem dX5_mark_0 : decode cX5_mark 0 = .ok (.iload_n 1, 1) := by decide +kernel
theorem dX5_mark_1 : decode cX5_mark 1 = .ok (.ifCond .lt 26, 3) := by decide +kernel
theorem dX5_mark_4 : decode cX5_mark 4 = .ok (.iload_n 1, 1) := by decide +kernel
theorem dX5_mark_5 : decode cX5_mark 5 = .ok (.iconst 5, 1) := by decide +kernel
theorem dX5_mark_6 : decode cX5_mark 6 = .ok (.if_icmp .gt 21, 3) := by decide +kernel
theorem dX5_mark_9 : decode cX5_mark 9 = .ok (.aload_n 0, 1) := by decide +kernel
theorem dX5_mark_10 : decode cX5_mark 10 = .ok (.getfield 19, 3) := by decide +kernel
theorem dX5_mark_13 : decode cX5_mark 13 = .ok (.iload_n 2, 1) := by decide +kernel
theorem dX5_mark_14 : decode cX5_mark 14 = .ok (.invokevirtual 104, 3) := by decide +kernel
theorem dX5_mark_17 : decode cX5_mark 17 = .ok (.ifCond .eq 10, 3) := by decide +kernel
theorem dX5_mark_20 : decode cX5_mark 20 = .ok (.iload_n 3, 1) := by decide +kernel
theorem dX5_mark_21 : decode cX5_mark 21 = .ok (.invokestatic 124, 3) := by decide +kernel
theorem dX5_mark_24 : decode cX5_mark 24 = .ok (.ifCond .ne 6, 3) := by decide +kernel
theorem dX5_mark_27 : decode cX5_mark 27 = .ok (.ldc 205, 2) := by decide +kernel
theorem dX5_mark_29 : decode cX5_mark 29 = .ok (.ireturn, 1) := by decide +kernel
theorem dX5_mark_30 : decode cX5_mark 30 = .ok (.aload_n 0, 1) := by decide +kernel
theorem dX5_mark_31 : decode cX5_mark 31 = .ok (.iload_n 3, 1) := by decide +kernel
theorem dX5_mark_32 : decode cX5_mark 32 = .ok (.iconst 0, 1) := by decide +kernel
theorem dX5_mark_33 : decode cX5_mark 33 = .ok (.invokevirtual 127, 3) := by decide +kernel
theorem dX5_mark_36 : decode cX5_mark 36 = .ok (.iload_n 1, 1) := by decide +kernel
theorem dX5_mark_37 : decode cX5_mark 37 = .ok (.tableswitch 66 1 5 #[35, 41, 47, 54, 60], 35) := by decide +kernel
theorem dX5_mark_72 : decode cX5_mark 72 = .ok (.aload_n 0, 1) := by decide +kernel
theorem dX5_mark_73 : decode cX5_mark 73 = .ok (.iload_n 2, 1) := by decide +kernel
theorem dX5_mark_74 : decode cX5_mark 74 = .ok (.invokevirtual 206, 3) := by decide +kernel
theorem dX5_mark_77 : decode cX5_mark 77 = .ok (.ireturn, 1) := by decide +kernel
theorem dX5_mark_78 : decode cX5_mark 78 = .ok (.aload_n 0, 1) := by decide +kernel
theorem dX5_mark_79 : decode cX5_mark 79 = .ok (.iload_n 2, 1) := by decide +kernel
theorem dX5_mark_80 : decode cX5_mark 80 = .ok (.invokevirtual 209, 3) := by decide +kernel
theorem dX5_mark_83 : decode cX5_mark 83 = .ok (.ireturn, 1) := by decide +kernel
theorem dX5_mark_84 : decode cX5_mark 84 = .ok (.aload_n 0, 1) := by decide +kernel
theorem dX5_mark_85 : decode cX5_mark 85 = .ok (.iload_n 2, 1) := by decide +kernel
theorem dX5_mark_86 : decode cX5_mark 86 = .ok (.iload_n 3, 1) := by decide +kernel
theorem dX5_mark_87 : decode cX5_mark 87 = .ok (.invokevirtual 212, 3) := by decide +kernel
theorem dX5_mark_90 : decode cX5_mark 90 = .ok (.ireturn, 1) := by decide +kernel
theorem dX5_mark_91 : decode cX5_mark 91 = .ok (.aload_n 0, 1) := by decide +kernel
theorem dX5_mark_92 : decode cX5_mark 92 = .ok (.iload_n 2, 1) := by decide +kernel
theorem dX5_mark_93 : decode cX5_mark 93 = .ok (.invokevirtual 216, 3) := by decide +kernel
theorem dX5_mark_96 : decode cX5_mark 96 = .ok (.ireturn, 1) := by decide +kernel
theorem dX5_mark_97 : decode cX5_mark 97 = .ok (.aload_n 0, 1) := by decide +kernel
theorem dX5_mark_98 : decode cX5_mark 98 = .ok (.iload_n 2, 1) := by decide +kernel
theorem dX5_mark_99 : decode cX5_mark 99 = .ok (.invokevirtual 219, 3) := by decide +kernel
theorem dX5_mark_102 : decode cX5_mark 102 = .ok (.ireturn, 1) := by decide +kernel
theorem dX5_mark_103 : decode cX5_mark 103 = .ok (.aload_n 0, 1) := by decide +kernel
theorem dX5_mark_104 : decode cX5_mark 104 = .ok (.iload_n 2, 1) := by decide +kernel
theorem dX5_mark_105 : decode cX5_mark 105 = .ok (.invokevirtual 222, 3) := by decide +kernel
theorem dX5_mark_108 : decode cX5_mark 108 = .ok (.ireturn, 1) := by decide +kernel
theorem dX5_keep_0 : decode cX5_keep 0 = .ok (.iload_n 1, 1) := by decide +kernel
theorem dX5_keep_1 : decode cX5_keep 1 = .ok (.ifCond .ne 22, 3) := by decide +kernel
theorem dX5_keep_4 : decode cX5_keep 4 = .ok (.aload_n 0, 1) := by decide +kernel
theorem dX5_keep_5 : decode cX5_keep 5 = .ok (.getfield 39, 3) := by decide +kernel
theorem dX5_keep_8 : decode cX5_keep 8 = .ok (.aload_n 0, 1) := by decide +kernel
theorem dX5_keep_9 : decode cX5_keep 9 = .ok (.getfield 26, 3) := by decide +kernel
theorem dX5_keep_12 : decode cX5_keep 12 = .ok (.invokevirtual 87, 3) := by decide +kernel
theorem dX5_keep_15 : decode cX5_keep 15 = .ok (.aload_n 0, 1) := by decide +kernel
theorem dX5_keep_16 : decode cX5_keep 16 = .ok (.iconst 1, 1) := by decide +kernel
theorem dX5_keep_17 : decode cX5_keep 17 = .ok (.putfield 45, 3) := by decide +kernel
theorem dX5_keep_20 : decode cX5_keep 20 = .ok (.goto 29, 3) := by decide +kernel
theorem dX5_keep_23 : decode cX5_keep 23 = .ok (.iload_n 1, 1) := by decide +kernel
theorem dX5_keep_24 : decode cX5_keep 24 = .ok (.iconst 1, 1) := by decide +kernel
theorem dX5_keep_25 : decode cX5_keep 25 = .ok (.if_icmp .ne 22, 3) := by decide +kernel
theorem dX5_keep_28 : decode cX5_keep 28 = .ok (.aload_n 0, 1) := by decide +kernel
theorem dX5_keep_29 : decode cX5_keep 29 = .ok (.getfield 42, 3) := by decide +kernel
theorem dX5_keep_32 : decode cX5_keep 32 = .ok (.aload_n 0, 1) := by decide +kernel
theorem dX5_keep_33 : decode cX5_keep 33 = .ok (.getfield 26, 3) := by decide +kernel
theorem dX5_keep_36 : decode cX5_keep 36 = .ok (.invokevirtual 87, 3) := by decide +kernel
theorem dX5_keep_39 : decode cX5_keep 39 = .ok (.aload_n 0, 1) := by decide +kernel
theorem dX5_keep_40 : decode cX5_keep 40 = .ok (.iconst 1, 1) := by decide +kernel
theorem dX5_keep_41 : decode cX5_keep 41 = .ok (.putfield 49, 3) := by decide +kernel
theorem dX5_keep_44 : decode cX5_keep 44 = .ok (.goto 5, 3) := by decide +kernel
theorem dX5_keep_47 : decode cX5_keep 47 = .ok (.iconst (-1), 1) := by decide +kernel
theorem dX5_keep_48 : decode cX5_keep 48 = .ok (.ireturn, 1) := by decide +kernel
theorem dX5_keep_49 : decode cX5_keep 49 = .ok (.aload_n 0, 1) := by decide +kernel
theorem dX5_keep_50 : decode cX5_keep 50 = .ok (.getfield 26, 3) := by decide +kernel
theorem dX5_keep_53 : decode cX5_keep 53 = .ok (.getfield 90, 3) := by decide +kernel
theorem dX5_keep_56 : decode cX5_keep 56 = .ok (.ireturn, 1) := by decide +kernel
theorem dX5_back_0 : decode cX5_back 0 = .ok (.iload_n 1, 1) := by decide +kernel
theorem dX5_back_1 : decode cX5_back 1 = .ok (.ifCond .lt 8, 3) := by decide +kernel
theorem dX5_back_4 : decode cX5_back 4 = .ok (.iload_n 1, 1) := by decide +kernel
theorem dX5_back_5 : decode cX5_back 5 = .ok (.iconst 1, 1) := by decide +kernel
theorem dX5_back_6 : decode cX5_back 6 = .ok (.if_icmp .le 5, 3) := by decide +kernel
theorem dX5_back_9 : decode cX5_back 9 = .ok (.iconst (-1), 1) := by decide +kernel
theorem dX5_back_10 : decode cX5_back 10 = .ok (.ireturn, 1) := by decide +kernel
theorem dX5_back_11 : decode cX5_back 11 = .ok (.iload_n 1, 1) := by decide +kernel
theorem dX5_back_12 : decode cX5_back 12 = .ok (.ifCond .ne 13, 3) := by decide +kernel
theorem dX5_back_15 : decode cX5_back 15 = .ok (.aload_n 0, 1) := by decide +kernel
theorem dX5_back_16 : decode cX5_back 16 = .ok (.getfield 45, 3) := by decide +kernel
theorem dX5_back_19 : decode cX5_back 19 = .ok (.ifCond .eq 13, 3) := by decide +kernel
theorem dX5_back_22 : decode cX5_back 22 = .ok (.goto 13, 3) := by decide +kernel
theorem dX5_back_25 : decode cX5_back 25 = .ok (.aload_n 0, 1) := by decide +kernel
theorem dX5_back_26 : decode cX5_back 26 = .ok (.getfield 49, 3) := by decide +kernel
theorem dX5_back_29 : decode cX5_back 29 = .ok (.ifCond .ne 6, 3) := by decide +kernel
theorem dX5_back_32 : decode cX5_back 32 = .ok (.bipush (-2), 2) := by decide +kernel
theorem dX5_back_34 : decode cX5_back 34 = .ok (.ireturn, 1) := by decide +kernel
theorem dX5_back_35 : decode cX5_back 35 = .ok (.aload_n 0, 1) := by decide +kernel
theorem dX5_back_36 : decode cX5_back 36 = .ok (.getfield 26, 3) := by decide +kernel
theorem dX5_back_39 : decode cX5_back 39 = .ok (.iload_n 1, 1) := by decide +kernel
theorem dX5_back_40 : decode cX5_back 40 = .ok (.ifCond .ne 10, 3) := by decide +kernel
theorem dX5_back_43 : decode cX5_back 43 = .ok (.aload_n 0, 1) := by decide +kernel
theorem dX5_back_44 : decode cX5_back 44 = .ok (.getfield 39, 3) := by decide +kernel
theorem dX5_back_47 : decode cX5_back 47 = .ok (.goto 7, 3) := by decide +kernel
theorem dX5_back_50 : decode cX5_back 50 = .ok (.aload_n 0, 1) := by decide +kernel
theorem dX5_back_51 : decode cX5_back 51 = .ok (.getfield 42, 3) := by decide +kernel
theorem dX5_back_54 : decode cX5_back 54 = .ok (.invokevirtual 87, 3) := by decide +kernel
theorem dX5_back_57 : decode cX5_back 57 = .ok (.aload_n 0, 1) := by decide +kernel
theorem dX5_back_58 : decode cX5_back 58 = .ok (.getfield 26, 3) := by decide +kernel
theorem dX5_back_61 : decode cX5_back 61 = .ok (.getfield 90, 3) := by decide +kernel
theorem dX5_back_64 : decode cX5_back 64 = .ok (.ireturn, 1) := by decide +kernel
theorem dX5_count_0 : decode cX5_count 0 = .ok (.iload_n 1, 1) := by decide +kernel
theorem dX5_count_1 : decode cX5_count 1 = .ok (.tableswitch 75 0 4 #[35, 43, 51, 59, 67], 35) := by decide +kernel
theorem dX5_count_36 : decode cX5_count 36 = .ok (.aload_n 0, 1) := by decide +kernel
theorem dX5_count_37 : decode cX5_count 37 = .ok (.getfield 19, 3) := by decide +kernel
theorem dX5_count_40 : decode cX5_count 40 = .ok (.getfield 225, 3) := by decide +kernel
theorem dX5_count_43 : decode cX5_count 43 = .ok (.ireturn, 1) := by decide +kernel
theorem dX5_count_44 : decode cX5_count 44 = .ok (.aload_n 0, 1) := by decide +kernel
theorem dX5_count_45 : decode cX5_count 45 = .ok (.getfield 26, 3) := by decide +kernel
theorem dX5_count_48 : decode cX5_count 48 = .ok (.getfield 90, 3) := by decide +kernel
theorem dX5_count_51 : decode cX5_count 51 = .ok (.ireturn, 1) := by decide +kernel
theorem dX5_count_52 : decode cX5_count 52 = .ok (.aload_n 0, 1) := by decide +kernel
theorem dX5_count_53 : decode cX5_count 53 = .ok (.getfield 26, 3) := by decide +kernel
theorem dX5_count_56 : decode cX5_count 56 = .ok (.getfield 154, 3) := by decide +kernel
theorem dX5_count_59 : decode cX5_count 59 = .ok (.ireturn, 1) := by decide +kernel
theorem dX5_count_60 : decode cX5_count 60 = .ok (.aload_n 0, 1) := by decide +kernel
theorem dX5_count_61 : decode cX5_count 61 = .ok (.getfield 26, 3) := by decide +kernel
theorem dX5_count_64 : decode cX5_count 64 = .ok (.getfield 118, 3) := by decide +kernel
theorem dX5_count_67 : decode cX5_count 67 = .ok (.ireturn, 1) := by decide +kernel
theorem dX5_count_68 : decode cX5_count 68 = .ok (.aload_n 0, 1) := by decide +kernel
theorem dX5_count_69 : decode cX5_count 69 = .ok (.getfield 12, 3) := by decide +kernel
theorem dX5_count_72 : decode cX5_count 72 = .ok (.getfield 66, 3) := by decide +kernel
theorem dX5_count_75 : decode cX5_count 75 = .ok (.ireturn, 1) := by decide +kernel
theorem dX5_count_76 : decode cX5_count 76 = .ok (.iconst (-1), 1) := by decide +kernel
theorem dX5_count_77 : decode cX5_count 77 = .ok (.ireturn, 1) := by decide +kernel
theorem dX5_trace_0 : decode cX5_trace 0 = .ok (.aload_n 0, 1) := by decide +kernel
theorem dX5_trace_1 : decode cX5_trace 1 = .ok (.getfield 62, 3) := by decide +kernel
theorem dX5_trace_4 : decode cX5_trace 4 = .ok (.lreturn, 1) := by decide +kernel
theorem dX5_isThing_0 : decode cX5_isThing 0 = .ok (.iload_n 0, 1) := by decide +kernel
theorem dX5_isThing_1 : decode cX5_isThing 1 = .ok (.ifCond .lt 12, 3) := by decide +kernel
theorem dX5_isThing_4 : decode cX5_isThing 4 = .ok (.iload_n 0, 1) := by decide +kernel
theorem dX5_isThing_5 : decode cX5_isThing 5 = .ok (.iconst 4, 1) := by decide +kernel
theorem dX5_isThing_6 : decode cX5_isThing 6 = .ok (.if_icmp .ge 7, 3) := by decide +kernel
theorem dX5_isThing_9 : decode cX5_isThing 9 = .ok (.iconst 1, 1) := by decide +kernel
theorem dX5_isThing_10 : decode cX5_isThing 10 = .ok (.goto 4, 3) := by decide +kernel
theorem dX5_isThing_13 : decode cX5_isThing 13 = .ok (.iconst 0, 1) := by decide +kernel
theorem dX5_isThing_14 : decode cX5_isThing 14 = .ok (.ireturn, 1) := by decide +kernel
theorem dX5_isDay_0 : decode cX5_isDay 0 = .ok (.iload_n 0, 1) := by decide +kernel
theorem dX5_isDay_1 : decode cX5_isDay 1 = .ok (.ifCond .lt 13, 3) := by decide +kernel
theorem dX5_isDay_4 : decode cX5_isDay 4 = .ok (.iload_n 0, 1) := by decide +kernel
theorem dX5_isDay_5 : decode cX5_isDay 5 = .ok (.bipush 99, 2) := by decide +kernel
theorem dX5_isDay_7 : decode cX5_isDay 7 = .ok (.if_icmp .gt 7, 3) := by decide +kernel
theorem dX5_isDay_10 : decode cX5_isDay 10 = .ok (.iconst 1, 1) := by decide +kernel
theorem dX5_isDay_11 : decode cX5_isDay 11 = .ok (.goto 4, 3) := by decide +kernel
theorem dX5_isDay_14 : decode cX5_isDay 14 = .ok (.iconst 0, 1) := by decide +kernel
theorem dX5_isDay_15 : decode cX5_isDay 15 = .ok (.ireturn, 1) := by decide +kernel
theorem dX5_isShare_0 : decode cX5_isShare 0 = .ok (.iload_n 0, 1) := by decide +kernel
theorem dX5_isShare_1 : decode cX5_isShare 1 = .ok (.ifCond .lt 23, 3) := by decide +kernel
theorem dX5_isShare_4 : decode cX5_isShare 4 = .ok (.iload_n 1, 1) := by decide +kernel
theorem dX5_isShare_5 : decode cX5_isShare 5 = .ok (.iconst 1, 1) := by decide +kernel
theorem dX5_isShare_6 : decode cX5_isShare 6 = .ok (.if_icmp .lt 18, 3) := by decide +kernel
theorem dX5_isShare_9 : decode cX5_isShare 9 = .ok (.iload_n 1, 1) := by decide +kernel
theorem dX5_isShare_10 : decode cX5_isShare 10 = .ok (.bipush 9, 2) := by decide +kernel
theorem dX5_isShare_12 : decode cX5_isShare 12 = .ok (.if_icmp .gt 12, 3) := by decide +kernel
theorem dX5_isShare_15 : decode cX5_isShare 15 = .ok (.iload_n 0, 1) := by decide +kernel
theorem dX5_isShare_16 : decode cX5_isShare 16 = .ok (.iload_n 1, 1) := by decide +kernel
theorem dX5_isShare_17 : decode cX5_isShare 17 = .ok (.if_icmp .gt 7, 3) := by decide +kernel
theorem dX5_isShare_20 : decode cX5_isShare 20 = .ok (.iconst 1, 1) := by decide +kernel
theorem dX5_isShare_21 : decode cX5_isShare 21 = .ok (.goto 4, 3) := by decide +kernel
theorem dX5_isShare_24 : decode cX5_isShare 24 = .ok (.iconst 0, 1) := by decide +kernel
theorem dX5_isShare_25 : decode cX5_isShare 25 = .ok (.ireturn, 1) := by decide +kernel
theorem dX5_tellStory_0 : decode cX5_tellStory 0 = .ok (.aload_n 0, 1) := by decide +kernel
theorem dX5_tellStory_1 : decode cX5_tellStory 1 = .ok (.getfield 59, 3) := by decide +kernel
theorem dX5_tellStory_4 : decode cX5_tellStory 4 = .ok (.aload_n 0, 1) := by decide +kernel
theorem dX5_tellStory_5 : decode cX5_tellStory 5 = .ok (.getfield 19, 3) := by decide +kernel
theorem dX5_tellStory_8 : decode cX5_tellStory 8 = .ok (.iload_n 1, 1) := by decide +kernel
theorem dX5_tellStory_9 : decode cX5_tellStory 9 = .ok (.invokevirtual 226, 3) := by decide +kernel
theorem dX5_tellStory_12 : decode cX5_tellStory 12 = .ok (.aload_n 0, 1) := by decide +kernel
theorem dX5_tellStory_13 : decode cX5_tellStory 13 = .ok (.getfield 59, 3) := by decide +kernel
theorem dX5_tellStory_16 : decode cX5_tellStory 16 = .ok (.aload_n 0, 1) := by decide +kernel
theorem dX5_tellStory_17 : decode cX5_tellStory 17 = .ok (.getfield 26, 3) := by decide +kernel
theorem dX5_tellStory_20 : decode cX5_tellStory 20 = .ok (.iconst 0, 1) := by decide +kernel
theorem dX5_tellStory_21 : decode cX5_tellStory 21 = .ok (.aload_n 0, 1) := by decide +kernel
theorem dX5_tellStory_22 : decode cX5_tellStory 22 = .ok (.getfield 26, 3) := by decide +kernel
theorem dX5_tellStory_25 : decode cX5_tellStory 25 = .ok (.getfield 90, 3) := by decide +kernel
theorem dX5_tellStory_28 : decode cX5_tellStory 28 = .ok (.iload_n 2, 1) := by decide +kernel
theorem dX5_tellStory_29 : decode cX5_tellStory 29 = .ok (.invokevirtual 230, 3) := by decide +kernel
theorem dX5_tellStory_32 : decode cX5_tellStory 32 = .ok (.return_, 1) := by decide +kernel
theorem dX5_isLawWith_0 : decode cX5_isLawWith 0 = .ok (.aload_n 0, 1) := by decide +kernel
theorem dX5_isLawWith_1 : decode cX5_isLawWith 1 = .ok (.iload_n 1, 1) := by decide +kernel
theorem dX5_isLawWith_2 : decode cX5_isLawWith 2 = .ok (.iload_n 2, 1) := by decide +kernel
theorem dX5_isLawWith_3 : decode cX5_isLawWith 3 = .ok (.invokevirtual 127, 3) := by decide +kernel
theorem dX5_isLawWith_6 : decode cX5_isLawWith 6 = .ok (.aload_n 0, 1) := by decide +kernel
theorem dX5_isLawWith_7 : decode cX5_isLawWith 7 = .ok (.getfield 59, 3) := by decide +kernel
theorem dX5_isLawWith_10 : decode cX5_isLawWith 10 = .ok (.getfield 137, 3) := by decide +kernel
theorem dX5_isLawWith_13 : decode cX5_isLawWith 13 = .ok (.ifCond .eq 7, 3) := by decide +kernel
theorem dX5_isLawWith_16 : decode cX5_isLawWith 16 = .ok (.iconst 1, 1) := by decide +kernel
theorem dX5_isLawWith_17 : decode cX5_isLawWith 17 = .ok (.goto 4, 3) := by decide +kernel
theorem dX5_isLawWith_20 : decode cX5_isLawWith 20 = .ok (.iconst 0, 1) := by decide +kernel
theorem dX5_isLawWith_21 : decode cX5_isLawWith 21 = .ok (.ireturn, 1) := by decide +kernel
theorem dX5_fewestAgainst_0 : decode cX5_fewestAgainst 0 = .ok (.bipush (-9), 2) := by decide +kernel
theorem dX5_fewestAgainst_2 : decode cX5_fewestAgainst 2 = .ok (.istore_n 2, 1) := by decide +kernel
theorem dX5_fewestAgainst_3 : decode cX5_fewestAgainst 3 = .ok (.bipush 7, 2) := by decide +kernel
theorem dX5_fewestAgainst_5 : decode cX5_fewestAgainst 5 = .ok (.istore_n 3, 1) := by decide +kernel
theorem dX5_fewestAgainst_6 : decode cX5_fewestAgainst 6 = .ok (.iconst 1, 1) := by decide +kernel
theorem dX5_fewestAgainst_7 : decode cX5_fewestAgainst 7 = .ok (.aload_n 0, 1) := by decide +kernel
theorem dX5_fewestAgainst_8 : decode cX5_fewestAgainst 8 = .ok (.getfield 26, 3) := by decide +kernel
theorem dX5_fewestAgainst_11 : decode cX5_fewestAgainst 11 = .ok (.getfield 154, 3) := by decide +kernel
theorem dX5_fewestAgainst_14 : decode cX5_fewestAgainst 14 = .ok (.ishl, 1) := by decide +kernel
theorem dX5_fewestAgainst_15 : decode cX5_fewestAgainst 15 = .ok (.istore 4, 2) := by decide +kernel
theorem dX5_fewestAgainst_17 : decode cX5_fewestAgainst 17 = .ok (.iconst 0, 1) := by decide +kernel
theorem dX5_fewestAgainst_18 : decode cX5_fewestAgainst 18 = .ok (.istore 5, 2) := by decide +kernel
theorem dX5_fewestAgainst_20 : decode cX5_fewestAgainst 20 = .ok (.iload 5, 2) := by decide +kernel
theorem dX5_fewestAgainst_22 : decode cX5_fewestAgainst 22 = .ok (.iload 4, 2) := by decide +kernel
theorem dX5_fewestAgainst_24 : decode cX5_fewestAgainst 24 = .ok (.if_icmp .ge 37, 3) := by decide +kernel
theorem dX5_fewestAgainst_27 : decode cX5_fewestAgainst 27 = .ok (.iload 5, 2) := by decide +kernel
theorem dX5_fewestAgainst_29 : decode cX5_fewestAgainst 29 = .ok (.invokestatic 192, 3) := by decide +kernel
theorem dX5_fewestAgainst_32 : decode cX5_fewestAgainst 32 = .ok (.iload_n 3, 1) := by decide +kernel
theorem dX5_fewestAgainst_33 : decode cX5_fewestAgainst 33 = .ok (.if_icmp .ge 22, 3) := by decide +kernel
theorem dX5_fewestAgainst_36 : decode cX5_fewestAgainst 36 = .ok (.aload_n 0, 1) := by decide +kernel
theorem dX5_fewestAgainst_37 : decode cX5_fewestAgainst 37 = .ok (.iload_n 1, 1) := by decide +kernel
theorem dX5_fewestAgainst_38 : decode cX5_fewestAgainst 38 = .ok (.iload 5, 2) := by decide +kernel
theorem dX5_fewestAgainst_40 : decode cX5_fewestAgainst 40 = .ok (.invokevirtual 150, 3) := by decide +kernel
theorem dX5_fewestAgainst_43 : decode cX5_fewestAgainst 43 = .ok (.ifCond .ne 12, 3) := by decide +kernel
theorem dX5_fewestAgainst_46 : decode cX5_fewestAgainst 46 = .ok (.iload 5, 2) := by decide +kernel
theorem dX5_fewestAgainst_48 : decode cX5_fewestAgainst 48 = .ok (.istore_n 2, 1) := by decide +kernel
theorem dX5_fewestAgainst_49 : decode cX5_fewestAgainst 49 = .ok (.iload 5, 2) := by decide +kernel
theorem dX5_fewestAgainst_51 : decode cX5_fewestAgainst 51 = .ok (.invokestatic 192, 3) := by decide +kernel
theorem dX5_fewestAgainst_54 : decode cX5_fewestAgainst 54 = .ok (.istore_n 3, 1) := by decide +kernel
theorem dX5_fewestAgainst_55 : decode cX5_fewestAgainst 55 = .ok (.iinc 5 1, 3) := by decide +kernel
theorem dX5_fewestAgainst_58 : decode cX5_fewestAgainst 58 = .ok (.goto (-38), 3) := by decide +kernel
theorem dX5_fewestAgainst_61 : decode cX5_fewestAgainst 61 = .ok (.iload_n 2, 1) := by decide +kernel
theorem dX5_fewestAgainst_62 : decode cX5_fewestAgainst 62 = .ok (.ireturn, 1) := by decide +kernel
theorem dX5_maybesThatCarry_0 : decode cX5_maybesThatCarry 0 = .ok (.iconst 0, 1) := by decide +kernel
theorem dX5_maybesThatCarry_1 : decode cX5_maybesThatCarry 1 = .ok (.istore_n 2, 1) := by decide +kernel
theorem dX5_maybesThatCarry_2 : decode cX5_maybesThatCarry 2 = .ok (.aload_n 0, 1) := by decide +kernel
theorem dX5_maybesThatCarry_3 : decode cX5_maybesThatCarry 3 = .ok (.getfield 59, 3) := by decide +kernel
theorem dX5_maybesThatCarry_6 : decode cX5_maybesThatCarry 6 = .ok (.aload_n 0, 1) := by decide +kernel
theorem dX5_maybesThatCarry_7 : decode cX5_maybesThatCarry 7 = .ok (.getfield 19, 3) := by decide +kernel
theorem dX5_maybesThatCarry_10 : decode cX5_maybesThatCarry 10 = .ok (.iload_n 1, 1) := by decide +kernel
theorem dX5_maybesThatCarry_11 : decode cX5_maybesThatCarry 11 = .ok (.invokevirtual 226, 3) := by decide +kernel
theorem dX5_maybesThatCarry_14 : decode cX5_maybesThatCarry 14 = .ok (.iconst 0, 1) := by decide +kernel
theorem dX5_maybesThatCarry_15 : decode cX5_maybesThatCarry 15 = .ok (.istore_n 3, 1) := by decide +kernel
theorem dX5_maybesThatCarry_16 : decode cX5_maybesThatCarry 16 = .ok (.iload_n 3, 1) := by decide +kernel
theorem dX5_maybesThatCarry_17 : decode cX5_maybesThatCarry 17 = .ok (.aload_n 0, 1) := by decide +kernel
theorem dX5_maybesThatCarry_18 : decode cX5_maybesThatCarry 18 = .ok (.getfield 26, 3) := by decide +kernel
theorem dX5_maybesThatCarry_21 : decode cX5_maybesThatCarry 21 = .ok (.getfield 90, 3) := by decide +kernel
theorem dX5_maybesThatCarry_24 : decode cX5_maybesThatCarry 24 = .ok (.if_icmp .ge 70, 3) := by decide +kernel
theorem dX5_maybesThatCarry_27 : decode cX5_maybesThatCarry 27 = .ok (.aload_n 0, 1) := by decide +kernel
theorem dX5_maybesThatCarry_28 : decode cX5_maybesThatCarry 28 = .ok (.getfield 26, 3) := by decide +kernel
theorem dX5_maybesThatCarry_31 : decode cX5_maybesThatCarry 31 = .ok (.getfield 91, 3) := by decide +kernel
theorem dX5_maybesThatCarry_34 : decode cX5_maybesThatCarry 34 = .ok (.iload_n 3, 1) := by decide +kernel
theorem dX5_maybesThatCarry_35 : decode cX5_maybesThatCarry 35 = .ok (.iaload, 1) := by decide +kernel
theorem dX5_maybesThatCarry_36 : decode cX5_maybesThatCarry 36 = .ok (.iconst 1, 1) := by decide +kernel
theorem dX5_maybesThatCarry_37 : decode cX5_maybesThatCarry 37 = .ok (.if_icmp .ne 35, 3) := by decide +kernel
theorem dX5_maybesThatCarry_40 : decode cX5_maybesThatCarry 40 = .ok (.aload_n 0, 1) := by decide +kernel
theorem dX5_maybesThatCarry_41 : decode cX5_maybesThatCarry 41 = .ok (.getfield 59, 3) := by decide +kernel
theorem dX5_maybesThatCarry_44 : decode cX5_maybesThatCarry 44 = .ok (.getfield 131, 3) := by decide +kernel
theorem dX5_maybesThatCarry_47 : decode cX5_maybesThatCarry 47 = .ok (.aload_n 0, 1) := by decide +kernel
theorem dX5_maybesThatCarry_48 : decode cX5_maybesThatCarry 48 = .ok (.getfield 26, 3) := by decide +kernel
theorem dX5_maybesThatCarry_51 : decode cX5_maybesThatCarry 51 = .ok (.getfield 98, 3) := by decide +kernel
theorem dX5_maybesThatCarry_54 : decode cX5_maybesThatCarry 54 = .ok (.iload_n 3, 1) := by decide +kernel
theorem dX5_maybesThatCarry_55 : decode cX5_maybesThatCarry 55 = .ok (.iaload, 1) := by decide +kernel
theorem dX5_maybesThatCarry_56 : decode cX5_maybesThatCarry 56 = .ok (.iaload, 1) := by decide +kernel
theorem dX5_maybesThatCarry_57 : decode cX5_maybesThatCarry 57 = .ok (.ifCond .eq 15, 3) := by decide +kernel
theorem dX5_maybesThatCarry_60 : decode cX5_maybesThatCarry 60 = .ok (.iload_n 2, 1) := by decide +kernel
theorem dX5_maybesThatCarry_61 : decode cX5_maybesThatCarry 61 = .ok (.aload_n 0, 1) := by decide +kernel
theorem dX5_maybesThatCarry_62 : decode cX5_maybesThatCarry 62 = .ok (.getfield 26, 3) := by decide +kernel
theorem dX5_maybesThatCarry_65 : decode cX5_maybesThatCarry 65 = .ok (.getfield 234, 3) := by decide +kernel
theorem dX5_maybesThatCarry_68 : decode cX5_maybesThatCarry 68 = .ok (.iload_n 3, 1) := by decide +kernel
theorem dX5_maybesThatCarry_69 : decode cX5_maybesThatCarry 69 = .ok (.iaload, 1) := by decide +kernel
theorem dX5_maybesThatCarry_70 : decode cX5_maybesThatCarry 70 = .ok (.ior, 1) := by decide +kernel
theorem dX5_maybesThatCarry_71 : decode cX5_maybesThatCarry 71 = .ok (.istore_n 2, 1) := by decide +kernel
theorem dX5_maybesThatCarry_72 : decode cX5_maybesThatCarry 72 = .ok (.aload_n 0, 1) := by decide +kernel
theorem dX5_maybesThatCarry_73 : decode cX5_maybesThatCarry 73 = .ok (.getfield 59, 3) := by decide +kernel
theorem dX5_maybesThatCarry_76 : decode cX5_maybesThatCarry 76 = .ok (.aload_n 0, 1) := by decide +kernel
theorem dX5_maybesThatCarry_77 : decode cX5_maybesThatCarry 77 = .ok (.getfield 26, 3) := by decide +kernel
theorem dX5_maybesThatCarry_80 : decode cX5_maybesThatCarry 80 = .ok (.iload_n 3, 1) := by decide +kernel
theorem dX5_maybesThatCarry_81 : decode cX5_maybesThatCarry 81 = .ok (.iload_n 3, 1) := by decide +kernel
theorem dX5_maybesThatCarry_82 : decode cX5_maybesThatCarry 82 = .ok (.iconst 1, 1) := by decide +kernel
theorem dX5_maybesThatCarry_83 : decode cX5_maybesThatCarry 83 = .ok (.iadd, 1) := by decide +kernel
theorem dX5_maybesThatCarry_84 : decode cX5_maybesThatCarry 84 = .ok (.iconst 0, 1) := by decide +kernel
theorem dX5_maybesThatCarry_85 : decode cX5_maybesThatCarry 85 = .ok (.invokevirtual 230, 3) := by decide +kernel
theorem dX5_maybesThatCarry_88 : decode cX5_maybesThatCarry 88 = .ok (.iinc 3 1, 3) := by decide +kernel
theorem dX5_maybesThatCarry_91 : decode cX5_maybesThatCarry 91 = .ok (.goto (-75), 3) := by decide +kernel
theorem dX5_maybesThatCarry_94 : decode cX5_maybesThatCarry 94 = .ok (.iload_n 2, 1) := by decide +kernel
theorem dX5_maybesThatCarry_95 : decode cX5_maybesThatCarry 95 = .ok (.ireturn, 1) := by decide +kernel
theorem dX5_tellAhead_0 : decode cX5_tellAhead 0 = .ok (.aload_n 0, 1) := by decide +kernel
theorem dX5_tellAhead_1 : decode cX5_tellAhead 1 = .ok (.getfield 55, 3) := by decide +kernel
theorem dX5_tellAhead_4 : decode cX5_tellAhead 4 = .ok (.aload_n 0, 1) := by decide +kernel
theorem dX5_tellAhead_5 : decode cX5_tellAhead 5 = .ok (.getfield 19, 3) := by decide +kernel
theorem dX5_tellAhead_8 : decode cX5_tellAhead 8 = .ok (.iload_n 1, 1) := by decide +kernel
theorem dX5_tellAhead_9 : decode cX5_tellAhead 9 = .ok (.invokevirtual 226, 3) := by decide +kernel
theorem dX5_tellAhead_12 : decode cX5_tellAhead 12 = .ok (.aload_n 0, 1) := by decide +kernel
theorem dX5_tellAhead_13 : decode cX5_tellAhead 13 = .ok (.getfield 55, 3) := by decide +kernel
theorem dX5_tellAhead_16 : decode cX5_tellAhead 16 = .ok (.aload_n 0, 1) := by decide +kernel
theorem dX5_tellAhead_17 : decode cX5_tellAhead 17 = .ok (.getfield 26, 3) := by decide +kernel
theorem dX5_tellAhead_20 : decode cX5_tellAhead 20 = .ok (.iconst 0, 1) := by decide +kernel
theorem dX5_tellAhead_21 : decode cX5_tellAhead 21 = .ok (.aload_n 0, 1) := by decide +kernel
theorem dX5_tellAhead_22 : decode cX5_tellAhead 22 = .ok (.getfield 26, 3) := by decide +kernel
theorem dX5_tellAhead_25 : decode cX5_tellAhead 25 = .ok (.iload_n 2, 1) := by decide +kernel
theorem dX5_tellAhead_26 : decode cX5_tellAhead 26 = .ok (.invokevirtual 170, 3) := by decide +kernel
theorem dX5_tellAhead_29 : decode cX5_tellAhead 29 = .ok (.iconst 0, 1) := by decide +kernel
theorem dX5_tellAhead_30 : decode cX5_tellAhead 30 = .ok (.invokevirtual 230, 3) := by decide +kernel
theorem dX5_tellAhead_33 : decode cX5_tellAhead 33 = .ok (.return_, 1) := by decide +kernel
theorem dX5_isLawIf_0 : decode cX5_isLawIf 0 = .ok (.aload_n 0, 1) := by decide +kernel
theorem dX5_isLawIf_1 : decode cX5_isLawIf 1 = .ok (.getfield 59, 3) := by decide +kernel
theorem dX5_isLawIf_4 : decode cX5_isLawIf 4 = .ok (.aload_n 0, 1) := by decide +kernel
theorem dX5_isLawIf_5 : decode cX5_isLawIf 5 = .ok (.getfield 55, 3) := by decide +kernel
theorem dX5_isLawIf_8 : decode cX5_isLawIf 8 = .ok (.invokevirtual 237, 3) := by decide +kernel
theorem dX5_isLawIf_11 : decode cX5_isLawIf 11 = .ok (.iconst 0, 1) := by decide +kernel
theorem dX5_isLawIf_12 : decode cX5_isLawIf 12 = .ok (.istore 4, 2) := by decide +kernel
theorem dX5_isLawIf_14 : decode cX5_isLawIf 14 = .ok (.iload 4, 2) := by decide +kernel
theorem dX5_isLawIf_16 : decode cX5_isLawIf 16 = .ok (.aload_n 0, 1) := by decide +kernel
theorem dX5_isLawIf_17 : decode cX5_isLawIf 17 = .ok (.getfield 19, 3) := by decide +kernel
theorem dX5_isLawIf_20 : decode cX5_isLawIf 20 = .ok (.getfield 225, 3) := by decide +kernel
theorem dX5_isLawIf_23 : decode cX5_isLawIf 23 = .ok (.if_icmp .ge 29, 3) := by decide +kernel
theorem dX5_isLawIf_26 : decode cX5_isLawIf 26 = .ok (.iload_n 1, 1) := by decide +kernel
theorem dX5_isLawIf_27 : decode cX5_isLawIf 27 = .ok (.iload 4, 2) := by decide +kernel
theorem dX5_isLawIf_29 : decode cX5_isLawIf 29 = .ok (.ishr, 1) := by decide +kernel
theorem dX5_isLawIf_30 : decode cX5_isLawIf 30 = .ok (.iconst 1, 1) := by decide +kernel
theorem dX5_isLawIf_31 : decode cX5_isLawIf 31 = .ok (.iand, 1) := by decide +kernel
theorem dX5_isLawIf_32 : decode cX5_isLawIf 32 = .ok (.ifCond .eq 14, 3) := by decide +kernel
theorem dX5_isLawIf_35 : decode cX5_isLawIf 35 = .ok (.aload_n 0, 1) := by decide +kernel
theorem dX5_isLawIf_36 : decode cX5_isLawIf 36 = .ok (.getfield 59, 3) := by decide +kernel
theorem dX5_isLawIf_39 : decode cX5_isLawIf 39 = .ok (.iload 4, 2) := by decide +kernel
theorem dX5_isLawIf_41 : decode cX5_isLawIf 41 = .ok (.iload_n 2, 1) := by decide +kernel
theorem dX5_isLawIf_42 : decode cX5_isLawIf 42 = .ok (.invokevirtual 240, 3) := by decide +kernel
theorem dX5_isLawIf_45 : decode cX5_isLawIf 45 = .ok (.pop, 1) := by decide +kernel
theorem dX5_isLawIf_46 : decode cX5_isLawIf 46 = .ok (.iinc 4 1, 3) := by decide +kernel
theorem dX5_isLawIf_49 : decode cX5_isLawIf 49 = .ok (.goto (-35), 3) := by decide +kernel
theorem dX5_isLawIf_52 : decode cX5_isLawIf 52 = .ok (.aload_n 0, 1) := by decide +kernel
theorem dX5_isLawIf_53 : decode cX5_isLawIf 53 = .ok (.getfield 59, 3) := by decide +kernel
theorem dX5_isLawIf_56 : decode cX5_isLawIf 56 = .ok (.aload_n 0, 1) := by decide +kernel
theorem dX5_isLawIf_57 : decode cX5_isLawIf 57 = .ok (.getfield 26, 3) := by decide +kernel
theorem dX5_isLawIf_60 : decode cX5_isLawIf 60 = .ok (.iload_n 3, 1) := by decide +kernel
theorem dX5_isLawIf_61 : decode cX5_isLawIf 61 = .ok (.aload_n 0, 1) := by decide +kernel
theorem dX5_isLawIf_62 : decode cX5_isLawIf 62 = .ok (.getfield 26, 3) := by decide +kernel
theorem dX5_isLawIf_65 : decode cX5_isLawIf 65 = .ok (.getfield 90, 3) := by decide +kernel
theorem dX5_isLawIf_68 : decode cX5_isLawIf 68 = .ok (.iconst 0, 1) := by decide +kernel
theorem dX5_isLawIf_69 : decode cX5_isLawIf 69 = .ok (.invokevirtual 230, 3) := by decide +kernel
theorem dX5_isLawIf_72 : decode cX5_isLawIf 72 = .ok (.aload_n 0, 1) := by decide +kernel
theorem dX5_isLawIf_73 : decode cX5_isLawIf 73 = .ok (.getfield 59, 3) := by decide +kernel
theorem dX5_isLawIf_76 : decode cX5_isLawIf 76 = .ok (.invokevirtual 244, 3) := by decide +kernel
theorem dX5_isLawIf_79 : decode cX5_isLawIf 79 = .ok (.ifCond .eq 7, 3) := by decide +kernel
theorem dX5_isLawIf_82 : decode cX5_isLawIf 82 = .ok (.iconst 1, 1) := by decide +kernel
theorem dX5_isLawIf_83 : decode cX5_isLawIf 83 = .ok (.goto 4, 3) := by decide +kernel
theorem dX5_isLawIf_86 : decode cX5_isLawIf 86 = .ok (.iconst 0, 1) := by decide +kernel
theorem dX5_isLawIf_87 : decode cX5_isLawIf 87 = .ok (.ireturn, 1) := by decide +kernel
theorem dX5_fewestChosen_0 : decode cX5_fewestChosen 0 = .ok (.aload_n 0, 1) := by decide +kernel
theorem dX5_fewestChosen_1 : decode cX5_fewestChosen 1 = .ok (.iload_n 1, 1) := by decide +kernel
theorem dX5_fewestChosen_2 : decode cX5_fewestChosen 2 = .ok (.iload_n 2, 1) := by decide +kernel
theorem dX5_fewestChosen_3 : decode cX5_fewestChosen 3 = .ok (.invokevirtual 167, 3) := by decide +kernel
theorem dX5_fewestChosen_6 : decode cX5_fewestChosen 6 = .ok (.aload_n 0, 1) := by decide +kernel
theorem dX5_fewestChosen_7 : decode cX5_fewestChosen 7 = .ok (.getfield 26, 3) := by decide +kernel
theorem dX5_fewestChosen_10 : decode cX5_fewestChosen 10 = .ok (.iload_n 2, 1) := by decide +kernel
theorem dX5_fewestChosen_11 : decode cX5_fewestChosen 11 = .ok (.invokevirtual 170, 3) := by decide +kernel
theorem dX5_fewestChosen_14 : decode cX5_fewestChosen 14 = .ok (.istore 4, 2) := by decide +kernel
theorem dX5_fewestChosen_16 : decode cX5_fewestChosen 16 = .ok (.bipush (-9), 2) := by decide +kernel
theorem dX5_fewestChosen_18 : decode cX5_fewestChosen 18 = .ok (.istore 5, 2) := by decide +kernel
theorem dX5_fewestChosen_20 : decode cX5_fewestChosen 20 = .ok (.bipush 9, 2) := by decide +kernel
theorem dX5_fewestChosen_22 : decode cX5_fewestChosen 22 = .ok (.istore 6, 2) := by decide +kernel
theorem dX5_fewestChosen_24 : decode cX5_fewestChosen 24 = .ok (.iconst 1, 1) := by decide +kernel
theorem dX5_fewestChosen_25 : decode cX5_fewestChosen 25 = .ok (.aload_n 0, 1) := by decide +kernel
theorem dX5_fewestChosen_26 : decode cX5_fewestChosen 26 = .ok (.getfield 19, 3) := by decide +kernel
theorem dX5_fewestChosen_29 : decode cX5_fewestChosen 29 = .ok (.getfield 225, 3) := by decide +kernel
theorem dX5_fewestChosen_32 : decode cX5_fewestChosen 32 = .ok (.ishl, 1) := by decide +kernel
theorem dX5_fewestChosen_33 : decode cX5_fewestChosen 33 = .ok (.istore 7, 2) := by decide +kernel
theorem dX5_fewestChosen_35 : decode cX5_fewestChosen 35 = .ok (.iconst 0, 1) := by decide +kernel
theorem dX5_fewestChosen_36 : decode cX5_fewestChosen 36 = .ok (.istore 8, 2) := by decide +kernel
theorem dX5_fewestChosen_38 : decode cX5_fewestChosen 38 = .ok (.iload 8, 2) := by decide +kernel
theorem dX5_fewestChosen_40 : decode cX5_fewestChosen 40 = .ok (.iload 7, 2) := by decide +kernel
theorem dX5_fewestChosen_42 : decode cX5_fewestChosen 42 = .ok (.if_icmp .ge 43, 3) := by decide +kernel
theorem dX5_fewestChosen_45 : decode cX5_fewestChosen 45 = .ok (.iload 8, 2) := by decide +kernel
theorem dX5_fewestChosen_47 : decode cX5_fewestChosen 47 = .ok (.invokestatic 192, 3) := by decide +kernel
theorem dX5_fewestChosen_50 : decode cX5_fewestChosen 50 = .ok (.iload 6, 2) := by decide +kernel
theorem dX5_fewestChosen_52 : decode cX5_fewestChosen 52 = .ok (.if_icmp .ge 27, 3) := by decide +kernel
theorem dX5_fewestChosen_55 : decode cX5_fewestChosen 55 = .ok (.aload_n 0, 1) := by decide +kernel
theorem dX5_fewestChosen_56 : decode cX5_fewestChosen 56 = .ok (.iload 8, 2) := by decide +kernel
theorem dX5_fewestChosen_58 : decode cX5_fewestChosen 58 = .ok (.iload_n 3, 1) := by decide +kernel
theorem dX5_fewestChosen_59 : decode cX5_fewestChosen 59 = .ok (.iload 4, 2) := by decide +kernel
theorem dX5_fewestChosen_61 : decode cX5_fewestChosen 61 = .ok (.invokevirtual 188, 3) := by decide +kernel
theorem dX5_fewestChosen_64 : decode cX5_fewestChosen 64 = .ok (.iload_n 3, 1) := by decide +kernel
theorem dX5_fewestChosen_65 : decode cX5_fewestChosen 65 = .ok (.if_icmp .ne 14, 3) := by decide +kernel
theorem dX5_fewestChosen_68 : decode cX5_fewestChosen 68 = .ok (.iload 8, 2) := by decide +kernel
theorem dX5_fewestChosen_70 : decode cX5_fewestChosen 70 = .ok (.istore 5, 2) := by decide +kernel
theorem dX5_fewestChosen_72 : decode cX5_fewestChosen 72 = .ok (.iload 8, 2) := by decide +kernel
theorem dX5_fewestChosen_74 : decode cX5_fewestChosen 74 = .ok (.invokestatic 192, 3) := by decide +kernel
theorem dX5_fewestChosen_77 : decode cX5_fewestChosen 77 = .ok (.istore 6, 2) := by decide +kernel
theorem dX5_fewestChosen_79 : decode cX5_fewestChosen 79 = .ok (.iinc 8 1, 3) := by decide +kernel
theorem dX5_fewestChosen_82 : decode cX5_fewestChosen 82 = .ok (.goto (-44), 3) := by decide +kernel
theorem dX5_fewestChosen_85 : decode cX5_fewestChosen 85 = .ok (.iload 5, 2) := by decide +kernel
theorem dX5_fewestChosen_87 : decode cX5_fewestChosen 87 = .ok (.ireturn, 1) := by decide +kernel
theorem dX5_isLawByTurns_0 : decode cX5_isLawByTurns 0 = .ok (.iload_n 1, 1) := by decide +kernel
theorem dX5_isLawByTurns_1 : decode cX5_isLawByTurns 1 = .ok (.ifCond .gt 11, 3) := by decide +kernel
theorem dX5_isLawByTurns_4 : decode cX5_isLawByTurns 4 = .ok (.aload_n 0, 1) := by decide +kernel
theorem dX5_isLawByTurns_5 : decode cX5_isLawByTurns 5 = .ok (.iconst 0, 1) := by decide +kernel
theorem dX5_isLawByTurns_6 : decode cX5_isLawByTurns 6 = .ok (.iconst 1, 1) := by decide +kernel
theorem dX5_isLawByTurns_7 : decode cX5_isLawByTurns 7 = .ok (.iload_n 2, 1) := by decide +kernel
theorem dX5_isLawByTurns_8 : decode cX5_isLawByTurns 8 = .ok (.invokevirtual 188, 3) := by decide +kernel
theorem dX5_isLawByTurns_11 : decode cX5_isLawByTurns 11 = .ok (.ireturn, 1) := by decide +kernel
theorem dX5_isLawByTurns_12 : decode cX5_isLawByTurns 12 = .ok (.iload_n 1, 1) := by decide +kernel
theorem dX5_isLawByTurns_13 : decode cX5_isLawByTurns 13 = .ok (.iconst 2, 1) := by decide +kernel
theorem dX5_isLawByTurns_14 : decode cX5_isLawByTurns 14 = .ok (.irem, 1) := by decide +kernel
theorem dX5_isLawByTurns_15 : decode cX5_isLawByTurns 15 = .ok (.ifCond .ne 7, 3) := by decide +kernel
theorem dX5_isLawByTurns_18 : decode cX5_isLawByTurns 18 = .ok (.iconst 1, 1) := by decide +kernel
theorem dX5_isLawByTurns_19 : decode cX5_isLawByTurns 19 = .ok (.goto 4, 3) := by decide +kernel
theorem dX5_isLawByTurns_22 : decode cX5_isLawByTurns 22 = .ok (.iconst 0, 1) := by decide +kernel
theorem dX5_isLawByTurns_23 : decode cX5_isLawByTurns 23 = .ok (.istore_n 3, 1) := by decide +kernel
theorem dX5_isLawByTurns_24 : decode cX5_isLawByTurns 24 = .ok (.aload_n 0, 1) := by decide +kernel
theorem dX5_isLawByTurns_25 : decode cX5_isLawByTurns 25 = .ok (.iload_n 1, 1) := by decide +kernel
theorem dX5_isLawByTurns_26 : decode cX5_isLawByTurns 26 = .ok (.iconst 1, 1) := by decide +kernel
theorem dX5_isLawByTurns_27 : decode cX5_isLawByTurns 27 = .ok (.isub, 1) := by decide +kernel
theorem dX5_isLawByTurns_28 : decode cX5_isLawByTurns 28 = .ok (.iload_n 2, 1) := by decide +kernel
theorem dX5_isLawByTurns_29 : decode cX5_isLawByTurns 29 = .ok (.invokevirtual 173, 3) := by decide +kernel
theorem dX5_isLawByTurns_32 : decode cX5_isLawByTurns 32 = .ok (.iload_n 3, 1) := by decide +kernel
theorem dX5_isLawByTurns_33 : decode cX5_isLawByTurns 33 = .ok (.if_icmp .ne 7, 3) := by decide +kernel
theorem dX5_isLawByTurns_36 : decode cX5_isLawByTurns 36 = .ok (.iconst 1, 1) := by decide +kernel
theorem dX5_isLawByTurns_37 : decode cX5_isLawByTurns 37 = .ok (.goto 4, 3) := by decide +kernel
theorem dX5_isLawByTurns_40 : decode cX5_isLawByTurns 40 = .ok (.iconst 0, 1) := by decide +kernel
theorem dX5_isLawByTurns_41 : decode cX5_isLawByTurns 41 = .ok (.istore 4, 2) := by decide +kernel
theorem dX5_isLawByTurns_43 : decode cX5_isLawByTurns 43 = .ok (.iconst 0, 1) := by decide +kernel
theorem dX5_isLawByTurns_44 : decode cX5_isLawByTurns 44 = .ok (.istore 5, 2) := by decide +kernel
theorem dX5_isLawByTurns_46 : decode cX5_isLawByTurns 46 = .ok (.iload 5, 2) := by decide +kernel
theorem dX5_isLawByTurns_48 : decode cX5_isLawByTurns 48 = .ok (.aload_n 0, 1) := by decide +kernel
theorem dX5_isLawByTurns_49 : decode cX5_isLawByTurns 49 = .ok (.getfield 19, 3) := by decide +kernel
theorem dX5_isLawByTurns_52 : decode cX5_isLawByTurns 52 = .ok (.getfield 225, 3) := by decide +kernel
theorem dX5_isLawByTurns_55 : decode cX5_isLawByTurns 55 = .ok (.if_icmp .ge 24, 3) := by decide +kernel
theorem dX5_isLawByTurns_58 : decode cX5_isLawByTurns 58 = .ok (.iload 4, 2) := by decide +kernel
theorem dX5_isLawByTurns_60 : decode cX5_isLawByTurns 60 = .ok (.ifCond .ne 19, 3) := by decide +kernel
theorem dX5_isLawByTurns_63 : decode cX5_isLawByTurns 63 = .ok (.aload_n 0, 1) := by decide +kernel
theorem dX5_isLawByTurns_64 : decode cX5_isLawByTurns 64 = .ok (.iload 5, 2) := by decide +kernel
theorem dX5_isLawByTurns_66 : decode cX5_isLawByTurns 66 = .ok (.iload_n 1, 1) := by decide +kernel
theorem dX5_isLawByTurns_67 : decode cX5_isLawByTurns 67 = .ok (.iload_n 2, 1) := by decide +kernel
theorem dX5_isLawByTurns_68 : decode cX5_isLawByTurns 68 = .ok (.invokevirtual 247, 3) := by decide +kernel
theorem dX5_isLawByTurns_71 : decode cX5_isLawByTurns 71 = .ok (.istore 4, 2) := by decide +kernel
theorem dX5_isLawByTurns_73 : decode cX5_isLawByTurns 73 = .ok (.iinc 5 1, 3) := by decide +kernel
theorem dX5_isLawByTurns_76 : decode cX5_isLawByTurns 76 = .ok (.goto (-30), 3) := by decide +kernel
theorem dX5_isLawByTurns_79 : decode cX5_isLawByTurns 79 = .ok (.iload 4, 2) := by decide +kernel
theorem dX5_isLawByTurns_81 : decode cX5_isLawByTurns 81 = .ok (.iload_n 3, 1) := by decide +kernel
theorem dX5_isLawByTurns_82 : decode cX5_isLawByTurns 82 = .ok (.if_icmp .ne 7, 3) := by decide +kernel
theorem dX5_isLawByTurns_85 : decode cX5_isLawByTurns 85 = .ok (.iconst 1, 1) := by decide +kernel
theorem dX5_isLawByTurns_86 : decode cX5_isLawByTurns 86 = .ok (.goto 4, 3) := by decide +kernel
theorem dX5_isLawByTurns_89 : decode cX5_isLawByTurns 89 = .ok (.iconst 0, 1) := by decide +kernel
theorem dX5_isLawByTurns_90 : decode cX5_isLawByTurns 90 = .ok (.ireturn, 1) := by decide +kernel
theorem dX5_isReachedBy_0 : decode cX5_isReachedBy 0 = .ok (.iload_n 2, 1) := by decide +kernel
theorem dX5_isReachedBy_1 : decode cX5_isReachedBy 1 = .ok (.iconst 2, 1) := by decide +kernel
theorem dX5_isReachedBy_2 : decode cX5_isReachedBy 2 = .ok (.irem, 1) := by decide +kernel
theorem dX5_isReachedBy_3 : decode cX5_isReachedBy 3 = .ok (.ifCond .ne 7, 3) := by decide +kernel
theorem dX5_isReachedBy_6 : decode cX5_isReachedBy 6 = .ok (.iconst 1, 1) := by decide +kernel
theorem dX5_isReachedBy_7 : decode cX5_isReachedBy 7 = .ok (.goto 4, 3) := by decide +kernel
theorem dX5_isReachedBy_10 : decode cX5_isReachedBy 10 = .ok (.iconst 0, 1) := by decide +kernel
theorem dX5_isReachedBy_11 : decode cX5_isReachedBy 11 = .ok (.istore 4, 2) := by decide +kernel
theorem dX5_isReachedBy_13 : decode cX5_isReachedBy 13 = .ok (.aload_n 0, 1) := by decide +kernel
theorem dX5_isReachedBy_14 : decode cX5_isReachedBy 14 = .ok (.getfield 55, 3) := by decide +kernel
theorem dX5_isReachedBy_17 : decode cX5_isReachedBy 17 = .ok (.getfield 131, 3) := by decide +kernel
theorem dX5_isReachedBy_20 : decode cX5_isReachedBy 20 = .ok (.iload_n 1, 1) := by decide +kernel
theorem dX5_isReachedBy_21 : decode cX5_isReachedBy 21 = .ok (.iaload, 1) := by decide +kernel
theorem dX5_isReachedBy_22 : decode cX5_isReachedBy 22 = .ok (.istore 5, 2) := by decide +kernel
theorem dX5_isReachedBy_24 : decode cX5_isReachedBy 24 = .ok (.aload_n 0, 1) := by decide +kernel
theorem dX5_isReachedBy_25 : decode cX5_isReachedBy 25 = .ok (.getfield 55, 3) := by decide +kernel
theorem dX5_isReachedBy_28 : decode cX5_isReachedBy 28 = .ok (.getfield 134, 3) := by decide +kernel
theorem dX5_isReachedBy_31 : decode cX5_isReachedBy 31 = .ok (.iload_n 1, 1) := by decide +kernel
theorem dX5_isReachedBy_32 : decode cX5_isReachedBy 32 = .ok (.iaload, 1) := by decide +kernel
theorem dX5_isReachedBy_33 : decode cX5_isReachedBy 33 = .ok (.istore 6, 2) := by decide +kernel
theorem dX5_isReachedBy_35 : decode cX5_isReachedBy 35 = .ok (.aload_n 0, 1) := by decide +kernel
theorem dX5_isReachedBy_36 : decode cX5_isReachedBy 36 = .ok (.getfield 55, 3) := by decide +kernel
theorem dX5_isReachedBy_39 : decode cX5_isReachedBy 39 = .ok (.iload_n 1, 1) := by decide +kernel
theorem dX5_isReachedBy_40 : decode cX5_isReachedBy 40 = .ok (.iload 4, 2) := by decide +kernel
theorem dX5_isReachedBy_42 : decode cX5_isReachedBy 42 = .ok (.invokevirtual 240, 3) := by decide +kernel
theorem dX5_isReachedBy_45 : decode cX5_isReachedBy 45 = .ok (.ifCond .ne 5, 3) := by decide +kernel
theorem dX5_isReachedBy_48 : decode cX5_isReachedBy 48 = .ok (.iconst 0, 1) := by decide +kernel
theorem dX5_isReachedBy_49 : decode cX5_isReachedBy 49 = .ok (.ireturn, 1) := by decide +kernel
theorem dX5_isReachedBy_50 : decode cX5_isReachedBy 50 = .ok (.aload_n 0, 1) := by decide +kernel
theorem dX5_isReachedBy_51 : decode cX5_isReachedBy 51 = .ok (.iload_n 2, 1) := by decide +kernel
theorem dX5_isReachedBy_52 : decode cX5_isReachedBy 52 = .ok (.iconst 1, 1) := by decide +kernel
theorem dX5_isReachedBy_53 : decode cX5_isReachedBy 53 = .ok (.isub, 1) := by decide +kernel
theorem dX5_isReachedBy_54 : decode cX5_isReachedBy 54 = .ok (.iload_n 3, 1) := by decide +kernel
theorem dX5_isReachedBy_55 : decode cX5_isReachedBy 55 = .ok (.invokevirtual 173, 3) := by decide +kernel
theorem dX5_isReachedBy_58 : decode cX5_isReachedBy 58 = .ok (.istore 7, 2) := by decide +kernel
theorem dX5_isReachedBy_60 : decode cX5_isReachedBy 60 = .ok (.aload_n 0, 1) := by decide +kernel
theorem dX5_isReachedBy_61 : decode cX5_isReachedBy 61 = .ok (.getfield 55, 3) := by decide +kernel
theorem dX5_isReachedBy_64 : decode cX5_isReachedBy 64 = .ok (.getfield 131, 3) := by decide +kernel
theorem dX5_isReachedBy_67 : decode cX5_isReachedBy 67 = .ok (.iload_n 1, 1) := by decide +kernel
theorem dX5_isReachedBy_68 : decode cX5_isReachedBy 68 = .ok (.iload 5, 2) := by decide +kernel
theorem dX5_isReachedBy_70 : decode cX5_isReachedBy 70 = .ok (.iastore, 1) := by decide +kernel
theorem dX5_isReachedBy_71 : decode cX5_isReachedBy 71 = .ok (.aload_n 0, 1) := by decide +kernel
theorem dX5_isReachedBy_72 : decode cX5_isReachedBy 72 = .ok (.getfield 55, 3) := by decide +kernel
theorem dX5_isReachedBy_75 : decode cX5_isReachedBy 75 = .ok (.getfield 134, 3) := by decide +kernel
theorem dX5_isReachedBy_78 : decode cX5_isReachedBy 78 = .ok (.iload_n 1, 1) := by decide +kernel
theorem dX5_isReachedBy_79 : decode cX5_isReachedBy 79 = .ok (.iload 6, 2) := by decide +kernel
theorem dX5_isReachedBy_81 : decode cX5_isReachedBy 81 = .ok (.iastore, 1) := by decide +kernel
theorem dX5_isReachedBy_82 : decode cX5_isReachedBy 82 = .ok (.iload 7, 2) := by decide +kernel
theorem dX5_isReachedBy_84 : decode cX5_isReachedBy 84 = .ok (.iload 4, 2) := by decide +kernel
theorem dX5_isReachedBy_86 : decode cX5_isReachedBy 86 = .ok (.if_icmp .ne 7, 3) := by decide +kernel
theorem dX5_isReachedBy_89 : decode cX5_isReachedBy 89 = .ok (.iconst 1, 1) := by decide +kernel
theorem dX5_isReachedBy_90 : decode cX5_isReachedBy 90 = .ok (.goto 4, 3) := by decide +kernel
theorem dX5_isReachedBy_93 : decode cX5_isReachedBy 93 = .ok (.iconst 0, 1) := by decide +kernel
theorem dX5_isReachedBy_94 : decode cX5_isReachedBy 94 = .ok (.ireturn, 1) := by decide +kernel
theorem dX5_thingsHadAt_0 : decode cX5_thingsHadAt 0 = .ok (.iconst 0, 1) := by decide +kernel
theorem dX5_thingsHadAt_1 : decode cX5_thingsHadAt 1 = .ok (.istore 4, 2) := by decide +kernel
theorem dX5_thingsHadAt_3 : decode cX5_thingsHadAt 3 = .ok (.aload_n 0, 1) := by decide +kernel
theorem dX5_thingsHadAt_4 : decode cX5_thingsHadAt 4 = .ok (.getfield 26, 3) := by decide +kernel
theorem dX5_thingsHadAt_7 : decode cX5_thingsHadAt 7 = .ok (.iload_n 2, 1) := by decide +kernel
theorem dX5_thingsHadAt_8 : decode cX5_thingsHadAt 8 = .ok (.invokevirtual 170, 3) := by decide +kernel
theorem dX5_thingsHadAt_11 : decode cX5_thingsHadAt 11 = .ok (.istore 5, 2) := by decide +kernel
theorem dX5_thingsHadAt_13 : decode cX5_thingsHadAt 13 = .ok (.iconst 0, 1) := by decide +kernel
theorem dX5_thingsHadAt_14 : decode cX5_thingsHadAt 14 = .ok (.istore 6, 2) := by decide +kernel
theorem dX5_thingsHadAt_16 : decode cX5_thingsHadAt 16 = .ok (.iload 6, 2) := by decide +kernel
theorem dX5_thingsHadAt_18 : decode cX5_thingsHadAt 18 = .ok (.iconst 4, 1) := by decide +kernel
theorem dX5_thingsHadAt_19 : decode cX5_thingsHadAt 19 = .ok (.if_icmp .ge 82, 3) := by decide +kernel
theorem dX5_thingsHadAt_22 : decode cX5_thingsHadAt 22 = .ok (.aload_n 0, 1) := by decide +kernel
theorem dX5_thingsHadAt_23 : decode cX5_thingsHadAt 23 = .ok (.getfield 59, 3) := by decide +kernel
theorem dX5_thingsHadAt_26 : decode cX5_thingsHadAt 26 = .ok (.aload_n 0, 1) := by decide +kernel
theorem dX5_thingsHadAt_27 : decode cX5_thingsHadAt 27 = .ok (.getfield 19, 3) := by decide +kernel
theorem dX5_thingsHadAt_30 : decode cX5_thingsHadAt 30 = .ok (.iload 6, 2) := by decide +kernel
theorem dX5_thingsHadAt_32 : decode cX5_thingsHadAt 32 = .ok (.invokevirtual 226, 3) := by decide +kernel
theorem dX5_thingsHadAt_35 : decode cX5_thingsHadAt 35 = .ok (.aload_n 0, 1) := by decide +kernel
theorem dX5_thingsHadAt_36 : decode cX5_thingsHadAt 36 = .ok (.getfield 59, 3) := by decide +kernel
theorem dX5_thingsHadAt_39 : decode cX5_thingsHadAt 39 = .ok (.aload_n 0, 1) := by decide +kernel
theorem dX5_thingsHadAt_40 : decode cX5_thingsHadAt 40 = .ok (.getfield 26, 3) := by decide +kernel
theorem dX5_thingsHadAt_43 : decode cX5_thingsHadAt 43 = .ok (.iconst 0, 1) := by decide +kernel
theorem dX5_thingsHadAt_44 : decode cX5_thingsHadAt 44 = .ok (.iload 5, 2) := by decide +kernel
theorem dX5_thingsHadAt_46 : decode cX5_thingsHadAt 46 = .ok (.iconst 0, 1) := by decide +kernel
theorem dX5_thingsHadAt_47 : decode cX5_thingsHadAt 47 = .ok (.invokevirtual 230, 3) := by decide +kernel
theorem dX5_thingsHadAt_50 : decode cX5_thingsHadAt 50 = .ok (.aload_n 0, 1) := by decide +kernel
theorem dX5_thingsHadAt_51 : decode cX5_thingsHadAt 51 = .ok (.getfield 59, 3) := by decide +kernel
theorem dX5_thingsHadAt_54 : decode cX5_thingsHadAt 54 = .ok (.iload_n 1, 1) := by decide +kernel
theorem dX5_thingsHadAt_55 : decode cX5_thingsHadAt 55 = .ok (.iload_n 3, 1) := by decide +kernel
theorem dX5_thingsHadAt_56 : decode cX5_thingsHadAt 56 = .ok (.invokevirtual 250, 3) := by decide +kernel
theorem dX5_thingsHadAt_59 : decode cX5_thingsHadAt 59 = .ok (.aload_n 0, 1) := by decide +kernel
theorem dX5_thingsHadAt_60 : decode cX5_thingsHadAt 60 = .ok (.getfield 59, 3) := by decide +kernel
theorem dX5_thingsHadAt_63 : decode cX5_thingsHadAt 63 = .ok (.aload_n 0, 1) := by decide +kernel
theorem dX5_thingsHadAt_64 : decode cX5_thingsHadAt 64 = .ok (.getfield 26, 3) := by decide +kernel
theorem dX5_thingsHadAt_67 : decode cX5_thingsHadAt 67 = .ok (.iload 5, 2) := by decide +kernel
theorem dX5_thingsHadAt_69 : decode cX5_thingsHadAt 69 = .ok (.aload_n 0, 1) := by decide +kernel
theorem dX5_thingsHadAt_70 : decode cX5_thingsHadAt 70 = .ok (.getfield 26, 3) := by decide +kernel
theorem dX5_thingsHadAt_73 : decode cX5_thingsHadAt 73 = .ok (.getfield 90, 3) := by decide +kernel
theorem dX5_thingsHadAt_76 : decode cX5_thingsHadAt 76 = .ok (.iconst 0, 1) := by decide +kernel
theorem dX5_thingsHadAt_77 : decode cX5_thingsHadAt 77 = .ok (.invokevirtual 230, 3) := by decide +kernel
theorem dX5_thingsHadAt_80 : decode cX5_thingsHadAt 80 = .ok (.aload_n 0, 1) := by decide +kernel
theorem dX5_thingsHadAt_81 : decode cX5_thingsHadAt 81 = .ok (.getfield 59, 3) := by decide +kernel
theorem dX5_thingsHadAt_84 : decode cX5_thingsHadAt 84 = .ok (.getfield 131, 3) := by decide +kernel
theorem dX5_thingsHadAt_87 : decode cX5_thingsHadAt 87 = .ok (.iload_n 1, 1) := by decide +kernel
theorem dX5_thingsHadAt_88 : decode cX5_thingsHadAt 88 = .ok (.iaload, 1) := by decide +kernel
theorem dX5_thingsHadAt_89 : decode cX5_thingsHadAt 89 = .ok (.ifCond .eq 6, 3) := by decide +kernel
theorem dX5_thingsHadAt_92 : decode cX5_thingsHadAt 92 = .ok (.iinc 4 1, 3) := by decide +kernel
theorem dX5_thingsHadAt_95 : decode cX5_thingsHadAt 95 = .ok (.iinc 6 1, 3) := by decide +kernel
theorem dX5_thingsHadAt_98 : decode cX5_thingsHadAt 98 = .ok (.goto (-82), 3) := by decide +kernel
theorem dX5_thingsHadAt_101 : decode cX5_thingsHadAt 101 = .ok (.iload 4, 2) := by decide +kernel
theorem dX5_thingsHadAt_103 : decode cX5_thingsHadAt 103 = .ok (.ireturn, 1) := by decide +kernel
theorem dX5_power_0 : decode cX5_power 0 = .ok (.lconst 1, 1) := by decide +kernel
theorem dX5_power_1 : decode cX5_power 1 = .ok (.lstore_n 2, 1) := by decide +kernel
theorem dX5_power_2 : decode cX5_power 2 = .ok (.iconst 0, 1) := by decide +kernel
theorem dX5_power_3 : decode cX5_power 3 = .ok (.istore 4, 2) := by decide +kernel
theorem dX5_power_5 : decode cX5_power 5 = .ok (.iload 4, 2) := by decide +kernel
theorem dX5_power_7 : decode cX5_power 7 = .ok (.iload_n 1, 1) := by decide +kernel
theorem dX5_power_8 : decode cX5_power 8 = .ok (.if_icmp .ge 14, 3) := by decide +kernel
theorem dX5_power_11 : decode cX5_power 11 = .ok (.lload_n 2, 1) := by decide +kernel
theorem dX5_power_12 : decode cX5_power 12 = .ok (.iload_n 0, 1) := by decide +kernel
theorem dX5_power_13 : decode cX5_power 13 = .ok (.i2l, 1) := by decide +kernel
theorem dX5_power_14 : decode cX5_power 14 = .ok (.lmul, 1) := by decide +kernel
theorem dX5_power_15 : decode cX5_power 15 = .ok (.lstore_n 2, 1) := by decide +kernel
theorem dX5_power_16 : decode cX5_power 16 = .ok (.iinc 4 1, 3) := by decide +kernel
theorem dX5_power_19 : decode cX5_power 19 = .ok (.goto (-14), 3) := by decide +kernel
theorem dX5_power_22 : decode cX5_power 22 = .ok (.lload_n 2, 1) := by decide +kernel
theorem dX5_power_23 : decode cX5_power 23 = .ok (.lreturn, 1) := by decide +kernel
theorem dX5_commonDivisor_0 : decode cX5_commonDivisor 0 = .ok (.lload_n 0, 1) := by decide +kernel
theorem dX5_commonDivisor_1 : decode cX5_commonDivisor 1 = .ok (.lstore 4, 2) := by decide +kernel
theorem dX5_commonDivisor_3 : decode cX5_commonDivisor 3 = .ok (.lload_n 2, 1) := by decide +kernel
theorem dX5_commonDivisor_4 : decode cX5_commonDivisor 4 = .ok (.lstore 6, 2) := by decide +kernel
theorem dX5_commonDivisor_6 : decode cX5_commonDivisor 6 = .ok (.iconst 0, 1) := by decide +kernel
theorem dX5_commonDivisor_7 : decode cX5_commonDivisor 7 = .ok (.istore 8, 2) := by decide +kernel
theorem dX5_commonDivisor_9 : decode cX5_commonDivisor 9 = .ok (.iload 8, 2) := by decide +kernel
theorem dX5_commonDivisor_11 : decode cX5_commonDivisor 11 = .ok (.bipush 100, 2) := by decide +kernel
theorem dX5_commonDivisor_13 : decode cX5_commonDivisor 13 = .ok (.if_icmp .ge 31, 3) := by decide +kernel
theorem dX5_commonDivisor_16 : decode cX5_commonDivisor 16 = .ok (.lload 6, 2) := by decide +kernel
theorem dX5_commonDivisor_18 : decode cX5_commonDivisor 18 = .ok (.lconst 0, 1) := by decide +kernel
theorem dX5_commonDivisor_19 : decode cX5_commonDivisor 19 = .ok (.lcmp, 1) := by decide +kernel
theorem dX5_commonDivisor_20 : decode cX5_commonDivisor 20 = .ok (.ifCond .le 24, 3) := by decide +kernel
theorem dX5_commonDivisor_23 : decode cX5_commonDivisor 23 = .ok (.lload 4, 2) := by decide +kernel
theorem dX5_commonDivisor_25 : decode cX5_commonDivisor 25 = .ok (.lload 6, 2) := by decide +kernel
theorem dX5_commonDivisor_27 : decode cX5_commonDivisor 27 = .ok (.lrem, 1) := by decide +kernel
theorem dX5_commonDivisor_28 : decode cX5_commonDivisor 28 = .ok (.lstore 9, 2) := by decide +kernel
theorem dX5_commonDivisor_30 : decode cX5_commonDivisor 30 = .ok (.lload 6, 2) := by decide +kernel
theorem dX5_commonDivisor_32 : decode cX5_commonDivisor 32 = .ok (.lstore 4, 2) := by decide +kernel
theorem dX5_commonDivisor_34 : decode cX5_commonDivisor 34 = .ok (.lload 9, 2) := by decide +kernel
theorem dX5_commonDivisor_36 : decode cX5_commonDivisor 36 = .ok (.lstore 6, 2) := by decide +kernel
theorem dX5_commonDivisor_38 : decode cX5_commonDivisor 38 = .ok (.iinc 8 1, 3) := by decide +kernel
theorem dX5_commonDivisor_41 : decode cX5_commonDivisor 41 = .ok (.goto (-32), 3) := by decide +kernel
theorem dX5_commonDivisor_44 : decode cX5_commonDivisor 44 = .ok (.lload 4, 2) := by decide +kernel
theorem dX5_commonDivisor_46 : decode cX5_commonDivisor 46 = .ok (.lreturn, 1) := by decide +kernel
theorem dX5_markSaying_0 : decode cX5_markSaying 0 = .ok (.aload_n 0, 1) := by decide +kernel
theorem dX5_markSaying_1 : decode cX5_markSaying 1 = .ok (.dup, 1) := by decide +kernel
theorem dX5_markSaying_2 : decode cX5_markSaying 2 = .ok (.getfield 62, 3) := by decide +kernel
theorem dX5_markSaying_5 : decode cX5_markSaying 5 = .ok (.lconst 1, 1) := by decide +kernel
theorem dX5_markSaying_6 : decode cX5_markSaying 6 = .ok (.ladd, 1) := by decide +kernel
theorem dX5_markSaying_7 : decode cX5_markSaying 7 = .ok (.putfield 62, 3) := by decide +kernel
theorem dX5_markSaying_10 : decode cX5_markSaying 10 = .ok (.aload_n 0, 1) := by decide +kernel
theorem dX5_markSaying_11 : decode cX5_markSaying 11 = .ok (.getfield 59, 3) := by decide +kernel
theorem dX5_markSaying_14 : decode cX5_markSaying 14 = .ok (.getfield 131, 3) := by decide +kernel
theorem dX5_markSaying_17 : decode cX5_markSaying 17 = .ok (.iload_n 1, 1) := by decide +kernel
theorem dX5_markSaying_18 : decode cX5_markSaying 18 = .ok (.iaload, 1) := by decide +kernel
theorem dX5_markSaying_19 : decode cX5_markSaying 19 = .ok (.invokestatic 192, 3) := by decide +kernel
theorem dX5_markSaying_22 : decode cX5_markSaying 22 = .ok (.ireturn, 1) := by decide +kernel
theorem dX5_markHeard_0 : decode cX5_markHeard 0 = .ok (.aload_n 0, 1) := by decide +kernel
theorem dX5_markHeard_1 : decode cX5_markHeard 1 = .ok (.dup, 1) := by decide +kernel
theorem dX5_markHeard_2 : decode cX5_markHeard 2 = .ok (.getfield 62, 3) := by decide +kernel
theorem dX5_markHeard_5 : decode cX5_markHeard 5 = .ok (.ldc2_w 253, 3) := by decide +kernel
theorem dX5_markHeard_8 : decode cX5_markHeard 8 = .ok (.ladd, 1) := by decide +kernel
theorem dX5_markHeard_9 : decode cX5_markHeard 9 = .ok (.putfield 62, 3) := by decide +kernel
theorem dX5_markHeard_12 : decode cX5_markHeard 12 = .ok (.aload_n 0, 1) := by decide +kernel
theorem dX5_markHeard_13 : decode cX5_markHeard 13 = .ok (.iload_n 1, 1) := by decide +kernel
theorem dX5_markHeard_14 : decode cX5_markHeard 14 = .ok (.invokevirtual 222, 3) := by decide +kernel
theorem dX5_markHeard_17 : decode cX5_markHeard 17 = .ok (.iconst 2, 1) := by decide +kernel
theorem dX5_markHeard_18 : decode cX5_markHeard 18 = .ok (.imul, 1) := by decide +kernel
theorem dX5_markHeard_19 : decode cX5_markHeard 19 = .ok (.ireturn, 1) := by decide +kernel
theorem dX5_markOwn_0 : decode cX5_markOwn 0 = .ok (.aload_n 0, 1) := by decide +kernel
theorem dX5_markOwn_1 : decode cX5_markOwn 1 = .ok (.dup, 1) := by decide +kernel
theorem dX5_markOwn_2 : decode cX5_markOwn 2 = .ok (.getfield 62, 3) := by decide +kernel
theorem dX5_markOwn_5 : decode cX5_markOwn 5 = .ok (.ldc2_w 255, 3) := by decide +kernel
theorem dX5_markOwn_8 : decode cX5_markOwn 8 = .ok (.ladd, 1) := by decide +kernel
theorem dX5_markOwn_9 : decode cX5_markOwn 9 = .ok (.putfield 62, 3) := by decide +kernel
theorem dX5_markOwn_12 : decode cX5_markOwn 12 = .ok (.aload_n 0, 1) := by decide +kernel
theorem dX5_markOwn_13 : decode cX5_markOwn 13 = .ok (.iload_n 1, 1) := by decide +kernel
theorem dX5_markOwn_14 : decode cX5_markOwn 14 = .ok (.invokevirtual 222, 3) := by decide +kernel
theorem dX5_markOwn_17 : decode cX5_markOwn 17 = .ok (.iload_n 1, 1) := by decide +kernel
theorem dX5_markOwn_18 : decode cX5_markOwn 18 = .ok (.iadd, 1) := by decide +kernel
theorem dX5_markOwn_19 : decode cX5_markOwn 19 = .ok (.ireturn, 1) := by decide +kernel
theorem dX5_markSong_0 : decode cX5_markSong 0 = .ok (.aload_n 0, 1) := by decide +kernel
theorem dX5_markSong_1 : decode cX5_markSong 1 = .ok (.dup, 1) := by decide +kernel
theorem dX5_markSong_2 : decode cX5_markSong 2 = .ok (.getfield 62, 3) := by decide +kernel
theorem dX5_markSong_5 : decode cX5_markSong 5 = .ok (.ldc2_w 257, 3) := by decide +kernel
theorem dX5_markSong_8 : decode cX5_markSong 8 = .ok (.ladd, 1) := by decide +kernel
theorem dX5_markSong_9 : decode cX5_markSong 9 = .ok (.putfield 62, 3) := by decide +kernel
theorem dX5_markSong_12 : decode cX5_markSong 12 = .ok (.aload_n 0, 1) := by decide +kernel
theorem dX5_markSong_13 : decode cX5_markSong 13 = .ok (.iload_n 1, 1) := by decide +kernel
theorem dX5_markSong_14 : decode cX5_markSong 14 = .ok (.invokevirtual 206, 3) := by decide +kernel
theorem dX5_markSong_17 : decode cX5_markSong 17 = .ok (.iload_n 2, 1) := by decide +kernel
theorem dX5_markSong_18 : decode cX5_markSong 18 = .ok (.iadd, 1) := by decide +kernel
theorem dX5_markSong_19 : decode cX5_markSong 19 = .ok (.ireturn, 1) := by decide +kernel
theorem dX5_markHum_0 : decode cX5_markHum 0 = .ok (.aload_n 0, 1) := by decide +kernel
theorem dX5_markHum_1 : decode cX5_markHum 1 = .ok (.dup, 1) := by decide +kernel
theorem dX5_markHum_2 : decode cX5_markHum 2 = .ok (.getfield 62, 3) := by decide +kernel
theorem dX5_markHum_5 : decode cX5_markHum 5 = .ok (.ldc2_w 259, 3) := by decide +kernel
theorem dX5_markHum_8 : decode cX5_markHum 8 = .ok (.ladd, 1) := by decide +kernel
theorem dX5_markHum_9 : decode cX5_markHum 9 = .ok (.putfield 62, 3) := by decide +kernel
theorem dX5_markHum_12 : decode cX5_markHum 12 = .ok (.aload_n 0, 1) := by decide +kernel
theorem dX5_markHum_13 : decode cX5_markHum 13 = .ok (.iload_n 1, 1) := by decide +kernel
theorem dX5_markHum_14 : decode cX5_markHum 14 = .ok (.invokevirtual 209, 3) := by decide +kernel
theorem dX5_markHum_17 : decode cX5_markHum 17 = .ok (.aload_n 0, 1) := by decide +kernel
theorem dX5_markHum_18 : decode cX5_markHum 18 = .ok (.getfield 59, 3) := by decide +kernel
theorem dX5_markHum_21 : decode cX5_markHum 21 = .ok (.getfield 143, 3) := by decide +kernel
theorem dX5_markHum_24 : decode cX5_markHum 24 = .ok (.iload_n 1, 1) := by decide +kernel
theorem dX5_markHum_25 : decode cX5_markHum 25 = .ok (.iaload, 1) := by decide +kernel
theorem dX5_markHum_26 : decode cX5_markHum 26 = .ok (.isub, 1) := by decide +kernel
theorem dX5_markHum_27 : decode cX5_markHum 27 = .ok (.ireturn, 1) := by decide +kernel
theorem dX5_markWritten_0 : decode cX5_markWritten 0 = .ok (.aload_n 0, 1) := by decide +kernel
theorem dX5_markWritten_1 : decode cX5_markWritten 1 = .ok (.dup, 1) := by decide +kernel
theorem dX5_markWritten_2 : decode cX5_markWritten 2 = .ok (.getfield 62, 3) := by decide +kernel
theorem dX5_markWritten_5 : decode cX5_markWritten 5 = .ok (.ldc2_w 261, 3) := by decide +kernel
theorem dX5_markWritten_8 : decode cX5_markWritten 8 = .ok (.ladd, 1) := by decide +kernel
theorem dX5_markWritten_9 : decode cX5_markWritten 9 = .ok (.putfield 62, 3) := by decide +kernel
theorem dX5_markWritten_12 : decode cX5_markWritten 12 = .ok (.aload_n 0, 1) := by decide +kernel
theorem dX5_markWritten_13 : decode cX5_markWritten 13 = .ok (.iload_n 1, 1) := by decide +kernel
theorem dX5_markWritten_14 : decode cX5_markWritten 14 = .ok (.invokevirtual 222, 3) := by decide +kernel
theorem dX5_markWritten_17 : decode cX5_markWritten 17 = .ok (.aload_n 0, 1) := by decide +kernel
theorem dX5_markWritten_18 : decode cX5_markWritten 18 = .ok (.getfield 26, 3) := by decide +kernel
theorem dX5_markWritten_21 : decode cX5_markWritten 21 = .ok (.getfield 90, 3) := by decide +kernel
theorem dX5_markWritten_24 : decode cX5_markWritten 24 = .ok (.iadd, 1) := by decide +kernel
theorem dX5_markWritten_25 : decode cX5_markWritten 25 = .ok (.ireturn, 1) := by decide +kernel
