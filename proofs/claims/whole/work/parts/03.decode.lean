theorem dX0_init_0 : decode cX0_init 0 = .ok (.aload_n 0, 1) := by decide +kernel
theorem dX0_init_1 : decode cX0_init 1 = .ok (.invokespecial 3, 3) := by decide +kernel
theorem dX0_init_4 : decode cX0_init 4 = .ok (.aload_n 0, 1) := by decide +kernel
theorem dX0_init_5 : decode cX0_init 5 = .ok (.bipush 6, 2) := by decide +kernel
theorem dX0_init_7 : decode cX0_init 7 = .ok (.newarray .int, 2) := by decide +kernel
theorem dX0_init_9 : decode cX0_init 9 = .ok (.putfield 9, 3) := by decide +kernel
theorem dX0_init_12 : decode cX0_init 12 = .ok (.aload_n 0, 1) := by decide +kernel
theorem dX0_init_13 : decode cX0_init 13 = .ok (.iconst 0, 1) := by decide +kernel
theorem dX0_init_14 : decode cX0_init 14 = .ok (.putfield 15, 3) := by decide +kernel
theorem dX0_init_17 : decode cX0_init 17 = .ok (.aload_n 0, 1) := by decide +kernel
theorem dX0_init_18 : decode cX0_init 18 = .ok (.sipush 7776, 3) := by decide +kernel
theorem dX0_init_21 : decode cX0_init 21 = .ok (.newarray .int, 2) := by decide +kernel
theorem dX0_init_23 : decode cX0_init 23 = .ok (.putfield 19, 3) := by decide +kernel
theorem dX0_init_26 : decode cX0_init 26 = .ok (.aload_n 0, 1) := by decide +kernel
theorem dX0_init_27 : decode cX0_init 27 = .ok (.sipush 1546, 3) := by decide +kernel
theorem dX0_init_30 : decode cX0_init 30 = .ok (.newarray .int, 2) := by decide +kernel
theorem dX0_init_32 : decode cX0_init 32 = .ok (.putfield 22, 3) := by decide +kernel
theorem dX0_init_35 : decode cX0_init 35 = .ok (.aload_n 0, 1) := by decide +kernel
theorem dX0_init_36 : decode cX0_init 36 = .ok (.sipush 1546, 3) := by decide +kernel
theorem dX0_init_39 : decode cX0_init 39 = .ok (.newarray .int, 2) := by decide +kernel
theorem dX0_init_41 : decode cX0_init 41 = .ok (.putfield 25, 3) := by decide +kernel
theorem dX0_init_44 : decode cX0_init 44 = .ok (.aload_n 0, 1) := by decide +kernel
theorem dX0_init_45 : decode cX0_init 45 = .ok (.sipush 1546, 3) := by decide +kernel
theorem dX0_init_48 : decode cX0_init 48 = .ok (.newarray .int, 2) := by decide +kernel
theorem dX0_init_50 : decode cX0_init 50 = .ok (.putfield 28, 3) := by decide +kernel
theorem dX0_init_53 : decode cX0_init 53 = .ok (.aload_n 0, 1) := by decide +kernel
theorem dX0_init_54 : decode cX0_init 54 = .ok (.sipush 1546, 3) := by decide +kernel
theorem dX0_init_57 : decode cX0_init 57 = .ok (.newarray .int, 2) := by decide +kernel
theorem dX0_init_59 : decode cX0_init 59 = .ok (.putfield 31, 3) := by decide +kernel
theorem dX0_init_62 : decode cX0_init 62 = .ok (.aload_n 0, 1) := by decide +kernel
theorem dX0_init_63 : decode cX0_init 63 = .ok (.iconst 0, 1) := by decide +kernel
theorem dX0_init_64 : decode cX0_init 64 = .ok (.putfield 34, 3) := by decide +kernel
theorem dX0_init_67 : decode cX0_init 67 = .ok (.aload_n 0, 1) := by decide +kernel
theorem dX0_init_68 : decode cX0_init 68 = .ok (.bipush 32, 2) := by decide +kernel
theorem dX0_init_70 : decode cX0_init 70 = .ok (.newarray .int, 2) := by decide +kernel
theorem dX0_init_72 : decode cX0_init 72 = .ok (.putfield 37, 3) := by decide +kernel
theorem dX0_init_75 : decode cX0_init 75 = .ok (.aload_n 0, 1) := by decide +kernel
theorem dX0_init_76 : decode cX0_init 76 = .ok (.bipush 32, 2) := by decide +kernel
theorem dX0_init_78 : decode cX0_init 78 = .ok (.newarray .int, 2) := by decide +kernel
theorem dX0_init_80 : decode cX0_init 80 = .ok (.putfield 40, 3) := by decide +kernel
theorem dX0_init_83 : decode cX0_init 83 = .ok (.return_, 1) := by decide +kernel
theorem dX0_prepare_0 : decode cX0_prepare 0 = .ok (.aload_n 0, 1) := by decide +kernel
theorem dX0_prepare_1 : decode cX0_prepare 1 = .ok (.getfield 15, 3) := by decide +kernel
theorem dX0_prepare_4 : decode cX0_prepare 4 = .ok (.iconst 2, 1) := by decide +kernel
theorem dX0_prepare_5 : decode cX0_prepare 5 = .ok (.iload_n 1, 1) := by decide +kernel
theorem dX0_prepare_6 : decode cX0_prepare 6 = .ok (.imul, 1) := by decide +kernel
theorem dX0_prepare_7 : decode cX0_prepare 7 = .ok (.if_icmp .ne 7, 3) := by decide +kernel
theorem dX0_prepare_10 : decode cX0_prepare 10 = .ok (.iconst 1, 1) := by decide +kernel
theorem dX0_prepare_11 : decode cX0_prepare 11 = .ok (.goto 4, 3) := by decide +kernel
theorem dX0_prepare_14 : decode cX0_prepare 14 = .ok (.iconst 0, 1) := by decide +kernel
theorem dX0_prepare_15 : decode cX0_prepare 15 = .ok (.istore_n 3, 1) := by decide +kernel
theorem dX0_prepare_16 : decode cX0_prepare 16 = .ok (.aload_n 0, 1) := by decide +kernel
theorem dX0_prepare_17 : decode cX0_prepare 17 = .ok (.iconst 2, 1) := by decide +kernel
theorem dX0_prepare_18 : decode cX0_prepare 18 = .ok (.iload_n 1, 1) := by decide +kernel
theorem dX0_prepare_19 : decode cX0_prepare 19 = .ok (.imul, 1) := by decide +kernel
theorem dX0_prepare_20 : decode cX0_prepare 20 = .ok (.putfield 15, 3) := by decide +kernel
theorem dX0_prepare_23 : decode cX0_prepare 23 = .ok (.iconst 0, 1) := by decide +kernel
theorem dX0_prepare_24 : decode cX0_prepare 24 = .ok (.istore 4, 2) := by decide +kernel
theorem dX0_prepare_26 : decode cX0_prepare 26 = .ok (.iload 4, 2) := by decide +kernel
theorem dX0_prepare_28 : decode cX0_prepare 28 = .ok (.aload_n 0, 1) := by decide +kernel
theorem dX0_prepare_29 : decode cX0_prepare 29 = .ok (.getfield 15, 3) := by decide +kernel
theorem dX0_prepare_32 : decode cX0_prepare 32 = .ok (.if_icmp .ge 48, 3) := by decide +kernel
theorem dX0_prepare_35 : decode cX0_prepare 35 = .ok (.iload 4, 2) := by decide +kernel
theorem dX0_prepare_37 : decode cX0_prepare 37 = .ok (.aload_n 2, 1) := by decide +kernel
theorem dX0_prepare_38 : decode cX0_prepare 38 = .ok (.invokestatic 43, 3) := by decide +kernel
theorem dX0_prepare_41 : decode cX0_prepare 41 = .ok (.istore 5, 2) := by decide +kernel
theorem dX0_prepare_43 : decode cX0_prepare 43 = .ok (.iload_n 3, 1) := by decide +kernel
theorem dX0_prepare_44 : decode cX0_prepare 44 = .ok (.ifCond .eq 19, 3) := by decide +kernel
theorem dX0_prepare_47 : decode cX0_prepare 47 = .ok (.aload_n 0, 1) := by decide +kernel
theorem dX0_prepare_48 : decode cX0_prepare 48 = .ok (.getfield 9, 3) := by decide +kernel
theorem dX0_prepare_51 : decode cX0_prepare 51 = .ok (.iload 4, 2) := by decide +kernel
theorem dX0_prepare_53 : decode cX0_prepare 53 = .ok (.iaload, 1) := by decide +kernel
theorem dX0_prepare_54 : decode cX0_prepare 54 = .ok (.iload 5, 2) := by decide +kernel
theorem dX0_prepare_56 : decode cX0_prepare 56 = .ok (.if_icmp .ne 7, 3) := by decide +kernel
theorem dX0_prepare_59 : decode cX0_prepare 59 = .ok (.iconst 1, 1) := by decide +kernel
theorem dX0_prepare_60 : decode cX0_prepare 60 = .ok (.goto 4, 3) := by decide +kernel
theorem dX0_prepare_63 : decode cX0_prepare 63 = .ok (.iconst 0, 1) := by decide +kernel
theorem dX0_prepare_64 : decode cX0_prepare 64 = .ok (.istore_n 3, 1) := by decide +kernel
theorem dX0_prepare_65 : decode cX0_prepare 65 = .ok (.aload_n 0, 1) := by decide +kernel
theorem dX0_prepare_66 : decode cX0_prepare 66 = .ok (.getfield 9, 3) := by decide +kernel
theorem dX0_prepare_69 : decode cX0_prepare 69 = .ok (.iload 4, 2) := by decide +kernel
theorem dX0_prepare_71 : decode cX0_prepare 71 = .ok (.iload 5, 2) := by decide +kernel
theorem dX0_prepare_73 : decode cX0_prepare 73 = .ok (.iastore, 1) := by decide +kernel
theorem dX0_prepare_74 : decode cX0_prepare 74 = .ok (.iinc 4 1, 3) := by decide +kernel
theorem dX0_prepare_77 : decode cX0_prepare 77 = .ok (.goto (-51), 3) := by decide +kernel
theorem dX0_prepare_80 : decode cX0_prepare 80 = .ok (.iload_n 3, 1) := by decide +kernel
theorem dX0_prepare_81 : decode cX0_prepare 81 = .ok (.ifCond .ne 15, 3) := by decide +kernel
theorem dX0_prepare_84 : decode cX0_prepare 84 = .ok (.aload_n 0, 1) := by decide +kernel
theorem dX0_prepare_85 : decode cX0_prepare 85 = .ok (.invokevirtual 49, 3) := by decide +kernel
theorem dX0_prepare_88 : decode cX0_prepare 88 = .ok (.aload_n 0, 1) := by decide +kernel
theorem dX0_prepare_89 : decode cX0_prepare 89 = .ok (.invokevirtual 52, 3) := by decide +kernel
theorem dX0_prepare_92 : decode cX0_prepare 92 = .ok (.aload_n 0, 1) := by decide +kernel
theorem dX0_prepare_93 : decode cX0_prepare 93 = .ok (.invokevirtual 55, 3) := by decide +kernel
theorem dX0_prepare_96 : decode cX0_prepare 96 = .ok (.return_, 1) := by decide +kernel
theorem dX0_forget_0 : decode cX0_forget 0 = .ok (.iconst 0, 1) := by decide +kernel
theorem dX0_forget_1 : decode cX0_forget 1 = .ok (.istore_n 1, 1) := by decide +kernel
theorem dX0_forget_2 : decode cX0_forget 2 = .ok (.iload_n 1, 1) := by decide +kernel
theorem dX0_forget_3 : decode cX0_forget 3 = .ok (.aload_n 0, 1) := by decide +kernel
theorem dX0_forget_4 : decode cX0_forget 4 = .ok (.getfield 34, 3) := by decide +kernel
theorem dX0_forget_7 : decode cX0_forget 7 = .ok (.if_icmp .ge 21, 3) := by decide +kernel
theorem dX0_forget_10 : decode cX0_forget 10 = .ok (.aload_n 0, 1) := by decide +kernel
theorem dX0_forget_11 : decode cX0_forget 11 = .ok (.getfield 19, 3) := by decide +kernel
theorem dX0_forget_14 : decode cX0_forget 14 = .ok (.aload_n 0, 1) := by decide +kernel
theorem dX0_forget_15 : decode cX0_forget 15 = .ok (.getfield 22, 3) := by decide +kernel
theorem dX0_forget_18 : decode cX0_forget 18 = .ok (.iload_n 1, 1) := by decide +kernel
theorem dX0_forget_19 : decode cX0_forget 19 = .ok (.iaload, 1) := by decide +kernel
theorem dX0_forget_20 : decode cX0_forget 20 = .ok (.iconst 0, 1) := by decide +kernel
theorem dX0_forget_21 : decode cX0_forget 21 = .ok (.iastore, 1) := by decide +kernel
theorem dX0_forget_22 : decode cX0_forget 22 = .ok (.iinc 1 1, 3) := by decide +kernel
theorem dX0_forget_25 : decode cX0_forget 25 = .ok (.goto (-23), 3) := by decide +kernel
theorem dX0_forget_28 : decode cX0_forget 28 = .ok (.aload_n 0, 1) := by decide +kernel
theorem dX0_forget_29 : decode cX0_forget 29 = .ok (.iconst 0, 1) := by decide +kernel
theorem dX0_forget_30 : decode cX0_forget 30 = .ok (.putfield 34, 3) := by decide +kernel
theorem dX0_forget_33 : decode cX0_forget 33 = .ok (.return_, 1) := by decide +kernel
theorem dX0_find_0 : decode cX0_find 0 = .ok (.iconst 0, 1) := by decide +kernel
theorem dX0_find_1 : decode cX0_find 1 = .ok (.istore_n 1, 1) := by decide +kernel
theorem dX0_find_2 : decode cX0_find 2 = .ok (.iload_n 1, 1) := by decide +kernel
theorem dX0_find_3 : decode cX0_find 3 = .ok (.aload_n 0, 1) := by decide +kernel
theorem dX0_find_4 : decode cX0_find 4 = .ok (.getfield 15, 3) := by decide +kernel
theorem dX0_find_7 : decode cX0_find 7 = .ok (.if_icmp .ge 21, 3) := by decide +kernel
theorem dX0_find_10 : decode cX0_find 10 = .ok (.aload_n 0, 1) := by decide +kernel
theorem dX0_find_11 : decode cX0_find 11 = .ok (.aload_n 0, 1) := by decide +kernel
theorem dX0_find_12 : decode cX0_find 12 = .ok (.getfield 9, 3) := by decide +kernel
theorem dX0_find_15 : decode cX0_find 15 = .ok (.iload_n 1, 1) := by decide +kernel
theorem dX0_find_16 : decode cX0_find 16 = .ok (.iaload, 1) := by decide +kernel
theorem dX0_find_17 : decode cX0_find 17 = .ok (.iconst (-1), 1) := by decide +kernel
theorem dX0_find_18 : decode cX0_find 18 = .ok (.iload_n 1, 1) := by decide +kernel
theorem dX0_find_19 : decode cX0_find 19 = .ok (.invokevirtual 58, 3) := by decide +kernel
theorem dX0_find_22 : decode cX0_find 22 = .ok (.iinc 1 1, 3) := by decide +kernel
theorem dX0_find_25 : decode cX0_find 25 = .ok (.goto (-23), 3) := by decide +kernel
theorem dX0_find_28 : decode cX0_find 28 = .ok (.iconst 0, 1) := by decide +kernel
theorem dX0_find_29 : decode cX0_find 29 = .ok (.istore_n 1, 1) := by decide +kernel
theorem dX0_find_30 : decode cX0_find 30 = .ok (.iload_n 1, 1) := by decide +kernel
theorem dX0_find_31 : decode cX0_find 31 = .ok (.aload_n 0, 1) := by decide +kernel
theorem dX0_find_32 : decode cX0_find 32 = .ok (.getfield 34, 3) := by decide +kernel
theorem dX0_find_35 : decode cX0_find 35 = .ok (.if_icmp .ge 53, 3) := by decide +kernel
theorem dX0_find_38 : decode cX0_find 38 = .ok (.iload_n 1, 1) := by decide +kernel
theorem dX0_find_39 : decode cX0_find 39 = .ok (.sipush 1546, 3) := by decide +kernel
theorem dX0_find_42 : decode cX0_find 42 = .ok (.if_icmp .ge 46, 3) := by decide +kernel
theorem dX0_find_45 : decode cX0_find 45 = .ok (.iconst 0, 1) := by decide +kernel
theorem dX0_find_46 : decode cX0_find 46 = .ok (.istore_n 2, 1) := by decide +kernel
theorem dX0_find_47 : decode cX0_find 47 = .ok (.iload_n 2, 1) := by decide +kernel
theorem dX0_find_48 : decode cX0_find 48 = .ok (.aload_n 0, 1) := by decide +kernel
theorem dX0_find_49 : decode cX0_find 49 = .ok (.getfield 15, 3) := by decide +kernel
theorem dX0_find_52 : decode cX0_find 52 = .ok (.if_icmp .ge 30, 3) := by decide +kernel
theorem dX0_find_55 : decode cX0_find 55 = .ok (.aload_n 0, 1) := by decide +kernel
theorem dX0_find_56 : decode cX0_find 56 = .ok (.aload_n 0, 1) := by decide +kernel
theorem dX0_find_57 : decode cX0_find 57 = .ok (.getfield 22, 3) := by decide +kernel
theorem dX0_find_60 : decode cX0_find 60 = .ok (.iload_n 1, 1) := by decide +kernel
theorem dX0_find_61 : decode cX0_find 61 = .ok (.iaload, 1) := by decide +kernel
theorem dX0_find_62 : decode cX0_find 62 = .ok (.aload_n 0, 1) := by decide +kernel
theorem dX0_find_63 : decode cX0_find 63 = .ok (.getfield 9, 3) := by decide +kernel
theorem dX0_find_66 : decode cX0_find 66 = .ok (.iload_n 2, 1) := by decide +kernel
theorem dX0_find_67 : decode cX0_find 67 = .ok (.iaload, 1) := by decide +kernel
theorem dX0_find_68 : decode cX0_find 68 = .ok (.invokestatic 62, 3) := by decide +kernel
theorem dX0_find_71 : decode cX0_find 71 = .ok (.iload_n 1, 1) := by decide +kernel
theorem dX0_find_72 : decode cX0_find 72 = .ok (.iload_n 2, 1) := by decide +kernel
theorem dX0_find_73 : decode cX0_find 73 = .ok (.invokevirtual 58, 3) := by decide +kernel
theorem dX0_find_76 : decode cX0_find 76 = .ok (.iinc 2 1, 3) := by decide +kernel
theorem dX0_find_79 : decode cX0_find 79 = .ok (.goto (-32), 3) := by decide +kernel
theorem dX0_find_82 : decode cX0_find 82 = .ok (.iinc 1 1, 3) := by decide +kernel
theorem dX0_find_85 : decode cX0_find 85 = .ok (.goto (-55), 3) := by decide +kernel
theorem dX0_find_88 : decode cX0_find 88 = .ok (.return_, 1) := by decide +kernel
theorem dX0_add_0 : decode cX0_add 0 = .ok (.aload_n 0, 1) := by decide +kernel
theorem dX0_add_1 : decode cX0_add 1 = .ok (.getfield 19, 3) := by decide +kernel
theorem dX0_add_4 : decode cX0_add 4 = .ok (.iload_n 1, 1) := by decide +kernel
theorem dX0_add_5 : decode cX0_add 5 = .ok (.iaload, 1) := by decide +kernel
theorem dX0_add_6 : decode cX0_add 6 = .ok (.ifCond .ne 13, 3) := by decide +kernel
theorem dX0_add_9 : decode cX0_add 9 = .ok (.aload_n 0, 1) := by decide +kernel
theorem dX0_add_10 : decode cX0_add 10 = .ok (.getfield 34, 3) := by decide +kernel
theorem dX0_add_13 : decode cX0_add 13 = .ok (.sipush 1546, 3) := by decide +kernel
theorem dX0_add_16 : decode cX0_add 16 = .ok (.if_icmp .lt 4, 3) := by decide +kernel
theorem dX0_add_19 : decode cX0_add 19 = .ok (.return_, 1) := by decide +kernel
theorem dX0_add_20 : decode cX0_add 20 = .ok (.aload_n 0, 1) := by decide +kernel
theorem dX0_add_21 : decode cX0_add 21 = .ok (.getfield 22, 3) := by decide +kernel
theorem dX0_add_24 : decode cX0_add 24 = .ok (.aload_n 0, 1) := by decide +kernel
theorem dX0_add_25 : decode cX0_add 25 = .ok (.getfield 34, 3) := by decide +kernel
theorem dX0_add_28 : decode cX0_add 28 = .ok (.iload_n 1, 1) := by decide +kernel
theorem dX0_add_29 : decode cX0_add 29 = .ok (.iastore, 1) := by decide +kernel
theorem dX0_add_30 : decode cX0_add 30 = .ok (.aload_n 0, 1) := by decide +kernel
theorem dX0_add_31 : decode cX0_add 31 = .ok (.getfield 25, 3) := by decide +kernel
theorem dX0_add_34 : decode cX0_add 34 = .ok (.aload_n 0, 1) := by decide +kernel
theorem dX0_add_35 : decode cX0_add 35 = .ok (.getfield 34, 3) := by decide +kernel
theorem dX0_add_38 : decode cX0_add 38 = .ok (.iload_n 2, 1) := by decide +kernel
theorem dX0_add_39 : decode cX0_add 39 = .ok (.iastore, 1) := by decide +kernel
theorem dX0_add_40 : decode cX0_add 40 = .ok (.aload_n 0, 1) := by decide +kernel
theorem dX0_add_41 : decode cX0_add 41 = .ok (.getfield 28, 3) := by decide +kernel
theorem dX0_add_44 : decode cX0_add 44 = .ok (.aload_n 0, 1) := by decide +kernel
theorem dX0_add_45 : decode cX0_add 45 = .ok (.getfield 34, 3) := by decide +kernel
theorem dX0_add_48 : decode cX0_add 48 = .ok (.iload_n 3, 1) := by decide +kernel
theorem dX0_add_49 : decode cX0_add 49 = .ok (.iastore, 1) := by decide +kernel
theorem dX0_add_50 : decode cX0_add 50 = .ok (.aload_n 0, 1) := by decide +kernel
theorem dX0_add_51 : decode cX0_add 51 = .ok (.getfield 31, 3) := by decide +kernel
theorem dX0_add_54 : decode cX0_add 54 = .ok (.aload_n 0, 1) := by decide +kernel
theorem dX0_add_55 : decode cX0_add 55 = .ok (.getfield 34, 3) := by decide +kernel
theorem dX0_add_58 : decode cX0_add 58 = .ok (.iload_n 2, 1) := by decide +kernel
theorem dX0_add_59 : decode cX0_add 59 = .ok (.ifCond .ge 7, 3) := by decide +kernel
theorem dX0_add_62 : decode cX0_add 62 = .ok (.iconst 1, 1) := by decide +kernel
theorem dX0_add_63 : decode cX0_add 63 = .ok (.goto 11, 3) := by decide +kernel
theorem dX0_add_66 : decode cX0_add 66 = .ok (.aload_n 0, 1) := by decide +kernel
theorem dX0_add_67 : decode cX0_add 67 = .ok (.getfield 31, 3) := by decide +kernel
theorem dX0_add_70 : decode cX0_add 70 = .ok (.iload_n 2, 1) := by decide +kernel
theorem dX0_add_71 : decode cX0_add 71 = .ok (.iaload, 1) := by decide +kernel
theorem dX0_add_72 : decode cX0_add 72 = .ok (.iconst 1, 1) := by decide +kernel
theorem dX0_add_73 : decode cX0_add 73 = .ok (.iadd, 1) := by decide +kernel
theorem dX0_add_74 : decode cX0_add 74 = .ok (.iastore, 1) := by decide +kernel
theorem dX0_add_75 : decode cX0_add 75 = .ok (.aload_n 0, 1) := by decide +kernel
theorem dX0_add_76 : decode cX0_add 76 = .ok (.dup, 1) := by decide +kernel
theorem dX0_add_77 : decode cX0_add 77 = .ok (.getfield 34, 3) := by decide +kernel
theorem dX0_add_80 : decode cX0_add 80 = .ok (.iconst 1, 1) := by decide +kernel
theorem dX0_add_81 : decode cX0_add 81 = .ok (.iadd, 1) := by decide +kernel
theorem dX0_add_82 : decode cX0_add 82 = .ok (.putfield 34, 3) := by decide +kernel
theorem dX0_add_85 : decode cX0_add 85 = .ok (.aload_n 0, 1) := by decide +kernel
theorem dX0_add_86 : decode cX0_add 86 = .ok (.getfield 19, 3) := by decide +kernel
theorem dX0_add_89 : decode cX0_add 89 = .ok (.iload_n 1, 1) := by decide +kernel
theorem dX0_add_90 : decode cX0_add 90 = .ok (.aload_n 0, 1) := by decide +kernel
theorem dX0_add_91 : decode cX0_add 91 = .ok (.getfield 34, 3) := by decide +kernel
theorem dX0_add_94 : decode cX0_add 94 = .ok (.iastore, 1) := by decide +kernel
theorem dX0_add_95 : decode cX0_add 95 = .ok (.return_, 1) := by decide +kernel
theorem dX0_survey_0 : decode cX0_survey 0 = .ok (.iconst 0, 1) := by decide +kernel
theorem dX0_survey_1 : decode cX0_survey 1 = .ok (.istore_n 1, 1) := by decide +kernel
theorem dX0_survey_2 : decode cX0_survey 2 = .ok (.iload_n 1, 1) := by decide +kernel
theorem dX0_survey_3 : decode cX0_survey 3 = .ok (.bipush 32, 2) := by decide +kernel
theorem dX0_survey_5 : decode cX0_survey 5 = .ok (.if_icmp .ge 23, 3) := by decide +kernel
theorem dX0_survey_8 : decode cX0_survey 8 = .ok (.aload_n 0, 1) := by decide +kernel
theorem dX0_survey_9 : decode cX0_survey 9 = .ok (.getfield 37, 3) := by decide +kernel
theorem dX0_survey_12 : decode cX0_survey 12 = .ok (.iload_n 1, 1) := by decide +kernel
theorem dX0_survey_13 : decode cX0_survey 13 = .ok (.iconst 0, 1) := by decide +kernel
theorem dX0_survey_14 : decode cX0_survey 14 = .ok (.iastore, 1) := by decide +kernel
theorem dX0_survey_15 : decode cX0_survey 15 = .ok (.aload_n 0, 1) := by decide +kernel
theorem dX0_survey_16 : decode cX0_survey 16 = .ok (.getfield 40, 3) := by decide +kernel
theorem dX0_survey_19 : decode cX0_survey 19 = .ok (.iload_n 1, 1) := by decide +kernel
theorem dX0_survey_20 : decode cX0_survey 20 = .ok (.iload_n 1, 1) := by decide +kernel
theorem dX0_survey_21 : decode cX0_survey 21 = .ok (.iastore, 1) := by decide +kernel
theorem dX0_survey_22 : decode cX0_survey 22 = .ok (.iinc 1 1, 3) := by decide +kernel
theorem dX0_survey_25 : decode cX0_survey 25 = .ok (.goto (-23), 3) := by decide +kernel
theorem dX0_survey_28 : decode cX0_survey 28 = .ok (.iconst 0, 1) := by decide +kernel
theorem dX0_survey_29 : decode cX0_survey 29 = .ok (.istore_n 1, 1) := by decide +kernel
theorem dX0_survey_30 : decode cX0_survey 30 = .ok (.iload_n 1, 1) := by decide +kernel
theorem dX0_survey_31 : decode cX0_survey 31 = .ok (.aload_n 0, 1) := by decide +kernel
theorem dX0_survey_32 : decode cX0_survey 32 = .ok (.getfield 34, 3) := by decide +kernel
theorem dX0_survey_35 : decode cX0_survey 35 = .ok (.if_icmp .ge 63, 3) := by decide +kernel
theorem dX0_survey_38 : decode cX0_survey 38 = .ok (.aload_n 0, 1) := by decide +kernel
theorem dX0_survey_39 : decode cX0_survey 39 = .ok (.getfield 22, 3) := by decide +kernel
theorem dX0_survey_42 : decode cX0_survey 42 = .ok (.iload_n 1, 1) := by decide +kernel
theorem dX0_survey_43 : decode cX0_survey 43 = .ok (.iaload, 1) := by decide +kernel
theorem dX0_survey_44 : decode cX0_survey 44 = .ok (.invokestatic 66, 3) := by decide +kernel
theorem dX0_survey_47 : decode cX0_survey 47 = .ok (.istore_n 2, 1) := by decide +kernel
theorem dX0_survey_48 : decode cX0_survey 48 = .ok (.aload_n 0, 1) := by decide +kernel
theorem dX0_survey_49 : decode cX0_survey 49 = .ok (.getfield 22, 3) := by decide +kernel
theorem dX0_survey_52 : decode cX0_survey 52 = .ok (.iload_n 1, 1) := by decide +kernel
theorem dX0_survey_53 : decode cX0_survey 53 = .ok (.iaload, 1) := by decide +kernel
theorem dX0_survey_54 : decode cX0_survey 54 = .ok (.invokestatic 70, 3) := by decide +kernel
theorem dX0_survey_57 : decode cX0_survey 57 = .ok (.istore_n 3, 1) := by decide +kernel
theorem dX0_survey_58 : decode cX0_survey 58 = .ok (.iload_n 2, 1) := by decide +kernel
theorem dX0_survey_59 : decode cX0_survey 59 = .ok (.iload_n 3, 1) := by decide +kernel
theorem dX0_survey_60 : decode cX0_survey 60 = .ok (.if_icmp .ne 16, 3) := by decide +kernel
theorem dX0_survey_63 : decode cX0_survey 63 = .ok (.aload_n 0, 1) := by decide +kernel
theorem dX0_survey_64 : decode cX0_survey 64 = .ok (.getfield 37, 3) := by decide +kernel
theorem dX0_survey_67 : decode cX0_survey 67 = .ok (.iload_n 2, 1) := by decide +kernel
theorem dX0_survey_68 : decode cX0_survey 68 = .ok (.dup2, 1) := by decide +kernel
theorem dX0_survey_69 : decode cX0_survey 69 = .ok (.iaload, 1) := by decide +kernel
theorem dX0_survey_70 : decode cX0_survey 70 = .ok (.iconst 1, 1) := by decide +kernel
theorem dX0_survey_71 : decode cX0_survey 71 = .ok (.iadd, 1) := by decide +kernel
theorem dX0_survey_72 : decode cX0_survey 72 = .ok (.iastore, 1) := by decide +kernel
theorem dX0_survey_73 : decode cX0_survey 73 = .ok (.goto 19, 3) := by decide +kernel
theorem dX0_survey_76 : decode cX0_survey 76 = .ok (.aload_n 0, 1) := by decide +kernel
theorem dX0_survey_77 : decode cX0_survey 77 = .ok (.aload_n 0, 1) := by decide +kernel
theorem dX0_survey_78 : decode cX0_survey 78 = .ok (.getfield 40, 3) := by decide +kernel
theorem dX0_survey_81 : decode cX0_survey 81 = .ok (.iload_n 2, 1) := by decide +kernel
theorem dX0_survey_82 : decode cX0_survey 82 = .ok (.iaload, 1) := by decide +kernel
theorem dX0_survey_83 : decode cX0_survey 83 = .ok (.aload_n 0, 1) := by decide +kernel
theorem dX0_survey_84 : decode cX0_survey 84 = .ok (.getfield 40, 3) := by decide +kernel
theorem dX0_survey_87 : decode cX0_survey 87 = .ok (.iload_n 3, 1) := by decide +kernel
theorem dX0_survey_88 : decode cX0_survey 88 = .ok (.iaload, 1) := by decide +kernel
theorem dX0_survey_89 : decode cX0_survey 89 = .ok (.invokevirtual 73, 3) := by decide +kernel
theorem dX0_survey_92 : decode cX0_survey 92 = .ok (.iinc 1 1, 3) := by decide +kernel
theorem dX0_survey_95 : decode cX0_survey 95 = .ok (.goto (-65), 3) := by decide +kernel
theorem dX0_survey_98 : decode cX0_survey 98 = .ok (.return_, 1) := by decide +kernel
theorem dX0_makeOneKind_0 : decode cX0_makeOneKind 0 = .ok (.iconst 0, 1) := by decide +kernel
theorem dX0_makeOneKind_1 : decode cX0_makeOneKind 1 = .ok (.istore_n 3, 1) := by decide +kernel
theorem dX0_makeOneKind_2 : decode cX0_makeOneKind 2 = .ok (.iload_n 3, 1) := by decide +kernel
theorem dX0_makeOneKind_3 : decode cX0_makeOneKind 3 = .ok (.bipush 32, 2) := by decide +kernel
theorem dX0_makeOneKind_5 : decode cX0_makeOneKind 5 = .ok (.if_icmp .ge 26, 3) := by decide +kernel
theorem dX0_makeOneKind_8 : decode cX0_makeOneKind 8 = .ok (.aload_n 0, 1) := by decide +kernel
theorem dX0_makeOneKind_9 : decode cX0_makeOneKind 9 = .ok (.getfield 40, 3) := by decide +kernel
theorem dX0_makeOneKind_12 : decode cX0_makeOneKind 12 = .ok (.iload_n 3, 1) := by decide +kernel
theorem dX0_makeOneKind_13 : decode cX0_makeOneKind 13 = .ok (.iaload, 1) := by decide +kernel
theorem dX0_makeOneKind_14 : decode cX0_makeOneKind 14 = .ok (.iload_n 2, 1) := by decide +kernel
theorem dX0_makeOneKind_15 : decode cX0_makeOneKind 15 = .ok (.if_icmp .ne 10, 3) := by decide +kernel
theorem dX0_makeOneKind_18 : decode cX0_makeOneKind 18 = .ok (.aload_n 0, 1) := by decide +kernel
theorem dX0_makeOneKind_19 : decode cX0_makeOneKind 19 = .ok (.getfield 40, 3) := by decide +kernel
theorem dX0_makeOneKind_22 : decode cX0_makeOneKind 22 = .ok (.iload_n 3, 1) := by decide +kernel
theorem dX0_makeOneKind_23 : decode cX0_makeOneKind 23 = .ok (.iload_n 1, 1) := by decide +kernel
theorem dX0_makeOneKind_24 : decode cX0_makeOneKind 24 = .ok (.iastore, 1) := by decide +kernel
theorem dX0_makeOneKind_25 : decode cX0_makeOneKind 25 = .ok (.iinc 3 1, 3) := by decide +kernel
theorem dX0_makeOneKind_28 : decode cX0_makeOneKind 28 = .ok (.goto (-26), 3) := by decide +kernel
theorem dX0_makeOneKind_31 : decode cX0_makeOneKind 31 = .ok (.return_, 1) := by decide +kernel
theorem dX0_rowOf_0 : decode cX0_rowOf 0 = .ok (.aload_n 0, 1) := by decide +kernel
theorem dX0_rowOf_1 : decode cX0_rowOf 1 = .ok (.getfield 19, 3) := by decide +kernel
theorem dX0_rowOf_4 : decode cX0_rowOf 4 = .ok (.iload_n 1, 1) := by decide +kernel
theorem dX0_rowOf_5 : decode cX0_rowOf 5 = .ok (.iaload, 1) := by decide +kernel
theorem dX0_rowOf_6 : decode cX0_rowOf 6 = .ok (.iconst 1, 1) := by decide +kernel
theorem dX0_rowOf_7 : decode cX0_rowOf 7 = .ok (.isub, 1) := by decide +kernel
theorem dX0_rowOf_8 : decode cX0_rowOf 8 = .ok (.ireturn, 1) := by decide +kernel
theorem dX0_letterAt_0 : decode cX0_letterAt 0 = .ok (.iload_n 1, 1) := by decide +kernel
theorem dX0_letterAt_1 : decode cX0_letterAt 1 = .ok (.istore_n 3, 1) := by decide +kernel
theorem dX0_letterAt_2 : decode cX0_letterAt 2 = .ok (.aload_n 0, 1) := by decide +kernel
theorem dX0_letterAt_3 : decode cX0_letterAt 3 = .ok (.getfield 31, 3) := by decide +kernel
theorem dX0_letterAt_6 : decode cX0_letterAt 6 = .ok (.iload_n 1, 1) := by decide +kernel
theorem dX0_letterAt_7 : decode cX0_letterAt 7 = .ok (.iaload, 1) := by decide +kernel
theorem dX0_letterAt_8 : decode cX0_letterAt 8 = .ok (.iconst 1, 1) := by decide +kernel
theorem dX0_letterAt_9 : decode cX0_letterAt 9 = .ok (.isub, 1) := by decide +kernel
theorem dX0_letterAt_10 : decode cX0_letterAt 10 = .ok (.iload_n 2, 1) := by decide +kernel
theorem dX0_letterAt_11 : decode cX0_letterAt 11 = .ok (.isub, 1) := by decide +kernel
theorem dX0_letterAt_12 : decode cX0_letterAt 12 = .ok (.istore 4, 2) := by decide +kernel
theorem dX0_letterAt_14 : decode cX0_letterAt 14 = .ok (.iload 4, 2) := by decide +kernel
theorem dX0_letterAt_16 : decode cX0_letterAt 16 = .ok (.ifCond .le 25, 3) := by decide +kernel
theorem dX0_letterAt_19 : decode cX0_letterAt 19 = .ok (.aload_n 0, 1) := by decide +kernel
theorem dX0_letterAt_20 : decode cX0_letterAt 20 = .ok (.getfield 25, 3) := by decide +kernel
theorem dX0_letterAt_23 : decode cX0_letterAt 23 = .ok (.iload_n 3, 1) := by decide +kernel
theorem dX0_letterAt_24 : decode cX0_letterAt 24 = .ok (.iaload, 1) := by decide +kernel
theorem dX0_letterAt_25 : decode cX0_letterAt 25 = .ok (.ifCond .lt 16, 3) := by decide +kernel
theorem dX0_letterAt_28 : decode cX0_letterAt 28 = .ok (.aload_n 0, 1) := by decide +kernel
theorem dX0_letterAt_29 : decode cX0_letterAt 29 = .ok (.getfield 25, 3) := by decide +kernel
theorem dX0_letterAt_32 : decode cX0_letterAt 32 = .ok (.iload_n 3, 1) := by decide +kernel
theorem dX0_letterAt_33 : decode cX0_letterAt 33 = .ok (.iaload, 1) := by decide +kernel
theorem dX0_letterAt_34 : decode cX0_letterAt 34 = .ok (.istore_n 3, 1) := by decide +kernel
theorem dX0_letterAt_35 : decode cX0_letterAt 35 = .ok (.iinc 4 (-1), 3) := by decide +kernel
theorem dX0_letterAt_38 : decode cX0_letterAt 38 = .ok (.goto (-24), 3) := by decide +kernel
theorem dX0_letterAt_41 : decode cX0_letterAt 41 = .ok (.aload_n 0, 1) := by decide +kernel
theorem dX0_letterAt_42 : decode cX0_letterAt 42 = .ok (.getfield 28, 3) := by decide +kernel
theorem dX0_letterAt_45 : decode cX0_letterAt 45 = .ok (.iload_n 3, 1) := by decide +kernel
theorem dX0_letterAt_46 : decode cX0_letterAt 46 = .ok (.iaload, 1) := by decide +kernel
theorem dX0_letterAt_47 : decode cX0_letterAt 47 = .ok (.ireturn, 1) := by decide +kernel
theorem dX0_idempotents_0 : decode cX0_idempotents 0 = .ok (.iconst 0, 1) := by decide +kernel
theorem dX0_idempotents_1 : decode cX0_idempotents 1 = .ok (.istore_n 1, 1) := by decide +kernel
theorem dX0_idempotents_2 : decode cX0_idempotents 2 = .ok (.iconst 0, 1) := by decide +kernel
theorem dX0_idempotents_3 : decode cX0_idempotents 3 = .ok (.istore_n 2, 1) := by decide +kernel
theorem dX0_idempotents_4 : decode cX0_idempotents 4 = .ok (.iload_n 2, 1) := by decide +kernel
theorem dX0_idempotents_5 : decode cX0_idempotents 5 = .ok (.bipush 32, 2) := by decide +kernel
theorem dX0_idempotents_7 : decode cX0_idempotents 7 = .ok (.if_icmp .ge 21, 3) := by decide +kernel
theorem dX0_idempotents_10 : decode cX0_idempotents 10 = .ok (.aload_n 0, 1) := by decide +kernel
theorem dX0_idempotents_11 : decode cX0_idempotents 11 = .ok (.getfield 37, 3) := by decide +kernel
theorem dX0_idempotents_14 : decode cX0_idempotents 14 = .ok (.iload_n 2, 1) := by decide +kernel
theorem dX0_idempotents_15 : decode cX0_idempotents 15 = .ok (.iaload, 1) := by decide +kernel
theorem dX0_idempotents_16 : decode cX0_idempotents 16 = .ok (.ifCond .le 6, 3) := by decide +kernel
theorem dX0_idempotents_19 : decode cX0_idempotents 19 = .ok (.iinc 1 1, 3) := by decide +kernel
theorem dX0_idempotents_22 : decode cX0_idempotents 22 = .ok (.iinc 2 1, 3) := by decide +kernel
theorem dX0_idempotents_25 : decode cX0_idempotents 25 = .ok (.goto (-21), 3) := by decide +kernel
theorem dX0_idempotents_28 : decode cX0_idempotents 28 = .ok (.iload_n 1, 1) := by decide +kernel
theorem dX0_idempotents_29 : decode cX0_idempotents 29 = .ok (.ireturn, 1) := by decide +kernel
theorem dX0_kinds_0 : decode cX0_kinds 0 = .ok (.iconst 0, 1) := by decide +kernel
theorem dX0_kinds_1 : decode cX0_kinds 1 = .ok (.istore_n 1, 1) := by decide +kernel
theorem dX0_kinds_2 : decode cX0_kinds 2 = .ok (.iconst 0, 1) := by decide +kernel
theorem dX0_kinds_3 : decode cX0_kinds 3 = .ok (.istore_n 2, 1) := by decide +kernel
theorem dX0_kinds_4 : decode cX0_kinds 4 = .ok (.iload_n 2, 1) := by decide +kernel
theorem dX0_kinds_5 : decode cX0_kinds 5 = .ok (.bipush 32, 2) := by decide +kernel
theorem dX0_kinds_7 : decode cX0_kinds 7 = .ok (.if_icmp .ge 31, 3) := by decide +kernel
theorem dX0_kinds_10 : decode cX0_kinds 10 = .ok (.aload_n 0, 1) := by decide +kernel
theorem dX0_kinds_11 : decode cX0_kinds 11 = .ok (.getfield 37, 3) := by decide +kernel
theorem dX0_kinds_14 : decode cX0_kinds 14 = .ok (.iload_n 2, 1) := by decide +kernel
theorem dX0_kinds_15 : decode cX0_kinds 15 = .ok (.iaload, 1) := by decide +kernel
theorem dX0_kinds_16 : decode cX0_kinds 16 = .ok (.ifCond .le 16, 3) := by decide +kernel
theorem dX0_kinds_19 : decode cX0_kinds 19 = .ok (.aload_n 0, 1) := by decide +kernel
theorem dX0_kinds_20 : decode cX0_kinds 20 = .ok (.getfield 40, 3) := by decide +kernel
theorem dX0_kinds_23 : decode cX0_kinds 23 = .ok (.iload_n 2, 1) := by decide +kernel
theorem dX0_kinds_24 : decode cX0_kinds 24 = .ok (.iaload, 1) := by decide +kernel
theorem dX0_kinds_25 : decode cX0_kinds 25 = .ok (.iload_n 2, 1) := by decide +kernel
theorem dX0_kinds_26 : decode cX0_kinds 26 = .ok (.if_icmp .ne 6, 3) := by decide +kernel
theorem dX0_kinds_29 : decode cX0_kinds 29 = .ok (.iinc 1 1, 3) := by decide +kernel
theorem dX0_kinds_32 : decode cX0_kinds 32 = .ok (.iinc 2 1, 3) := by decide +kernel
theorem dX0_kinds_35 : decode cX0_kinds 35 = .ok (.goto (-31), 3) := by decide +kernel
theorem dX0_kinds_38 : decode cX0_kinds 38 = .ok (.iload_n 1, 1) := by decide +kernel
theorem dX0_kinds_39 : decode cX0_kinds 39 = .ok (.ireturn, 1) := by decide +kernel
theorem dX0_greatestGroup_0 : decode cX0_greatestGroup 0 = .ok (.iconst 0, 1) := by decide +kernel
theorem dX0_greatestGroup_1 : decode cX0_greatestGroup 1 = .ok (.istore_n 1, 1) := by decide +kernel
theorem dX0_greatestGroup_2 : decode cX0_greatestGroup 2 = .ok (.iconst 0, 1) := by decide +kernel
theorem dX0_greatestGroup_3 : decode cX0_greatestGroup 3 = .ok (.istore_n 2, 1) := by decide +kernel
theorem dX0_greatestGroup_4 : decode cX0_greatestGroup 4 = .ok (.iload_n 2, 1) := by decide +kernel
theorem dX0_greatestGroup_5 : decode cX0_greatestGroup 5 = .ok (.bipush 32, 2) := by decide +kernel
theorem dX0_greatestGroup_7 : decode cX0_greatestGroup 7 = .ok (.if_icmp .ge 20, 3) := by decide +kernel
theorem dX0_greatestGroup_10 : decode cX0_greatestGroup 10 = .ok (.iload_n 1, 1) := by decide +kernel
theorem dX0_greatestGroup_11 : decode cX0_greatestGroup 11 = .ok (.aload_n 0, 1) := by decide +kernel
theorem dX0_greatestGroup_12 : decode cX0_greatestGroup 12 = .ok (.getfield 37, 3) := by decide +kernel
theorem dX0_greatestGroup_15 : decode cX0_greatestGroup 15 = .ok (.iload_n 2, 1) := by decide +kernel
theorem dX0_greatestGroup_16 : decode cX0_greatestGroup 16 = .ok (.iaload, 1) := by decide +kernel
theorem dX0_greatestGroup_17 : decode cX0_greatestGroup 17 = .ok (.invokestatic 77, 3) := by decide +kernel
theorem dX0_greatestGroup_20 : decode cX0_greatestGroup 20 = .ok (.istore_n 1, 1) := by decide +kernel
theorem dX0_greatestGroup_21 : decode cX0_greatestGroup 21 = .ok (.iinc 2 1, 3) := by decide +kernel
theorem dX0_greatestGroup_24 : decode cX0_greatestGroup 24 = .ok (.goto (-20), 3) := by decide +kernel
theorem dX0_greatestGroup_27 : decode cX0_greatestGroup 27 = .ok (.iload_n 1, 1) := by decide +kernel
theorem dX0_greatestGroup_28 : decode cX0_greatestGroup 28 = .ok (.ireturn, 1) := by decide +kernel
theorem dX0_isClean_0 : decode cX0_isClean 0 = .ok (.iconst 0, 1) := by decide +kernel
theorem dX0_isClean_1 : decode cX0_isClean 1 = .ok (.istore_n 1, 1) := by decide +kernel
theorem dX0_isClean_2 : decode cX0_isClean 2 = .ok (.iload_n 1, 1) := by decide +kernel
theorem dX0_isClean_3 : decode cX0_isClean 3 = .ok (.aload_n 0, 1) := by decide +kernel
theorem dX0_isClean_4 : decode cX0_isClean 4 = .ok (.getfield 34, 3) := by decide +kernel
theorem dX0_isClean_7 : decode cX0_isClean 7 = .ok (.if_icmp .ge 39, 3) := by decide +kernel
theorem dX0_isClean_10 : decode cX0_isClean 10 = .ok (.aload_n 0, 1) := by decide +kernel
theorem dX0_isClean_11 : decode cX0_isClean 11 = .ok (.getfield 22, 3) := by decide +kernel
theorem dX0_isClean_14 : decode cX0_isClean 14 = .ok (.iload_n 1, 1) := by decide +kernel
theorem dX0_isClean_15 : decode cX0_isClean 15 = .ok (.iaload, 1) := by decide +kernel
theorem dX0_isClean_16 : decode cX0_isClean 16 = .ok (.invokestatic 82, 3) := by decide +kernel
theorem dX0_isClean_19 : decode cX0_isClean 19 = .ok (.ifCond .ne 21, 3) := by decide +kernel
theorem dX0_isClean_22 : decode cX0_isClean 22 = .ok (.aload_n 0, 1) := by decide +kernel
theorem dX0_isClean_23 : decode cX0_isClean 23 = .ok (.aload_n 0, 1) := by decide +kernel
theorem dX0_isClean_24 : decode cX0_isClean 24 = .ok (.getfield 22, 3) := by decide +kernel
theorem dX0_isClean_27 : decode cX0_isClean 27 = .ok (.iload_n 1, 1) := by decide +kernel
theorem dX0_isClean_28 : decode cX0_isClean 28 = .ok (.iaload, 1) := by decide +kernel
theorem dX0_isClean_29 : decode cX0_isClean 29 = .ok (.invokestatic 86, 3) := by decide +kernel
theorem dX0_isClean_32 : decode cX0_isClean 32 = .ok (.invokevirtual 89, 3) := by decide +kernel
theorem dX0_isClean_35 : decode cX0_isClean 35 = .ok (.ifCond .eq 5, 3) := by decide +kernel
theorem dX0_isClean_38 : decode cX0_isClean 38 = .ok (.iconst 0, 1) := by decide +kernel
theorem dX0_isClean_39 : decode cX0_isClean 39 = .ok (.ireturn, 1) := by decide +kernel
theorem dX0_isClean_40 : decode cX0_isClean 40 = .ok (.iinc 1 1, 3) := by decide +kernel
theorem dX0_isClean_43 : decode cX0_isClean 43 = .ok (.goto (-41), 3) := by decide +kernel
theorem dX0_isClean_46 : decode cX0_isClean 46 = .ok (.iconst 1, 1) := by decide +kernel
theorem dX0_isClean_47 : decode cX0_isClean 47 = .ok (.ireturn, 1) := by decide +kernel
theorem dX0_hasIdempotentWithin_0 : decode cX0_hasIdempotentWithin 0 = .ok (.iconst 0, 1) := by decide +kernel
theorem dX0_hasIdempotentWithin_1 : decode cX0_hasIdempotentWithin 1 = .ok (.istore_n 2, 1) := by decide +kernel
theorem dX0_hasIdempotentWithin_2 : decode cX0_hasIdempotentWithin 2 = .ok (.iload_n 2, 1) := by decide +kernel
theorem dX0_hasIdempotentWithin_3 : decode cX0_hasIdempotentWithin 3 = .ok (.bipush 32, 2) := by decide +kernel
theorem dX0_hasIdempotentWithin_5 : decode cX0_hasIdempotentWithin 5 = .ok (.if_icmp .ge 28, 3) := by decide +kernel
theorem dX0_hasIdempotentWithin_8 : decode cX0_hasIdempotentWithin 8 = .ok (.aload_n 0, 1) := by decide +kernel
theorem dX0_hasIdempotentWithin_9 : decode cX0_hasIdempotentWithin 9 = .ok (.getfield 37, 3) := by decide +kernel
theorem dX0_hasIdempotentWithin_12 : decode cX0_hasIdempotentWithin 12 = .ok (.iload_n 2, 1) := by decide +kernel
theorem dX0_hasIdempotentWithin_13 : decode cX0_hasIdempotentWithin 13 = .ok (.iaload, 1) := by decide +kernel
theorem dX0_hasIdempotentWithin_14 : decode cX0_hasIdempotentWithin 14 = .ok (.ifCond .le 13, 3) := by decide +kernel
theorem dX0_hasIdempotentWithin_17 : decode cX0_hasIdempotentWithin 17 = .ok (.iload_n 2, 1) := by decide +kernel
theorem dX0_hasIdempotentWithin_18 : decode cX0_hasIdempotentWithin 18 = .ok (.iload_n 1, 1) := by decide +kernel
theorem dX0_hasIdempotentWithin_19 : decode cX0_hasIdempotentWithin 19 = .ok (.iconst (-1), 1) := by decide +kernel
theorem dX0_hasIdempotentWithin_20 : decode cX0_hasIdempotentWithin 20 = .ok (.ixor, 1) := by decide +kernel
theorem dX0_hasIdempotentWithin_21 : decode cX0_hasIdempotentWithin 21 = .ok (.iand, 1) := by decide +kernel
theorem dX0_hasIdempotentWithin_22 : decode cX0_hasIdempotentWithin 22 = .ok (.ifCond .ne 5, 3) := by decide +kernel
theorem dX0_hasIdempotentWithin_25 : decode cX0_hasIdempotentWithin 25 = .ok (.iconst 1, 1) := by decide +kernel
theorem dX0_hasIdempotentWithin_26 : decode cX0_hasIdempotentWithin 26 = .ok (.ireturn, 1) := by decide +kernel
theorem dX0_hasIdempotentWithin_27 : decode cX0_hasIdempotentWithin 27 = .ok (.iinc 2 1, 3) := by decide +kernel
theorem dX0_hasIdempotentWithin_30 : decode cX0_hasIdempotentWithin 30 = .ok (.goto (-28), 3) := by decide +kernel
theorem dX0_hasIdempotentWithin_33 : decode cX0_hasIdempotentWithin 33 = .ok (.iconst 0, 1) := by decide +kernel
theorem dX0_hasIdempotentWithin_34 : decode cX0_hasIdempotentWithin 34 = .ok (.ireturn, 1) := by decide +kernel
theorem dX0_imageGroup_0 : decode cX0_imageGroup 0 = .ok (.bipush 31, 2) := by decide +kernel
theorem dX0_imageGroup_2 : decode cX0_imageGroup 2 = .ok (.istore_n 1, 1) := by decide +kernel
theorem dX0_imageGroup_3 : decode cX0_imageGroup 3 = .ok (.iconst 0, 1) := by decide +kernel
theorem dX0_imageGroup_4 : decode cX0_imageGroup 4 = .ok (.istore_n 2, 1) := by decide +kernel
theorem dX0_imageGroup_5 : decode cX0_imageGroup 5 = .ok (.iload_n 2, 1) := by decide +kernel
theorem dX0_imageGroup_6 : decode cX0_imageGroup 6 = .ok (.bipush 32, 2) := by decide +kernel
theorem dX0_imageGroup_8 : decode cX0_imageGroup 8 = .ok (.if_icmp .ge 22, 3) := by decide +kernel
theorem dX0_imageGroup_11 : decode cX0_imageGroup 11 = .ok (.aload_n 0, 1) := by decide +kernel
theorem dX0_imageGroup_12 : decode cX0_imageGroup 12 = .ok (.getfield 37, 3) := by decide +kernel
theorem dX0_imageGroup_15 : decode cX0_imageGroup 15 = .ok (.iload_n 2, 1) := by decide +kernel
theorem dX0_imageGroup_16 : decode cX0_imageGroup 16 = .ok (.iaload, 1) := by decide +kernel
theorem dX0_imageGroup_17 : decode cX0_imageGroup 17 = .ok (.ifCond .le 7, 3) := by decide +kernel
theorem dX0_imageGroup_20 : decode cX0_imageGroup 20 = .ok (.iload_n 1, 1) := by decide +kernel
theorem dX0_imageGroup_21 : decode cX0_imageGroup 21 = .ok (.iload_n 2, 1) := by decide +kernel
theorem dX0_imageGroup_22 : decode cX0_imageGroup 22 = .ok (.iand, 1) := by decide +kernel
theorem dX0_imageGroup_23 : decode cX0_imageGroup 23 = .ok (.istore_n 1, 1) := by decide +kernel
theorem dX0_imageGroup_24 : decode cX0_imageGroup 24 = .ok (.iinc 2 1, 3) := by decide +kernel
theorem dX0_imageGroup_27 : decode cX0_imageGroup 27 = .ok (.goto (-22), 3) := by decide +kernel
theorem dX0_imageGroup_30 : decode cX0_imageGroup 30 = .ok (.aload_n 0, 1) := by decide +kernel
theorem dX0_imageGroup_31 : decode cX0_imageGroup 31 = .ok (.getfield 37, 3) := by decide +kernel
theorem dX0_imageGroup_34 : decode cX0_imageGroup 34 = .ok (.iload_n 1, 1) := by decide +kernel
theorem dX0_imageGroup_35 : decode cX0_imageGroup 35 = .ok (.iaload, 1) := by decide +kernel
theorem dX0_imageGroup_36 : decode cX0_imageGroup 36 = .ok (.ireturn, 1) := by decide +kernel
theorem dX1_digit_0 : decode cX1_digit 0 = .ok (.iload_n 0, 1) := by decide +kernel
theorem dX1_digit_1 : decode cX1_digit 1 = .ok (.getstatic 9, 3) := by decide +kernel
theorem dX1_digit_4 : decode cX1_digit 4 = .ok (.iload_n 1, 1) := by decide +kernel
theorem dX1_digit_5 : decode cX1_digit 5 = .ok (.iaload, 1) := by decide +kernel
theorem dX1_digit_6 : decode cX1_digit 6 = .ok (.idiv, 1) := by decide +kernel
theorem dX1_digit_7 : decode cX1_digit 7 = .ok (.bipush 6, 2) := by decide +kernel
theorem dX1_digit_9 : decode cX1_digit 9 = .ok (.irem, 1) := by decide +kernel
theorem dX1_digit_10 : decode cX1_digit 10 = .ok (.ireturn, 1) := by decide +kernel
theorem dX1_isMap_0 : decode cX1_isMap 0 = .ok (.iload_n 0, 1) := by decide +kernel
theorem dX1_isMap_1 : decode cX1_isMap 1 = .ok (.ifCond .lt 21, 3) := by decide +kernel
theorem dX1_isMap_4 : decode cX1_isMap 4 = .ok (.iload_n 0, 1) := by decide +kernel
theorem dX1_isMap_5 : decode cX1_isMap 5 = .ok (.sipush 7776, 3) := by decide +kernel
theorem dX1_isMap_8 : decode cX1_isMap 8 = .ok (.if_icmp .ge 14, 3) := by decide +kernel
theorem dX1_isMap_11 : decode cX1_isMap 11 = .ok (.iload_n 0, 1) := by decide +kernel
theorem dX1_isMap_12 : decode cX1_isMap 12 = .ok (.invokestatic 13, 3) := by decide +kernel
theorem dX1_isMap_15 : decode cX1_isMap 15 = .ok (.ifCond .eq 7, 3) := by decide +kernel
theorem dX1_isMap_18 : decode cX1_isMap 18 = .ok (.iconst 1, 1) := by decide +kernel
theorem dX1_isMap_19 : decode cX1_isMap 19 = .ok (.goto 4, 3) := by decide +kernel
theorem dX1_isMap_22 : decode cX1_isMap 22 = .ok (.iconst 0, 1) := by decide +kernel
theorem dX1_isMap_23 : decode cX1_isMap 23 = .ok (.ireturn, 1) := by decide +kernel
theorem dX1_isInjective_0 : decode cX1_isInjective 0 = .ok (.iconst 0, 1) := by decide +kernel
theorem dX1_isInjective_1 : decode cX1_isInjective 1 = .ok (.istore_n 1, 1) := by decide +kernel
theorem dX1_isInjective_2 : decode cX1_isInjective 2 = .ok (.iconst 0, 1) := by decide +kernel
theorem dX1_isInjective_3 : decode cX1_isInjective 3 = .ok (.istore_n 2, 1) := by decide +kernel
theorem dX1_isInjective_4 : decode cX1_isInjective 4 = .ok (.iload_n 2, 1) := by decide +kernel
theorem dX1_isInjective_5 : decode cX1_isInjective 5 = .ok (.iconst 5, 1) := by decide +kernel
theorem dX1_isInjective_6 : decode cX1_isInjective 6 = .ok (.if_icmp .ge 36, 3) := by decide +kernel
theorem dX1_isInjective_9 : decode cX1_isInjective 9 = .ok (.iload_n 0, 1) := by decide +kernel
theorem dX1_isInjective_10 : decode cX1_isInjective 10 = .ok (.iload_n 2, 1) := by decide +kernel
theorem dX1_isInjective_11 : decode cX1_isInjective 11 = .ok (.invokestatic 19, 3) := by decide +kernel
theorem dX1_isInjective_14 : decode cX1_isInjective 14 = .ok (.istore_n 3, 1) := by decide +kernel
theorem dX1_isInjective_15 : decode cX1_isInjective 15 = .ok (.iload_n 3, 1) := by decide +kernel
theorem dX1_isInjective_16 : decode cX1_isInjective 16 = .ok (.ifCond .le 14, 3) := by decide +kernel
theorem dX1_isInjective_19 : decode cX1_isInjective 19 = .ok (.iload_n 1, 1) := by decide +kernel
theorem dX1_isInjective_20 : decode cX1_isInjective 20 = .ok (.iload_n 3, 1) := by decide +kernel
theorem dX1_isInjective_21 : decode cX1_isInjective 21 = .ok (.ishr, 1) := by decide +kernel
theorem dX1_isInjective_22 : decode cX1_isInjective 22 = .ok (.iconst 1, 1) := by decide +kernel
theorem dX1_isInjective_23 : decode cX1_isInjective 23 = .ok (.iand, 1) := by decide +kernel
theorem dX1_isInjective_24 : decode cX1_isInjective 24 = .ok (.iconst 1, 1) := by decide +kernel
theorem dX1_isInjective_25 : decode cX1_isInjective 25 = .ok (.if_icmp .ne 5, 3) := by decide +kernel
theorem dX1_isInjective_28 : decode cX1_isInjective 28 = .ok (.iconst 0, 1) := by decide +kernel
theorem dX1_isInjective_29 : decode cX1_isInjective 29 = .ok (.ireturn, 1) := by decide +kernel
theorem dX1_isInjective_30 : decode cX1_isInjective 30 = .ok (.iload_n 1, 1) := by decide +kernel
theorem dX1_isInjective_31 : decode cX1_isInjective 31 = .ok (.iconst 1, 1) := by decide +kernel
theorem dX1_isInjective_32 : decode cX1_isInjective 32 = .ok (.iload_n 3, 1) := by decide +kernel
theorem dX1_isInjective_33 : decode cX1_isInjective 33 = .ok (.ishl, 1) := by decide +kernel
theorem dX1_isInjective_34 : decode cX1_isInjective 34 = .ok (.ior, 1) := by decide +kernel
theorem dX1_isInjective_35 : decode cX1_isInjective 35 = .ok (.istore_n 1, 1) := by decide +kernel
theorem dX1_isInjective_36 : decode cX1_isInjective 36 = .ok (.iinc 2 1, 3) := by decide +kernel
theorem dX1_isInjective_39 : decode cX1_isInjective 39 = .ok (.goto (-35), 3) := by decide +kernel
theorem dX1_isInjective_42 : decode cX1_isInjective 42 = .ok (.iconst 1, 1) := by decide +kernel
theorem dX1_isInjective_43 : decode cX1_isInjective 43 = .ok (.ireturn, 1) := by decide +kernel
theorem dX1_rank_0 : decode cX1_rank 0 = .ok (.iload_n 0, 1) := by decide +kernel
theorem dX1_rank_1 : decode cX1_rank 1 = .ok (.invokestatic 23, 3) := by decide +kernel
theorem dX1_rank_4 : decode cX1_rank 4 = .ok (.invokestatic 27, 3) := by decide +kernel
theorem dX1_rank_7 : decode cX1_rank 7 = .ok (.ireturn, 1) := by decide +kernel
theorem dX1_isIdempotent_0 : decode cX1_isIdempotent 0 = .ok (.iload_n 0, 1) := by decide +kernel
theorem dX1_isIdempotent_1 : decode cX1_isIdempotent 1 = .ok (.invokestatic 32, 3) := by decide +kernel
theorem dX1_isIdempotent_4 : decode cX1_isIdempotent 4 = .ok (.iload_n 0, 1) := by decide +kernel
theorem dX1_isIdempotent_5 : decode cX1_isIdempotent 5 = .ok (.invokestatic 23, 3) := by decide +kernel
theorem dX1_isIdempotent_8 : decode cX1_isIdempotent 8 = .ok (.if_icmp .ne 7, 3) := by decide +kernel
theorem dX1_isIdempotent_11 : decode cX1_isIdempotent 11 = .ok (.iconst 1, 1) := by decide +kernel
theorem dX1_isIdempotent_12 : decode cX1_isIdempotent 12 = .ok (.goto 4, 3) := by decide +kernel
theorem dX1_isIdempotent_15 : decode cX1_isIdempotent 15 = .ok (.iconst 0, 1) := by decide +kernel
theorem dX1_isIdempotent_16 : decode cX1_isIdempotent 16 = .ok (.ireturn, 1) := by decide +kernel
theorem dX1_idempotentPower_0 : decode cX1_idempotentPower 0 = .ok (.iload_n 0, 1) := by decide +kernel
theorem dX1_idempotentPower_1 : decode cX1_idempotentPower 1 = .ok (.istore_n 1, 1) := by decide +kernel
theorem dX1_idempotentPower_2 : decode cX1_idempotentPower 2 = .ok (.iconst 1, 1) := by decide +kernel
theorem dX1_idempotentPower_3 : decode cX1_idempotentPower 3 = .ok (.istore_n 2, 1) := by decide +kernel
theorem dX1_idempotentPower_4 : decode cX1_idempotentPower 4 = .ok (.iload_n 2, 1) := by decide +kernel
theorem dX1_idempotentPower_5 : decode cX1_idempotentPower 5 = .ok (.sipush 1000, 3) := by decide +kernel
theorem dX1_idempotentPower_8 : decode cX1_idempotentPower 8 = .ok (.if_icmp .ge 22, 3) := by decide +kernel
theorem dX1_idempotentPower_11 : decode cX1_idempotentPower 11 = .ok (.iload_n 1, 1) := by decide +kernel
theorem dX1_idempotentPower_12 : decode cX1_idempotentPower 12 = .ok (.invokestatic 35, 3) := by decide +kernel
theorem dX1_idempotentPower_15 : decode cX1_idempotentPower 15 = .ok (.ifCond .ne 15, 3) := by decide +kernel
theorem dX1_idempotentPower_18 : decode cX1_idempotentPower 18 = .ok (.iload_n 1, 1) := by decide +kernel
theorem dX1_idempotentPower_19 : decode cX1_idempotentPower 19 = .ok (.iload_n 0, 1) := by decide +kernel
theorem dX1_idempotentPower_20 : decode cX1_idempotentPower 20 = .ok (.invokestatic 38, 3) := by decide +kernel
theorem dX1_idempotentPower_23 : decode cX1_idempotentPower 23 = .ok (.istore_n 1, 1) := by decide +kernel
theorem dX1_idempotentPower_24 : decode cX1_idempotentPower 24 = .ok (.iinc 2 1, 3) := by decide +kernel
theorem dX1_idempotentPower_27 : decode cX1_idempotentPower 27 = .ok (.goto (-23), 3) := by decide +kernel
theorem dX1_idempotentPower_30 : decode cX1_idempotentPower 30 = .ok (.iload_n 2, 1) := by decide +kernel
theorem dX1_idempotentPower_31 : decode cX1_idempotentPower 31 = .ok (.ireturn, 1) := by decide +kernel
theorem dX1_then_0 : decode cX1_then 0 = .ok (.iconst 0, 1) := by decide +kernel
theorem dX1_then_1 : decode cX1_then 1 = .ok (.istore_n 2, 1) := by decide +kernel
theorem dX1_then_2 : decode cX1_then 2 = .ok (.iconst 0, 1) := by decide +kernel
theorem dX1_then_3 : decode cX1_then 3 = .ok (.istore_n 3, 1) := by decide +kernel
theorem dX1_then_4 : decode cX1_then 4 = .ok (.iload_n 3, 1) := by decide +kernel
theorem dX1_then_5 : decode cX1_then 5 = .ok (.iconst 5, 1) := by decide +kernel
theorem dX1_then_6 : decode cX1_then 6 = .ok (.if_icmp .ge 38, 3) := by decide +kernel
theorem dX1_then_9 : decode cX1_then 9 = .ok (.iload_n 0, 1) := by decide +kernel
theorem dX1_then_10 : decode cX1_then 10 = .ok (.iload_n 3, 1) := by decide +kernel
theorem dX1_then_11 : decode cX1_then 11 = .ok (.invokestatic 19, 3) := by decide +kernel
theorem dX1_then_14 : decode cX1_then 14 = .ok (.istore 4, 2) := by decide +kernel
theorem dX1_then_16 : decode cX1_then 16 = .ok (.iload 4, 2) := by decide +kernel
theorem dX1_then_18 : decode cX1_then 18 = .ok (.ifCond .le 20, 3) := by decide +kernel
theorem dX1_then_21 : decode cX1_then 21 = .ok (.iload_n 2, 1) := by decide +kernel
theorem dX1_then_22 : decode cX1_then 22 = .ok (.iload_n 1, 1) := by decide +kernel
theorem dX1_then_23 : decode cX1_then 23 = .ok (.iload 4, 2) := by decide +kernel
theorem dX1_then_25 : decode cX1_then 25 = .ok (.iconst 1, 1) := by decide +kernel
theorem dX1_then_26 : decode cX1_then 26 = .ok (.isub, 1) := by decide +kernel
theorem dX1_then_27 : decode cX1_then 27 = .ok (.invokestatic 19, 3) := by decide +kernel
theorem dX1_then_30 : decode cX1_then 30 = .ok (.getstatic 9, 3) := by decide +kernel
theorem dX1_then_33 : decode cX1_then 33 = .ok (.iload_n 3, 1) := by decide +kernel
theorem dX1_then_34 : decode cX1_then 34 = .ok (.iaload, 1) := by decide +kernel
theorem dX1_then_35 : decode cX1_then 35 = .ok (.imul, 1) := by decide +kernel
theorem dX1_then_36 : decode cX1_then 36 = .ok (.iadd, 1) := by decide +kernel
theorem dX1_then_37 : decode cX1_then 37 = .ok (.istore_n 2, 1) := by decide +kernel
theorem dX1_then_38 : decode cX1_then 38 = .ok (.iinc 3 1, 3) := by decide +kernel
theorem dX1_then_41 : decode cX1_then 41 = .ok (.goto (-37), 3) := by decide +kernel
theorem dX1_then_44 : decode cX1_then 44 = .ok (.iload_n 2, 1) := by decide +kernel
theorem dX1_then_45 : decode cX1_then 45 = .ok (.ireturn, 1) := by decide +kernel
theorem dX1_inverse_0 : decode cX1_inverse 0 = .ok (.iconst 0, 1) := by decide +kernel
theorem dX1_inverse_1 : decode cX1_inverse 1 = .ok (.istore_n 1, 1) := by decide +kernel
theorem dX1_inverse_2 : decode cX1_inverse 2 = .ok (.iconst 0, 1) := by decide +kernel
theorem dX1_inverse_3 : decode cX1_inverse 3 = .ok (.istore_n 2, 1) := by decide +kernel
theorem dX1_inverse_4 : decode cX1_inverse 4 = .ok (.iload_n 2, 1) := by decide +kernel
theorem dX1_inverse_5 : decode cX1_inverse 5 = .ok (.iconst 5, 1) := by decide +kernel
theorem dX1_inverse_6 : decode cX1_inverse 6 = .ok (.if_icmp .ge 33, 3) := by decide +kernel
theorem dX1_inverse_9 : decode cX1_inverse 9 = .ok (.iload_n 0, 1) := by decide +kernel
theorem dX1_inverse_10 : decode cX1_inverse 10 = .ok (.iload_n 2, 1) := by decide +kernel
theorem dX1_inverse_11 : decode cX1_inverse 11 = .ok (.invokestatic 19, 3) := by decide +kernel
theorem dX1_inverse_14 : decode cX1_inverse 14 = .ok (.istore_n 3, 1) := by decide +kernel
theorem dX1_inverse_15 : decode cX1_inverse 15 = .ok (.iload_n 3, 1) := by decide +kernel
theorem dX1_inverse_16 : decode cX1_inverse 16 = .ok (.ifCond .le 17, 3) := by decide +kernel
theorem dX1_inverse_19 : decode cX1_inverse 19 = .ok (.iload_n 1, 1) := by decide +kernel
theorem dX1_inverse_20 : decode cX1_inverse 20 = .ok (.iload_n 2, 1) := by decide +kernel
theorem dX1_inverse_21 : decode cX1_inverse 21 = .ok (.iconst 1, 1) := by decide +kernel
theorem dX1_inverse_22 : decode cX1_inverse 22 = .ok (.iadd, 1) := by decide +kernel
theorem dX1_inverse_23 : decode cX1_inverse 23 = .ok (.getstatic 9, 3) := by decide +kernel
theorem dX1_inverse_26 : decode cX1_inverse 26 = .ok (.iload_n 3, 1) := by decide +kernel
theorem dX1_inverse_27 : decode cX1_inverse 27 = .ok (.iconst 1, 1) := by decide +kernel
theorem dX1_inverse_28 : decode cX1_inverse 28 = .ok (.isub, 1) := by decide +kernel
theorem dX1_inverse_29 : decode cX1_inverse 29 = .ok (.iaload, 1) := by decide +kernel
theorem dX1_inverse_30 : decode cX1_inverse 30 = .ok (.imul, 1) := by decide +kernel
theorem dX1_inverse_31 : decode cX1_inverse 31 = .ok (.iadd, 1) := by decide +kernel
theorem dX1_inverse_32 : decode cX1_inverse 32 = .ok (.istore_n 1, 1) := by decide +kernel
theorem dX1_inverse_33 : decode cX1_inverse 33 = .ok (.iinc 2 1, 3) := by decide +kernel
theorem dX1_inverse_36 : decode cX1_inverse 36 = .ok (.goto (-32), 3) := by decide +kernel
theorem dX1_inverse_39 : decode cX1_inverse 39 = .ok (.iload_n 1, 1) := by decide +kernel
theorem dX1_inverse_40 : decode cX1_inverse 40 = .ok (.ireturn, 1) := by decide +kernel
theorem dX1_meet_0 : decode cX1_meet 0 = .ok (.iconst 0, 1) := by decide +kernel
theorem dX1_meet_1 : decode cX1_meet 1 = .ok (.istore_n 2, 1) := by decide +kernel
theorem dX1_meet_2 : decode cX1_meet 2 = .ok (.iconst 0, 1) := by decide +kernel
theorem dX1_meet_3 : decode cX1_meet 3 = .ok (.istore_n 3, 1) := by decide +kernel
theorem dX1_meet_4 : decode cX1_meet 4 = .ok (.iload_n 3, 1) := by decide +kernel
theorem dX1_meet_5 : decode cX1_meet 5 = .ok (.iconst 5, 1) := by decide +kernel
theorem dX1_meet_6 : decode cX1_meet 6 = .ok (.if_icmp .ge 37, 3) := by decide +kernel
theorem dX1_meet_9 : decode cX1_meet 9 = .ok (.iload_n 0, 1) := by decide +kernel
theorem dX1_meet_10 : decode cX1_meet 10 = .ok (.iload_n 3, 1) := by decide +kernel
theorem dX1_meet_11 : decode cX1_meet 11 = .ok (.invokestatic 19, 3) := by decide +kernel
theorem dX1_meet_14 : decode cX1_meet 14 = .ok (.istore 4, 2) := by decide +kernel
theorem dX1_meet_16 : decode cX1_meet 16 = .ok (.iload 4, 2) := by decide +kernel
theorem dX1_meet_18 : decode cX1_meet 18 = .ok (.iload_n 1, 1) := by decide +kernel
theorem dX1_meet_19 : decode cX1_meet 19 = .ok (.iload_n 3, 1) := by decide +kernel
theorem dX1_meet_20 : decode cX1_meet 20 = .ok (.invokestatic 19, 3) := by decide +kernel
theorem dX1_meet_23 : decode cX1_meet 23 = .ok (.if_icmp .ne 14, 3) := by decide +kernel
theorem dX1_meet_26 : decode cX1_meet 26 = .ok (.iload_n 2, 1) := by decide +kernel
theorem dX1_meet_27 : decode cX1_meet 27 = .ok (.iload 4, 2) := by decide +kernel
theorem dX1_meet_29 : decode cX1_meet 29 = .ok (.getstatic 9, 3) := by decide +kernel
theorem dX1_meet_32 : decode cX1_meet 32 = .ok (.iload_n 3, 1) := by decide +kernel
theorem dX1_meet_33 : decode cX1_meet 33 = .ok (.iaload, 1) := by decide +kernel
theorem dX1_meet_34 : decode cX1_meet 34 = .ok (.imul, 1) := by decide +kernel
theorem dX1_meet_35 : decode cX1_meet 35 = .ok (.iadd, 1) := by decide +kernel
theorem dX1_meet_36 : decode cX1_meet 36 = .ok (.istore_n 2, 1) := by decide +kernel
theorem dX1_meet_37 : decode cX1_meet 37 = .ok (.iinc 3 1, 3) := by decide +kernel
theorem dX1_meet_40 : decode cX1_meet 40 = .ok (.goto (-36), 3) := by decide +kernel
theorem dX1_meet_43 : decode cX1_meet 43 = .ok (.iload_n 2, 1) := by decide +kernel
theorem dX1_meet_44 : decode cX1_meet 44 = .ok (.ireturn, 1) := by decide +kernel
theorem dX1_join_0 : decode cX1_join 0 = .ok (.iconst 0, 1) := by decide +kernel
theorem dX1_join_1 : decode cX1_join 1 = .ok (.istore_n 2, 1) := by decide +kernel
theorem dX1_join_2 : decode cX1_join 2 = .ok (.iconst 0, 1) := by decide +kernel
theorem dX1_join_3 : decode cX1_join 3 = .ok (.istore_n 3, 1) := by decide +kernel
theorem dX1_join_4 : decode cX1_join 4 = .ok (.iload_n 3, 1) := by decide +kernel
theorem dX1_join_5 : decode cX1_join 5 = .ok (.iconst 5, 1) := by decide +kernel
theorem dX1_join_6 : decode cX1_join 6 = .ok (.if_icmp .ge 58, 3) := by decide +kernel
theorem dX1_join_9 : decode cX1_join 9 = .ok (.iload_n 0, 1) := by decide +kernel
theorem dX1_join_10 : decode cX1_join 10 = .ok (.iload_n 3, 1) := by decide +kernel
theorem dX1_join_11 : decode cX1_join 11 = .ok (.invokestatic 19, 3) := by decide +kernel
theorem dX1_join_14 : decode cX1_join 14 = .ok (.istore 4, 2) := by decide +kernel
theorem dX1_join_16 : decode cX1_join 16 = .ok (.iload_n 1, 1) := by decide +kernel
theorem dX1_join_17 : decode cX1_join 17 = .ok (.iload_n 3, 1) := by decide +kernel
theorem dX1_join_18 : decode cX1_join 18 = .ok (.invokestatic 19, 3) := by decide +kernel
theorem dX1_join_21 : decode cX1_join 21 = .ok (.istore 5, 2) := by decide +kernel
theorem dX1_join_23 : decode cX1_join 23 = .ok (.iload 4, 2) := by decide +kernel
theorem dX1_join_25 : decode cX1_join 25 = .ok (.ifCond .le 17, 3) := by decide +kernel
theorem dX1_join_28 : decode cX1_join 28 = .ok (.iload 5, 2) := by decide +kernel
theorem dX1_join_30 : decode cX1_join 30 = .ok (.ifCond .le 12, 3) := by decide +kernel
theorem dX1_join_33 : decode cX1_join 33 = .ok (.iload 4, 2) := by decide +kernel
theorem dX1_join_35 : decode cX1_join 35 = .ok (.iload 5, 2) := by decide +kernel
theorem dX1_join_37 : decode cX1_join 37 = .ok (.if_icmp .eq 5, 3) := by decide +kernel
theorem dX1_join_40 : decode cX1_join 40 = .ok (.iconst (-1), 1) := by decide +kernel
theorem dX1_join_41 : decode cX1_join 41 = .ok (.ireturn, 1) := by decide +kernel
theorem dX1_join_42 : decode cX1_join 42 = .ok (.iload_n 2, 1) := by decide +kernel
theorem dX1_join_43 : decode cX1_join 43 = .ok (.iload 4, 2) := by decide +kernel
theorem dX1_join_45 : decode cX1_join 45 = .ok (.iload 5, 2) := by decide +kernel
theorem dX1_join_47 : decode cX1_join 47 = .ok (.invokestatic 41, 3) := by decide +kernel
theorem dX1_join_50 : decode cX1_join 50 = .ok (.getstatic 9, 3) := by decide +kernel
theorem dX1_join_53 : decode cX1_join 53 = .ok (.iload_n 3, 1) := by decide +kernel
theorem dX1_join_54 : decode cX1_join 54 = .ok (.iaload, 1) := by decide +kernel
theorem dX1_join_55 : decode cX1_join 55 = .ok (.imul, 1) := by decide +kernel
theorem dX1_join_56 : decode cX1_join 56 = .ok (.iadd, 1) := by decide +kernel
theorem dX1_join_57 : decode cX1_join 57 = .ok (.istore_n 2, 1) := by decide +kernel
theorem dX1_join_58 : decode cX1_join 58 = .ok (.iinc 3 1, 3) := by decide +kernel
theorem dX1_join_61 : decode cX1_join 61 = .ok (.goto (-57), 3) := by decide +kernel
theorem dX1_join_64 : decode cX1_join 64 = .ok (.iload_n 2, 1) := by decide +kernel
theorem dX1_join_65 : decode cX1_join 65 = .ok (.invokestatic 13, 3) := by decide +kernel
theorem dX1_join_68 : decode cX1_join 68 = .ok (.ifCond .eq 7, 3) := by decide +kernel
theorem dX1_join_71 : decode cX1_join 71 = .ok (.iload_n 2, 1) := by decide +kernel
theorem dX1_join_72 : decode cX1_join 72 = .ok (.goto 4, 3) := by decide +kernel
theorem dX1_join_75 : decode cX1_join 75 = .ok (.iconst (-1), 1) := by decide +kernel
theorem dX1_join_76 : decode cX1_join 76 = .ok (.ireturn, 1) := by decide +kernel
theorem dX1_dom_0 : decode cX1_dom 0 = .ok (.iconst 0, 1) := by decide +kernel
theorem dX1_dom_1 : decode cX1_dom 1 = .ok (.istore_n 1, 1) := by decide +kernel
theorem dX1_dom_2 : decode cX1_dom 2 = .ok (.iconst 0, 1) := by decide +kernel
theorem dX1_dom_3 : decode cX1_dom 3 = .ok (.istore_n 2, 1) := by decide +kernel
theorem dX1_dom_4 : decode cX1_dom 4 = .ok (.iload_n 2, 1) := by decide +kernel
theorem dX1_dom_5 : decode cX1_dom 5 = .ok (.iconst 5, 1) := by decide +kernel
theorem dX1_dom_6 : decode cX1_dom 6 = .ok (.if_icmp .ge 29, 3) := by decide +kernel
theorem dX1_dom_9 : decode cX1_dom 9 = .ok (.iload_n 0, 1) := by decide +kernel
theorem dX1_dom_10 : decode cX1_dom 10 = .ok (.iload_n 2, 1) := by decide +kernel
theorem dX1_dom_11 : decode cX1_dom 11 = .ok (.invokestatic 19, 3) := by decide +kernel
theorem dX1_dom_14 : decode cX1_dom 14 = .ok (.ifCond .le 15, 3) := by decide +kernel
theorem dX1_dom_17 : decode cX1_dom 17 = .ok (.iload_n 1, 1) := by decide +kernel
theorem dX1_dom_18 : decode cX1_dom 18 = .ok (.iload_n 2, 1) := by decide +kernel
theorem dX1_dom_19 : decode cX1_dom 19 = .ok (.iconst 1, 1) := by decide +kernel
theorem dX1_dom_20 : decode cX1_dom 20 = .ok (.iadd, 1) := by decide +kernel
theorem dX1_dom_21 : decode cX1_dom 21 = .ok (.getstatic 9, 3) := by decide +kernel
theorem dX1_dom_24 : decode cX1_dom 24 = .ok (.iload_n 2, 1) := by decide +kernel
theorem dX1_dom_25 : decode cX1_dom 25 = .ok (.iaload, 1) := by decide +kernel
theorem dX1_dom_26 : decode cX1_dom 26 = .ok (.imul, 1) := by decide +kernel
theorem dX1_dom_27 : decode cX1_dom 27 = .ok (.iadd, 1) := by decide +kernel
theorem dX1_dom_28 : decode cX1_dom 28 = .ok (.istore_n 1, 1) := by decide +kernel
theorem dX1_dom_29 : decode cX1_dom 29 = .ok (.iinc 2 1, 3) := by decide +kernel
theorem dX1_dom_32 : decode cX1_dom 32 = .ok (.goto (-28), 3) := by decide +kernel
theorem dX1_dom_35 : decode cX1_dom 35 = .ok (.iload_n 1, 1) := by decide +kernel
theorem dX1_dom_36 : decode cX1_dom 36 = .ok (.ireturn, 1) := by decide +kernel
theorem dX1_domPoints_0 : decode cX1_domPoints 0 = .ok (.iconst 0, 1) := by decide +kernel
theorem dX1_domPoints_1 : decode cX1_domPoints 1 = .ok (.istore_n 1, 1) := by decide +kernel
theorem dX1_domPoints_2 : decode cX1_domPoints 2 = .ok (.iconst 0, 1) := by decide +kernel
theorem dX1_domPoints_3 : decode cX1_domPoints 3 = .ok (.istore_n 2, 1) := by decide +kernel
theorem dX1_domPoints_4 : decode cX1_domPoints 4 = .ok (.iload_n 2, 1) := by decide +kernel
theorem dX1_domPoints_5 : decode cX1_domPoints 5 = .ok (.iconst 5, 1) := by decide +kernel
theorem dX1_domPoints_6 : decode cX1_domPoints 6 = .ok (.if_icmp .ge 23, 3) := by decide +kernel
theorem dX1_domPoints_9 : decode cX1_domPoints 9 = .ok (.iload_n 0, 1) := by decide +kernel
theorem dX1_domPoints_10 : decode cX1_domPoints 10 = .ok (.iload_n 2, 1) := by decide +kernel
theorem dX1_domPoints_11 : decode cX1_domPoints 11 = .ok (.invokestatic 19, 3) := by decide +kernel
theorem dX1_domPoints_14 : decode cX1_domPoints 14 = .ok (.ifCond .le 9, 3) := by decide +kernel
theorem dX1_domPoints_17 : decode cX1_domPoints 17 = .ok (.iload_n 1, 1) := by decide +kernel
theorem dX1_domPoints_18 : decode cX1_domPoints 18 = .ok (.iconst 1, 1) := by decide +kernel
theorem dX1_domPoints_19 : decode cX1_domPoints 19 = .ok (.iload_n 2, 1) := by decide +kernel
theorem dX1_domPoints_20 : decode cX1_domPoints 20 = .ok (.ishl, 1) := by decide +kernel
theorem dX1_domPoints_21 : decode cX1_domPoints 21 = .ok (.ior, 1) := by decide +kernel
theorem dX1_domPoints_22 : decode cX1_domPoints 22 = .ok (.istore_n 1, 1) := by decide +kernel
theorem dX1_domPoints_23 : decode cX1_domPoints 23 = .ok (.iinc 2 1, 3) := by decide +kernel
theorem dX1_domPoints_26 : decode cX1_domPoints 26 = .ok (.goto (-22), 3) := by decide +kernel
theorem dX1_domPoints_29 : decode cX1_domPoints 29 = .ok (.iload_n 1, 1) := by decide +kernel
theorem dX1_domPoints_30 : decode cX1_domPoints 30 = .ok (.ireturn, 1) := by decide +kernel
theorem dX1_ranPoints_0 : decode cX1_ranPoints 0 = .ok (.iconst 0, 1) := by decide +kernel
theorem dX1_ranPoints_1 : decode cX1_ranPoints 1 = .ok (.istore_n 1, 1) := by decide +kernel
theorem dX1_ranPoints_2 : decode cX1_ranPoints 2 = .ok (.iconst 0, 1) := by decide +kernel
theorem dX1_ranPoints_3 : decode cX1_ranPoints 3 = .ok (.istore_n 2, 1) := by decide +kernel
theorem dX1_ranPoints_4 : decode cX1_ranPoints 4 = .ok (.iload_n 2, 1) := by decide +kernel
theorem dX1_ranPoints_5 : decode cX1_ranPoints 5 = .ok (.iconst 5, 1) := by decide +kernel
theorem dX1_ranPoints_6 : decode cX1_ranPoints 6 = .ok (.if_icmp .ge 27, 3) := by decide +kernel
theorem dX1_ranPoints_9 : decode cX1_ranPoints 9 = .ok (.iload_n 0, 1) := by decide +kernel
theorem dX1_ranPoints_10 : decode cX1_ranPoints 10 = .ok (.iload_n 2, 1) := by decide +kernel
theorem dX1_ranPoints_11 : decode cX1_ranPoints 11 = .ok (.invokestatic 19, 3) := by decide +kernel
theorem dX1_ranPoints_14 : decode cX1_ranPoints 14 = .ok (.istore_n 3, 1) := by decide +kernel
theorem dX1_ranPoints_15 : decode cX1_ranPoints 15 = .ok (.iload_n 3, 1) := by decide +kernel
theorem dX1_ranPoints_16 : decode cX1_ranPoints 16 = .ok (.ifCond .le 11, 3) := by decide +kernel
theorem dX1_ranPoints_19 : decode cX1_ranPoints 19 = .ok (.iload_n 1, 1) := by decide +kernel
theorem dX1_ranPoints_20 : decode cX1_ranPoints 20 = .ok (.iconst 1, 1) := by decide +kernel
theorem dX1_ranPoints_21 : decode cX1_ranPoints 21 = .ok (.iload_n 3, 1) := by decide +kernel
theorem dX1_ranPoints_22 : decode cX1_ranPoints 22 = .ok (.iconst 1, 1) := by decide +kernel
theorem dX1_ranPoints_23 : decode cX1_ranPoints 23 = .ok (.isub, 1) := by decide +kernel
theorem dX1_ranPoints_24 : decode cX1_ranPoints 24 = .ok (.ishl, 1) := by decide +kernel
theorem dX1_ranPoints_25 : decode cX1_ranPoints 25 = .ok (.ior, 1) := by decide +kernel
theorem dX1_ranPoints_26 : decode cX1_ranPoints 26 = .ok (.istore_n 1, 1) := by decide +kernel
theorem dX1_ranPoints_27 : decode cX1_ranPoints 27 = .ok (.iinc 2 1, 3) := by decide +kernel
theorem dX1_ranPoints_30 : decode cX1_ranPoints 30 = .ok (.goto (-26), 3) := by decide +kernel
theorem dX1_ranPoints_33 : decode cX1_ranPoints 33 = .ok (.iload_n 1, 1) := by decide +kernel
theorem dX1_ranPoints_34 : decode cX1_ranPoints 34 = .ok (.ireturn, 1) := by decide +kernel
theorem dX1_fixedPoints_0 : decode cX1_fixedPoints 0 = .ok (.iconst 0, 1) := by decide +kernel
theorem dX1_fixedPoints_1 : decode cX1_fixedPoints 1 = .ok (.istore_n 1, 1) := by decide +kernel
theorem dX1_fixedPoints_2 : decode cX1_fixedPoints 2 = .ok (.iconst 0, 1) := by decide +kernel
theorem dX1_fixedPoints_3 : decode cX1_fixedPoints 3 = .ok (.istore_n 2, 1) := by decide +kernel
theorem dX1_fixedPoints_4 : decode cX1_fixedPoints 4 = .ok (.iload_n 2, 1) := by decide +kernel
theorem dX1_fixedPoints_5 : decode cX1_fixedPoints 5 = .ok (.iconst 5, 1) := by decide +kernel
theorem dX1_fixedPoints_6 : decode cX1_fixedPoints 6 = .ok (.if_icmp .ge 26, 3) := by decide +kernel
theorem dX1_fixedPoints_9 : decode cX1_fixedPoints 9 = .ok (.iload_n 0, 1) := by decide +kernel
theorem dX1_fixedPoints_10 : decode cX1_fixedPoints 10 = .ok (.iload_n 2, 1) := by decide +kernel
theorem dX1_fixedPoints_11 : decode cX1_fixedPoints 11 = .ok (.invokestatic 19, 3) := by decide +kernel
theorem dX1_fixedPoints_14 : decode cX1_fixedPoints 14 = .ok (.iload_n 2, 1) := by decide +kernel
theorem dX1_fixedPoints_15 : decode cX1_fixedPoints 15 = .ok (.iconst 1, 1) := by decide +kernel
theorem dX1_fixedPoints_16 : decode cX1_fixedPoints 16 = .ok (.iadd, 1) := by decide +kernel
theorem dX1_fixedPoints_17 : decode cX1_fixedPoints 17 = .ok (.if_icmp .ne 9, 3) := by decide +kernel
theorem dX1_fixedPoints_20 : decode cX1_fixedPoints 20 = .ok (.iload_n 1, 1) := by decide +kernel
theorem dX1_fixedPoints_21 : decode cX1_fixedPoints 21 = .ok (.iconst 1, 1) := by decide +kernel
theorem dX1_fixedPoints_22 : decode cX1_fixedPoints 22 = .ok (.iload_n 2, 1) := by decide +kernel
theorem dX1_fixedPoints_23 : decode cX1_fixedPoints 23 = .ok (.ishl, 1) := by decide +kernel
theorem dX1_fixedPoints_24 : decode cX1_fixedPoints 24 = .ok (.ior, 1) := by decide +kernel
theorem dX1_fixedPoints_25 : decode cX1_fixedPoints 25 = .ok (.istore_n 1, 1) := by decide +kernel
theorem dX1_fixedPoints_26 : decode cX1_fixedPoints 26 = .ok (.iinc 2 1, 3) := by decide +kernel
theorem dX1_fixedPoints_29 : decode cX1_fixedPoints 29 = .ok (.goto (-25), 3) := by decide +kernel
theorem dX1_fixedPoints_32 : decode cX1_fixedPoints 32 = .ok (.iload_n 1, 1) := by decide +kernel
theorem dX1_fixedPoints_33 : decode cX1_fixedPoints 33 = .ok (.ireturn, 1) := by decide +kernel
theorem dX1_ofLetter_0 : decode cX1_ofLetter 0 = .ok (.aload_n 1, 1) := by decide +kernel
theorem dX1_ofLetter_1 : decode cX1_ofLetter 1 = .ok (.iload_n 0, 1) := by decide +kernel
theorem dX1_ofLetter_2 : decode cX1_ofLetter 2 = .ok (.iconst 1, 1) := by decide +kernel
theorem dX1_ofLetter_3 : decode cX1_ofLetter 3 = .ok (.ishr, 1) := by decide +kernel
theorem dX1_ofLetter_4 : decode cX1_ofLetter 4 = .ok (.iaload, 1) := by decide +kernel
theorem dX1_ofLetter_5 : decode cX1_ofLetter 5 = .ok (.istore_n 2, 1) := by decide +kernel
theorem dX1_ofLetter_6 : decode cX1_ofLetter 6 = .ok (.iload_n 0, 1) := by decide +kernel
theorem dX1_ofLetter_7 : decode cX1_ofLetter 7 = .ok (.iconst 1, 1) := by decide +kernel
theorem dX1_ofLetter_8 : decode cX1_ofLetter 8 = .ok (.iand, 1) := by decide +kernel
theorem dX1_ofLetter_9 : decode cX1_ofLetter 9 = .ok (.ifCond .ne 7, 3) := by decide +kernel
theorem dX1_ofLetter_12 : decode cX1_ofLetter 12 = .ok (.iload_n 2, 1) := by decide +kernel
theorem dX1_ofLetter_13 : decode cX1_ofLetter 13 = .ok (.goto 7, 3) := by decide +kernel
theorem dX1_ofLetter_16 : decode cX1_ofLetter 16 = .ok (.iload_n 2, 1) := by decide +kernel
theorem dX1_ofLetter_17 : decode cX1_ofLetter 17 = .ok (.invokestatic 46, 3) := by decide +kernel
theorem dX1_ofLetter_20 : decode cX1_ofLetter 20 = .ok (.ireturn, 1) := by decide +kernel
theorem dX2_init_0 : decode cX2_init 0 = .ok (.aload_n 0, 1) := by decide +kernel
theorem dX2_init_1 : decode cX2_init 1 = .ok (.invokespecial 5, 3) := by decide +kernel
theorem dX2_init_4 : decode cX2_init 4 = .ok (.aload_n 0, 1) := by decide +kernel
theorem dX2_init_5 : decode cX2_init 5 = .ok (.sipush 6480, 3) := by decide +kernel
theorem dX2_init_8 : decode cX2_init 8 = .ok (.newarray .int, 2) := by decide +kernel
theorem dX2_init_10 : decode cX2_init 10 = .ok (.putfield 11, 3) := by decide +kernel
theorem dX2_init_13 : decode cX2_init 13 = .ok (.aload_n 0, 1) := by decide +kernel
theorem dX2_init_14 : decode cX2_init 14 = .ok (.sipush 1080, 3) := by decide +kernel
theorem dX2_init_17 : decode cX2_init 17 = .ok (.newarray .int, 2) := by decide +kernel
theorem dX2_init_19 : decode cX2_init 19 = .ok (.putfield 15, 3) := by decide +kernel
theorem dX2_init_22 : decode cX2_init 22 = .ok (.aload_n 0, 1) := by decide +kernel
theorem dX2_init_23 : decode cX2_init 23 = .ok (.sipush 1080, 3) := by decide +kernel
theorem dX2_init_26 : decode cX2_init 26 = .ok (.newarray .int, 2) := by decide +kernel
theorem dX2_init_28 : decode cX2_init 28 = .ok (.putfield 18, 3) := by decide +kernel
theorem dX2_init_31 : decode cX2_init 31 = .ok (.aload_n 0, 1) := by decide +kernel
theorem dX2_init_32 : decode cX2_init 32 = .ok (.iconst 0, 1) := by decide +kernel
theorem dX2_init_33 : decode cX2_init 33 = .ok (.putfield 21, 3) := by decide +kernel
theorem dX2_init_36 : decode cX2_init 36 = .ok (.aload_n 0, 1) := by decide +kernel
theorem dX2_init_37 : decode cX2_init 37 = .ok (.sipush 1080, 3) := by decide +kernel
theorem dX2_init_40 : decode cX2_init 40 = .ok (.newarray .int, 2) := by decide +kernel
theorem dX2_init_42 : decode cX2_init 42 = .ok (.putfield 25, 3) := by decide +kernel
theorem dX2_init_45 : decode cX2_init 45 = .ok (.aload_n 0, 1) := by decide +kernel
theorem dX2_init_46 : decode cX2_init 46 = .ok (.bipush 96, 2) := by decide +kernel
theorem dX2_init_48 : decode cX2_init 48 = .ok (.newarray .int, 2) := by decide +kernel
theorem dX2_init_50 : decode cX2_init 50 = .ok (.putfield 28, 3) := by decide +kernel
theorem dX2_init_53 : decode cX2_init 53 = .ok (.aload_n 0, 1) := by decide +kernel
theorem dX2_init_54 : decode cX2_init 54 = .ok (.iconst 0, 1) := by decide +kernel
theorem dX2_init_55 : decode cX2_init 55 = .ok (.putfield 31, 3) := by decide +kernel
theorem dX2_init_58 : decode cX2_init 58 = .ok (.aload_n 0, 1) := by decide +kernel
theorem dX2_init_59 : decode cX2_init 59 = .ok (.iconst 0, 1) := by decide +kernel
theorem dX2_init_60 : decode cX2_init 60 = .ok (.putfield 34, 3) := by decide +kernel
theorem dX2_init_63 : decode cX2_init 63 = .ok (.aload_n 0, 1) := by decide +kernel
theorem dX2_init_64 : decode cX2_init 64 = .ok (.iconst 0, 1) := by decide +kernel
theorem dX2_init_65 : decode cX2_init 65 = .ok (.putfield 37, 3) := by decide +kernel
theorem dX2_init_68 : decode cX2_init 68 = .ok (.aload_n 0, 1) := by decide +kernel
theorem dX2_init_69 : decode cX2_init 69 = .ok (.iconst 0, 1) := by decide +kernel
theorem dX2_init_70 : decode cX2_init 70 = .ok (.putfield 40, 3) := by decide +kernel
theorem dX2_init_73 : decode cX2_init 73 = .ok (.return_, 1) := by decide +kernel
theorem dX2_makeReady_0 : decode cX2_makeReady 0 = .ok (.aload_n 0, 1) := by decide +kernel
theorem dX2_makeReady_1 : decode cX2_makeReady 1 = .ok (.aload_n 1, 1) := by decide +kernel
theorem dX2_makeReady_2 : decode cX2_makeReady 2 = .ok (.invokevirtual 43, 3) := by decide +kernel
theorem dX2_makeReady_5 : decode cX2_makeReady 5 = .ok (.aload_n 0, 1) := by decide +kernel
theorem dX2_makeReady_6 : decode cX2_makeReady 6 = .ok (.invokevirtual 47, 3) := by decide +kernel
theorem dX2_makeReady_9 : decode cX2_makeReady 9 = .ok (.aload_n 0, 1) := by decide +kernel
theorem dX2_makeReady_10 : decode cX2_makeReady 10 = .ok (.invokevirtual 50, 3) := by decide +kernel
theorem dX2_makeReady_13 : decode cX2_makeReady 13 = .ok (.aload_n 0, 1) := by decide +kernel
theorem dX2_makeReady_14 : decode cX2_makeReady 14 = .ok (.iconst 0, 1) := by decide +kernel
theorem dX2_makeReady_15 : decode cX2_makeReady 15 = .ok (.putfield 40, 3) := by decide +kernel
theorem dX2_makeReady_18 : decode cX2_makeReady 18 = .ok (.aload_n 0, 1) := by decide +kernel
theorem dX2_makeReady_19 : decode cX2_makeReady 19 = .ok (.getfield 40, 3) := by decide +kernel
theorem dX2_makeReady_22 : decode cX2_makeReady 22 = .ok (.bipush 20, 2) := by decide +kernel
theorem dX2_makeReady_24 : decode cX2_makeReady 24 = .ok (.if_icmp .ge 45, 3) := by decide +kernel
theorem dX2_makeReady_27 : decode cX2_makeReady 27 = .ok (.aload_n 0, 1) := by decide +kernel
theorem dX2_makeReady_28 : decode cX2_makeReady 28 = .ok (.aload_n 2, 1) := by decide +kernel
theorem dX2_makeReady_29 : decode cX2_makeReady 29 = .ok (.invokevirtual 53, 3) := by decide +kernel
theorem dX2_makeReady_32 : decode cX2_makeReady 32 = .ok (.ifCond .eq 37, 3) := by decide +kernel
theorem dX2_makeReady_35 : decode cX2_makeReady 35 = .ok (.aload_n 0, 1) := by decide +kernel
theorem dX2_makeReady_36 : decode cX2_makeReady 36 = .ok (.aload_n 2, 1) := by decide +kernel
theorem dX2_makeReady_37 : decode cX2_makeReady 37 = .ok (.invokevirtual 57, 3) := by decide +kernel
theorem dX2_makeReady_40 : decode cX2_makeReady 40 = .ok (.aload_n 0, 1) := by decide +kernel
theorem dX2_makeReady_41 : decode cX2_makeReady 41 = .ok (.invokevirtual 47, 3) := by decide +kernel
theorem dX2_makeReady_44 : decode cX2_makeReady 44 = .ok (.aload_n 0, 1) := by decide +kernel
theorem dX2_makeReady_45 : decode cX2_makeReady 45 = .ok (.invokevirtual 50, 3) := by decide +kernel
theorem dX2_makeReady_48 : decode cX2_makeReady 48 = .ok (.aload_n 0, 1) := by decide +kernel
theorem dX2_makeReady_49 : decode cX2_makeReady 49 = .ok (.dup, 1) := by decide +kernel
theorem dX2_makeReady_50 : decode cX2_makeReady 50 = .ok (.getfield 40, 3) := by decide +kernel
theorem dX2_makeReady_53 : decode cX2_makeReady 53 = .ok (.iconst 1, 1) := by decide +kernel
theorem dX2_makeReady_54 : decode cX2_makeReady 54 = .ok (.iadd, 1) := by decide +kernel
theorem dX2_makeReady_55 : decode cX2_makeReady 55 = .ok (.putfield 40, 3) := by decide +kernel
theorem dX2_makeReady_58 : decode cX2_makeReady 58 = .ok (.aload_n 0, 1) := by decide +kernel
theorem dX2_makeReady_59 : decode cX2_makeReady 59 = .ok (.getfield 31, 3) := by decide +kernel
theorem dX2_makeReady_62 : decode cX2_makeReady 62 = .ok (.bipush 24, 2) := by decide +kernel
theorem dX2_makeReady_64 : decode cX2_makeReady 64 = .ok (.if_icmp .le (-46), 3) := by decide +kernel
theorem dX2_makeReady_67 : decode cX2_makeReady 67 = .ok (.iconst 0, 1) := by decide +kernel
theorem dX2_makeReady_68 : decode cX2_makeReady 68 = .ok (.ireturn, 1) := by decide +kernel
theorem dX2_makeReady_69 : decode cX2_makeReady 69 = .ok (.aload_n 0, 1) := by decide +kernel
theorem dX2_makeReady_70 : decode cX2_makeReady 70 = .ok (.getfield 40, 3) := by decide +kernel
theorem dX2_makeReady_73 : decode cX2_makeReady 73 = .ok (.bipush 20, 2) := by decide +kernel
theorem dX2_makeReady_75 : decode cX2_makeReady 75 = .ok (.if_icmp .lt 11, 3) := by decide +kernel
theorem dX2_makeReady_78 : decode cX2_makeReady 78 = .ok (.aload_n 0, 1) := by decide +kernel
theorem dX2_makeReady_79 : decode cX2_makeReady 79 = .ok (.aload_n 2, 1) := by decide +kernel
theorem dX2_makeReady_80 : decode cX2_makeReady 80 = .ok (.invokevirtual 53, 3) := by decide +kernel
theorem dX2_makeReady_83 : decode cX2_makeReady 83 = .ok (.ifCond .ne 7, 3) := by decide +kernel
theorem dX2_makeReady_86 : decode cX2_makeReady 86 = .ok (.iconst 1, 1) := by decide +kernel
theorem dX2_makeReady_87 : decode cX2_makeReady 87 = .ok (.goto 4, 3) := by decide +kernel
theorem dX2_makeReady_90 : decode cX2_makeReady 90 = .ok (.iconst 0, 1) := by decide +kernel
theorem dX2_makeReady_91 : decode cX2_makeReady 91 = .ok (.ireturn, 1) := by decide +kernel
theorem dX2_layOut_0 : decode cX2_layOut 0 = .ok (.aload_n 0, 1) := by decide +kernel
theorem dX2_layOut_1 : decode cX2_layOut 1 = .ok (.iconst 0, 1) := by decide +kernel
theorem dX2_layOut_2 : decode cX2_layOut 2 = .ok (.putfield 31, 3) := by decide +kernel
theorem dX2_layOut_5 : decode cX2_layOut 5 = .ok (.aload_n 0, 1) := by decide +kernel
theorem dX2_layOut_6 : decode cX2_layOut 6 = .ok (.aload_n 0, 1) := by decide +kernel
theorem dX2_layOut_7 : decode cX2_layOut 7 = .ok (.invokevirtual 61, 3) := by decide +kernel
theorem dX2_layOut_10 : decode cX2_layOut 10 = .ok (.putfield 34, 3) := by decide +kernel
theorem dX2_layOut_13 : decode cX2_layOut 13 = .ok (.aload_n 0, 1) := by decide +kernel
theorem dX2_layOut_14 : decode cX2_layOut 14 = .ok (.aload_n 0, 1) := by decide +kernel
theorem dX2_layOut_15 : decode cX2_layOut 15 = .ok (.getfield 34, 3) := by decide +kernel
theorem dX2_layOut_18 : decode cX2_layOut 18 = .ok (.putfield 37, 3) := by decide +kernel
theorem dX2_layOut_21 : decode cX2_layOut 21 = .ok (.iconst 0, 1) := by decide +kernel
theorem dX2_layOut_22 : decode cX2_layOut 22 = .ok (.istore_n 2, 1) := by decide +kernel
theorem dX2_layOut_23 : decode cX2_layOut 23 = .ok (.iload_n 2, 1) := by decide +kernel
theorem dX2_layOut_24 : decode cX2_layOut 24 = .ok (.aload_n 1, 1) := by decide +kernel
theorem dX2_layOut_25 : decode cX2_layOut 25 = .ok (.getfield 65, 3) := by decide +kernel
theorem dX2_layOut_28 : decode cX2_layOut 28 = .ok (.if_icmp .ge 34, 3) := by decide +kernel
theorem dX2_layOut_31 : decode cX2_layOut 31 = .ok (.aload_n 0, 1) := by decide +kernel
theorem dX2_layOut_32 : decode cX2_layOut 32 = .ok (.invokevirtual 61, 3) := by decide +kernel
theorem dX2_layOut_35 : decode cX2_layOut 35 = .ok (.istore_n 3, 1) := by decide +kernel
theorem dX2_layOut_36 : decode cX2_layOut 36 = .ok (.aload_n 0, 1) := by decide +kernel
theorem dX2_layOut_37 : decode cX2_layOut 37 = .ok (.aload_n 0, 1) := by decide +kernel
theorem dX2_layOut_38 : decode cX2_layOut 38 = .ok (.getfield 37, 3) := by decide +kernel
theorem dX2_layOut_41 : decode cX2_layOut 41 = .ok (.aload_n 1, 1) := by decide +kernel
theorem dX2_layOut_42 : decode cX2_layOut 42 = .ok (.getfield 70, 3) := by decide +kernel
theorem dX2_layOut_45 : decode cX2_layOut 45 = .ok (.iload_n 2, 1) := by decide +kernel
theorem dX2_layOut_46 : decode cX2_layOut 46 = .ok (.iaload, 1) := by decide +kernel
theorem dX2_layOut_47 : decode cX2_layOut 47 = .ok (.iload_n 3, 1) := by decide +kernel
theorem dX2_layOut_48 : decode cX2_layOut 48 = .ok (.invokevirtual 73, 3) := by decide +kernel
theorem dX2_layOut_51 : decode cX2_layOut 51 = .ok (.aload_n 0, 1) := by decide +kernel
theorem dX2_layOut_52 : decode cX2_layOut 52 = .ok (.iload_n 3, 1) := by decide +kernel
theorem dX2_layOut_53 : decode cX2_layOut 53 = .ok (.putfield 37, 3) := by decide +kernel
theorem dX2_layOut_56 : decode cX2_layOut 56 = .ok (.iinc 2 1, 3) := by decide +kernel
theorem dX2_layOut_59 : decode cX2_layOut 59 = .ok (.goto (-36), 3) := by decide +kernel
theorem dX2_layOut_62 : decode cX2_layOut 62 = .ok (.return_, 1) := by decide +kernel
theorem dX2_newPlace_0 : decode cX2_newPlace 0 = .ok (.aload_n 0, 1) := by decide +kernel
theorem dX2_newPlace_1 : decode cX2_newPlace 1 = .ok (.getfield 31, 3) := by decide +kernel
theorem dX2_newPlace_4 : decode cX2_newPlace 4 = .ok (.sipush 1080, 3) := by decide +kernel
theorem dX2_newPlace_7 : decode cX2_newPlace 7 = .ok (.if_icmp .lt 5, 3) := by decide +kernel
theorem dX2_newPlace_10 : decode cX2_newPlace 10 = .ok (.iconst 0, 1) := by decide +kernel
theorem dX2_newPlace_11 : decode cX2_newPlace 11 = .ok (.ireturn, 1) := by decide +kernel
theorem dX2_newPlace_12 : decode cX2_newPlace 12 = .ok (.aload_n 0, 1) := by decide +kernel
theorem dX2_newPlace_13 : decode cX2_newPlace 13 = .ok (.getfield 31, 3) := by decide +kernel
theorem dX2_newPlace_16 : decode cX2_newPlace 16 = .ok (.istore_n 1, 1) := by decide +kernel
theorem dX2_newPlace_17 : decode cX2_newPlace 17 = .ok (.aload_n 0, 1) := by decide +kernel
theorem dX2_newPlace_18 : decode cX2_newPlace 18 = .ok (.dup, 1) := by decide +kernel
theorem dX2_newPlace_19 : decode cX2_newPlace 19 = .ok (.getfield 31, 3) := by decide +kernel
theorem dX2_newPlace_22 : decode cX2_newPlace 22 = .ok (.iconst 1, 1) := by decide +kernel
theorem dX2_newPlace_23 : decode cX2_newPlace 23 = .ok (.iadd, 1) := by decide +kernel
theorem dX2_newPlace_24 : decode cX2_newPlace 24 = .ok (.putfield 31, 3) := by decide +kernel
theorem dX2_newPlace_27 : decode cX2_newPlace 27 = .ok (.aload_n 0, 1) := by decide +kernel
theorem dX2_newPlace_28 : decode cX2_newPlace 28 = .ok (.getfield 15, 3) := by decide +kernel
theorem dX2_newPlace_31 : decode cX2_newPlace 31 = .ok (.iload_n 1, 1) := by decide +kernel
theorem dX2_newPlace_32 : decode cX2_newPlace 32 = .ok (.iload_n 1, 1) := by decide +kernel
theorem dX2_newPlace_33 : decode cX2_newPlace 33 = .ok (.iastore, 1) := by decide +kernel
theorem dX2_newPlace_34 : decode cX2_newPlace 34 = .ok (.iconst 0, 1) := by decide +kernel
theorem dX2_newPlace_35 : decode cX2_newPlace 35 = .ok (.istore_n 2, 1) := by decide +kernel
theorem dX2_newPlace_36 : decode cX2_newPlace 36 = .ok (.iload_n 2, 1) := by decide +kernel
theorem dX2_newPlace_37 : decode cX2_newPlace 37 = .ok (.bipush 6, 2) := by decide +kernel
theorem dX2_newPlace_39 : decode cX2_newPlace 39 = .ok (.if_icmp .ge 21, 3) := by decide +kernel
theorem dX2_newPlace_42 : decode cX2_newPlace 42 = .ok (.aload_n 0, 1) := by decide +kernel
theorem dX2_newPlace_43 : decode cX2_newPlace 43 = .ok (.getfield 11, 3) := by decide +kernel
theorem dX2_newPlace_46 : decode cX2_newPlace 46 = .ok (.iload_n 1, 1) := by decide +kernel
theorem dX2_newPlace_47 : decode cX2_newPlace 47 = .ok (.bipush 6, 2) := by decide +kernel
theorem dX2_newPlace_49 : decode cX2_newPlace 49 = .ok (.imul, 1) := by decide +kernel
theorem dX2_newPlace_50 : decode cX2_newPlace 50 = .ok (.iload_n 2, 1) := by decide +kernel
theorem dX2_newPlace_51 : decode cX2_newPlace 51 = .ok (.iadd, 1) := by decide +kernel
theorem dX2_newPlace_52 : decode cX2_newPlace 52 = .ok (.iconst (-1), 1) := by decide +kernel
theorem dX2_newPlace_53 : decode cX2_newPlace 53 = .ok (.iastore, 1) := by decide +kernel
theorem dX2_newPlace_54 : decode cX2_newPlace 54 = .ok (.iinc 2 1, 3) := by decide +kernel
theorem dX2_newPlace_57 : decode cX2_newPlace 57 = .ok (.goto (-21), 3) := by decide +kernel
theorem dX2_newPlace_60 : decode cX2_newPlace 60 = .ok (.iload_n 1, 1) := by decide +kernel
theorem dX2_newPlace_61 : decode cX2_newPlace 61 = .ok (.ireturn, 1) := by decide +kernel
theorem dX2_planSeams_0 : decode cX2_planSeams 0 = .ok (.iconst 0, 1) := by decide +kernel
theorem dX2_planSeams_1 : decode cX2_planSeams 1 = .ok (.istore_n 2, 1) := by decide +kernel
theorem dX2_planSeams_2 : decode cX2_planSeams 2 = .ok (.iconst 0, 1) := by decide +kernel
theorem dX2_planSeams_3 : decode cX2_planSeams 3 = .ok (.istore_n 3, 1) := by decide +kernel
theorem dX2_planSeams_4 : decode cX2_planSeams 4 = .ok (.iload_n 3, 1) := by decide +kernel
theorem dX2_planSeams_5 : decode cX2_planSeams 5 = .ok (.aload_n 0, 1) := by decide +kernel
theorem dX2_planSeams_6 : decode cX2_planSeams 6 = .ok (.getfield 31, 3) := by decide +kernel
theorem dX2_planSeams_9 : decode cX2_planSeams 9 = .ok (.if_icmp .ge 171, 3) := by decide +kernel
theorem dX2_planSeams_12 : decode cX2_planSeams 12 = .ok (.iload_n 3, 1) := by decide +kernel
theorem dX2_planSeams_13 : decode cX2_planSeams 13 = .ok (.bipush 24, 2) := by decide +kernel
theorem dX2_planSeams_15 : decode cX2_planSeams 15 = .ok (.if_icmp .ge 165, 3) := by decide +kernel
theorem dX2_planSeams_18 : decode cX2_planSeams 18 = .ok (.iconst 0, 1) := by decide +kernel
theorem dX2_planSeams_19 : decode cX2_planSeams 19 = .ok (.istore 4, 2) := by decide +kernel
theorem dX2_planSeams_21 : decode cX2_planSeams 21 = .ok (.iload 4, 2) := by decide +kernel
theorem dX2_planSeams_23 : decode cX2_planSeams 23 = .ok (.iconst 2, 1) := by decide +kernel
theorem dX2_planSeams_24 : decode cX2_planSeams 24 = .ok (.if_icmp .ge 150, 3) := by decide +kernel
theorem dX2_planSeams_27 : decode cX2_planSeams 27 = .ok (.aload_n 1, 1) := by decide +kernel
theorem dX2_planSeams_28 : decode cX2_planSeams 28 = .ok (.iload 4, 2) := by decide +kernel
theorem dX2_planSeams_30 : decode cX2_planSeams 30 = .ok (.aaload, 1) := by decide +kernel
theorem dX2_planSeams_31 : decode cX2_planSeams 31 = .ok (.getfield 77, 3) := by decide +kernel
theorem dX2_planSeams_34 : decode cX2_planSeams 34 = .ok (.ifCond .eq 21, 3) := by decide +kernel
theorem dX2_planSeams_37 : decode cX2_planSeams 37 = .ok (.aload_n 1, 1) := by decide +kernel
theorem dX2_planSeams_38 : decode cX2_planSeams 38 = .ok (.iload 4, 2) := by decide +kernel
theorem dX2_planSeams_40 : decode cX2_planSeams 40 = .ok (.aaload, 1) := by decide +kernel
theorem dX2_planSeams_41 : decode cX2_planSeams 41 = .ok (.getfield 83, 3) := by decide +kernel
theorem dX2_planSeams_44 : decode cX2_planSeams 44 = .ok (.aload_n 0, 1) := by decide +kernel
theorem dX2_planSeams_45 : decode cX2_planSeams 45 = .ok (.getfield 11, 3) := by decide +kernel
theorem dX2_planSeams_48 : decode cX2_planSeams 48 = .ok (.iload_n 3, 1) := by decide +kernel
theorem dX2_planSeams_49 : decode cX2_planSeams 49 = .ok (.invokevirtual 87, 3) := by decide +kernel
theorem dX2_planSeams_52 : decode cX2_planSeams 52 = .ok (.goto 4, 3) := by decide +kernel
theorem dX2_planSeams_55 : decode cX2_planSeams 55 = .ok (.iconst (-1), 1) := by decide +kernel
theorem dX2_planSeams_56 : decode cX2_planSeams 56 = .ok (.istore 5, 2) := by decide +kernel
theorem dX2_planSeams_58 : decode cX2_planSeams 58 = .ok (.aload_n 1, 1) := by decide +kernel
theorem dX2_planSeams_59 : decode cX2_planSeams 59 = .ok (.iload 4, 2) := by decide +kernel
theorem dX2_planSeams_61 : decode cX2_planSeams 61 = .ok (.aaload, 1) := by decide +kernel
theorem dX2_planSeams_62 : decode cX2_planSeams 62 = .ok (.getfield 77, 3) := by decide +kernel
theorem dX2_planSeams_65 : decode cX2_planSeams 65 = .ok (.ifCond .eq 21, 3) := by decide +kernel
theorem dX2_planSeams_68 : decode cX2_planSeams 68 = .ok (.aload_n 1, 1) := by decide +kernel
theorem dX2_planSeams_69 : decode cX2_planSeams 69 = .ok (.iload 4, 2) := by decide +kernel
theorem dX2_planSeams_71 : decode cX2_planSeams 71 = .ok (.aaload, 1) := by decide +kernel
theorem dX2_planSeams_72 : decode cX2_planSeams 72 = .ok (.getfield 91, 3) := by decide +kernel
theorem dX2_planSeams_75 : decode cX2_planSeams 75 = .ok (.aload_n 0, 1) := by decide +kernel
theorem dX2_planSeams_76 : decode cX2_planSeams 76 = .ok (.getfield 11, 3) := by decide +kernel
theorem dX2_planSeams_79 : decode cX2_planSeams 79 = .ok (.iload_n 3, 1) := by decide +kernel
theorem dX2_planSeams_80 : decode cX2_planSeams 80 = .ok (.invokevirtual 87, 3) := by decide +kernel
theorem dX2_planSeams_83 : decode cX2_planSeams 83 = .ok (.goto 4, 3) := by decide +kernel
theorem dX2_planSeams_86 : decode cX2_planSeams 86 = .ok (.iconst (-1), 1) := by decide +kernel
theorem dX2_planSeams_87 : decode cX2_planSeams 87 = .ok (.istore 6, 2) := by decide +kernel
theorem dX2_planSeams_89 : decode cX2_planSeams 89 = .ok (.iload 5, 2) := by decide +kernel
theorem dX2_planSeams_91 : decode cX2_planSeams 91 = .ok (.iload 6, 2) := by decide +kernel
theorem dX2_planSeams_93 : decode cX2_planSeams 93 = .ok (.if_icmp .eq 7, 3) := by decide +kernel
theorem dX2_planSeams_96 : decode cX2_planSeams 96 = .ok (.iconst 1, 1) := by decide +kernel
theorem dX2_planSeams_97 : decode cX2_planSeams 97 = .ok (.goto 4, 3) := by decide +kernel
theorem dX2_planSeams_100 : decode cX2_planSeams 100 = .ok (.iconst 0, 1) := by decide +kernel
theorem dX2_planSeams_101 : decode cX2_planSeams 101 = .ok (.istore 7, 2) := by decide +kernel
theorem dX2_planSeams_103 : decode cX2_planSeams 103 = .ok (.aload_n 0, 1) := by decide +kernel
theorem dX2_planSeams_104 : decode cX2_planSeams 104 = .ok (.getfield 28, 3) := by decide +kernel
theorem dX2_planSeams_107 : decode cX2_planSeams 107 = .ok (.iload_n 3, 1) := by decide +kernel
theorem dX2_planSeams_108 : decode cX2_planSeams 108 = .ok (.iconst 4, 1) := by decide +kernel
theorem dX2_planSeams_109 : decode cX2_planSeams 109 = .ok (.imul, 1) := by decide +kernel
theorem dX2_planSeams_110 : decode cX2_planSeams 110 = .ok (.iconst 2, 1) := by decide +kernel
theorem dX2_planSeams_111 : decode cX2_planSeams 111 = .ok (.iload 4, 2) := by decide +kernel
theorem dX2_planSeams_113 : decode cX2_planSeams 113 = .ok (.imul, 1) := by decide +kernel
theorem dX2_planSeams_114 : decode cX2_planSeams 114 = .ok (.iadd, 1) := by decide +kernel
theorem dX2_planSeams_115 : decode cX2_planSeams 115 = .ok (.iload 7, 2) := by decide +kernel
theorem dX2_planSeams_117 : decode cX2_planSeams 117 = .ok (.ifCond .eq 8, 3) := by decide +kernel
theorem dX2_planSeams_120 : decode cX2_planSeams 120 = .ok (.iload 5, 2) := by decide +kernel
theorem dX2_planSeams_122 : decode cX2_planSeams 122 = .ok (.goto 4, 3) := by decide +kernel
theorem dX2_planSeams_125 : decode cX2_planSeams 125 = .ok (.iconst (-1), 1) := by decide +kernel
theorem dX2_planSeams_126 : decode cX2_planSeams 126 = .ok (.iastore, 1) := by decide +kernel
theorem dX2_planSeams_127 : decode cX2_planSeams 127 = .ok (.aload_n 0, 1) := by decide +kernel
theorem dX2_planSeams_128 : decode cX2_planSeams 128 = .ok (.getfield 28, 3) := by decide +kernel
theorem dX2_planSeams_131 : decode cX2_planSeams 131 = .ok (.iload_n 3, 1) := by decide +kernel
theorem dX2_planSeams_132 : decode cX2_planSeams 132 = .ok (.iconst 4, 1) := by decide +kernel
theorem dX2_planSeams_133 : decode cX2_planSeams 133 = .ok (.imul, 1) := by decide +kernel
theorem dX2_planSeams_134 : decode cX2_planSeams 134 = .ok (.iconst 2, 1) := by decide +kernel
theorem dX2_planSeams_135 : decode cX2_planSeams 135 = .ok (.iload 4, 2) := by decide +kernel
theorem dX2_planSeams_137 : decode cX2_planSeams 137 = .ok (.imul, 1) := by decide +kernel
theorem dX2_planSeams_138 : decode cX2_planSeams 138 = .ok (.iadd, 1) := by decide +kernel
theorem dX2_planSeams_139 : decode cX2_planSeams 139 = .ok (.iconst 1, 1) := by decide +kernel
theorem dX2_planSeams_140 : decode cX2_planSeams 140 = .ok (.iadd, 1) := by decide +kernel
theorem dX2_planSeams_141 : decode cX2_planSeams 141 = .ok (.iload 7, 2) := by decide +kernel
theorem dX2_planSeams_143 : decode cX2_planSeams 143 = .ok (.ifCond .eq 8, 3) := by decide +kernel
theorem dX2_planSeams_146 : decode cX2_planSeams 146 = .ok (.iload 6, 2) := by decide +kernel
theorem dX2_planSeams_148 : decode cX2_planSeams 148 = .ok (.goto 4, 3) := by decide +kernel
theorem dX2_planSeams_151 : decode cX2_planSeams 151 = .ok (.iconst (-1), 1) := by decide +kernel
theorem dX2_planSeams_152 : decode cX2_planSeams 152 = .ok (.iastore, 1) := by decide +kernel
theorem dX2_planSeams_153 : decode cX2_planSeams 153 = .ok (.iload_n 2, 1) := by decide +kernel
theorem dX2_planSeams_154 : decode cX2_planSeams 154 = .ok (.ifCond .ne 8, 3) := by decide +kernel
theorem dX2_planSeams_157 : decode cX2_planSeams 157 = .ok (.iload 7, 2) := by decide +kernel
theorem dX2_planSeams_159 : decode cX2_planSeams 159 = .ok (.ifCond .eq 7, 3) := by decide +kernel
theorem dX2_planSeams_162 : decode cX2_planSeams 162 = .ok (.iconst 1, 1) := by decide +kernel
theorem dX2_planSeams_163 : decode cX2_planSeams 163 = .ok (.goto 4, 3) := by decide +kernel
theorem dX2_planSeams_166 : decode cX2_planSeams 166 = .ok (.iconst 0, 1) := by decide +kernel
theorem dX2_planSeams_167 : decode cX2_planSeams 167 = .ok (.istore_n 2, 1) := by decide +kernel
theorem dX2_planSeams_168 : decode cX2_planSeams 168 = .ok (.iinc 4 1, 3) := by decide +kernel
theorem dX2_planSeams_171 : decode cX2_planSeams 171 = .ok (.goto (-150), 3) := by decide +kernel
theorem dX2_planSeams_174 : decode cX2_planSeams 174 = .ok (.iinc 3 1, 3) := by decide +kernel
theorem dX2_planSeams_177 : decode cX2_planSeams 177 = .ok (.goto (-173), 3) := by decide +kernel
theorem dX2_planSeams_180 : decode cX2_planSeams 180 = .ok (.iload_n 2, 1) := by decide +kernel
theorem dX2_planSeams_181 : decode cX2_planSeams 181 = .ok (.ireturn, 1) := by decide +kernel
theorem dX2_sewSeams_0 : decode cX2_sewSeams 0 = .ok (.aload_n 0, 1) := by decide +kernel
theorem dX2_sewSeams_1 : decode cX2_sewSeams 1 = .ok (.getfield 31, 3) := by decide +kernel
theorem dX2_sewSeams_4 : decode cX2_sewSeams 4 = .ok (.bipush 24, 2) := by decide +kernel
theorem dX2_sewSeams_6 : decode cX2_sewSeams 6 = .ok (.invokestatic 94, 3) := by decide +kernel
theorem dX2_sewSeams_9 : decode cX2_sewSeams 9 = .ok (.istore_n 2, 1) := by decide +kernel
theorem dX2_sewSeams_10 : decode cX2_sewSeams 10 = .ok (.iconst 0, 1) := by decide +kernel
theorem dX2_sewSeams_11 : decode cX2_sewSeams 11 = .ok (.istore_n 3, 1) := by decide +kernel
theorem dX2_sewSeams_12 : decode cX2_sewSeams 12 = .ok (.iload_n 3, 1) := by decide +kernel
theorem dX2_sewSeams_13 : decode cX2_sewSeams 13 = .ok (.iload_n 2, 1) := by decide +kernel
theorem dX2_sewSeams_14 : decode cX2_sewSeams 14 = .ok (.if_icmp .ge 76, 3) := by decide +kernel
theorem dX2_sewSeams_17 : decode cX2_sewSeams 17 = .ok (.iconst 0, 1) := by decide +kernel
theorem dX2_sewSeams_18 : decode cX2_sewSeams 18 = .ok (.istore 4, 2) := by decide +kernel
theorem dX2_sewSeams_20 : decode cX2_sewSeams 20 = .ok (.iload 4, 2) := by decide +kernel
theorem dX2_sewSeams_22 : decode cX2_sewSeams 22 = .ok (.iconst 2, 1) := by decide +kernel
theorem dX2_sewSeams_23 : decode cX2_sewSeams 23 = .ok (.if_icmp .ge 61, 3) := by decide +kernel
theorem dX2_sewSeams_26 : decode cX2_sewSeams 26 = .ok (.aload_n 0, 1) := by decide +kernel
theorem dX2_sewSeams_27 : decode cX2_sewSeams 27 = .ok (.iload_n 3, 1) := by decide +kernel
theorem dX2_sewSeams_28 : decode cX2_sewSeams 28 = .ok (.aload_n 0, 1) := by decide +kernel
theorem dX2_sewSeams_29 : decode cX2_sewSeams 29 = .ok (.getfield 28, 3) := by decide +kernel
theorem dX2_sewSeams_32 : decode cX2_sewSeams 32 = .ok (.iload_n 3, 1) := by decide +kernel
theorem dX2_sewSeams_33 : decode cX2_sewSeams 33 = .ok (.iconst 4, 1) := by decide +kernel
theorem dX2_sewSeams_34 : decode cX2_sewSeams 34 = .ok (.imul, 1) := by decide +kernel
theorem dX2_sewSeams_35 : decode cX2_sewSeams 35 = .ok (.iconst 2, 1) := by decide +kernel
theorem dX2_sewSeams_36 : decode cX2_sewSeams 36 = .ok (.iload 4, 2) := by decide +kernel
theorem dX2_sewSeams_38 : decode cX2_sewSeams 38 = .ok (.imul, 1) := by decide +kernel
theorem dX2_sewSeams_39 : decode cX2_sewSeams 39 = .ok (.iadd, 1) := by decide +kernel
theorem dX2_sewSeams_40 : decode cX2_sewSeams 40 = .ok (.iaload, 1) := by decide +kernel
theorem dX2_sewSeams_41 : decode cX2_sewSeams 41 = .ok (.aload_n 1, 1) := by decide +kernel
theorem dX2_sewSeams_42 : decode cX2_sewSeams 42 = .ok (.iload 4, 2) := by decide +kernel
theorem dX2_sewSeams_44 : decode cX2_sewSeams 44 = .ok (.aaload, 1) := by decide +kernel
theorem dX2_sewSeams_45 : decode cX2_sewSeams 45 = .ok (.getfield 91, 3) := by decide +kernel
theorem dX2_sewSeams_48 : decode cX2_sewSeams 48 = .ok (.invokevirtual 100, 3) := by decide +kernel
theorem dX2_sewSeams_51 : decode cX2_sewSeams 51 = .ok (.aload_n 0, 1) := by decide +kernel
theorem dX2_sewSeams_52 : decode cX2_sewSeams 52 = .ok (.iload_n 3, 1) := by decide +kernel
theorem dX2_sewSeams_53 : decode cX2_sewSeams 53 = .ok (.aload_n 0, 1) := by decide +kernel
theorem dX2_sewSeams_54 : decode cX2_sewSeams 54 = .ok (.getfield 28, 3) := by decide +kernel
theorem dX2_sewSeams_57 : decode cX2_sewSeams 57 = .ok (.iload_n 3, 1) := by decide +kernel
theorem dX2_sewSeams_58 : decode cX2_sewSeams 58 = .ok (.iconst 4, 1) := by decide +kernel
theorem dX2_sewSeams_59 : decode cX2_sewSeams 59 = .ok (.imul, 1) := by decide +kernel
theorem dX2_sewSeams_60 : decode cX2_sewSeams 60 = .ok (.iconst 2, 1) := by decide +kernel
theorem dX2_sewSeams_61 : decode cX2_sewSeams 61 = .ok (.iload 4, 2) := by decide +kernel
theorem dX2_sewSeams_63 : decode cX2_sewSeams 63 = .ok (.imul, 1) := by decide +kernel
theorem dX2_sewSeams_64 : decode cX2_sewSeams 64 = .ok (.iadd, 1) := by decide +kernel
theorem dX2_sewSeams_65 : decode cX2_sewSeams 65 = .ok (.iconst 1, 1) := by decide +kernel
theorem dX2_sewSeams_66 : decode cX2_sewSeams 66 = .ok (.iadd, 1) := by decide +kernel
theorem dX2_sewSeams_67 : decode cX2_sewSeams 67 = .ok (.iaload, 1) := by decide +kernel
theorem dX2_sewSeams_68 : decode cX2_sewSeams 68 = .ok (.aload_n 1, 1) := by decide +kernel
theorem dX2_sewSeams_69 : decode cX2_sewSeams 69 = .ok (.iload 4, 2) := by decide +kernel
theorem dX2_sewSeams_71 : decode cX2_sewSeams 71 = .ok (.aaload, 1) := by decide +kernel
theorem dX2_sewSeams_72 : decode cX2_sewSeams 72 = .ok (.getfield 83, 3) := by decide +kernel
theorem dX2_sewSeams_75 : decode cX2_sewSeams 75 = .ok (.invokevirtual 100, 3) := by decide +kernel
theorem dX2_sewSeams_78 : decode cX2_sewSeams 78 = .ok (.iinc 4 1, 3) := by decide +kernel
theorem dX2_sewSeams_81 : decode cX2_sewSeams 81 = .ok (.goto (-61), 3) := by decide +kernel
theorem dX2_sewSeams_84 : decode cX2_sewSeams 84 = .ok (.iinc 3 1, 3) := by decide +kernel
theorem dX2_sewSeams_87 : decode cX2_sewSeams 87 = .ok (.goto (-75), 3) := by decide +kernel
theorem dX2_sewSeams_90 : decode cX2_sewSeams 90 = .ok (.return_, 1) := by decide +kernel
theorem dX2_sew_0 : decode cX2_sew 0 = .ok (.iload_n 2, 1) := by decide +kernel
theorem dX2_sew_1 : decode cX2_sew 1 = .ok (.ifCond .ge 4, 3) := by decide +kernel
theorem dX2_sew_4 : decode cX2_sew 4 = .ok (.return_, 1) := by decide +kernel
theorem dX2_sew_5 : decode cX2_sew 5 = .ok (.aload_n 3, 1) := by decide +kernel
theorem dX2_sew_6 : decode cX2_sew 6 = .ok (.getfield 65, 3) := by decide +kernel
theorem dX2_sew_9 : decode cX2_sew 9 = .ok (.ifCond .ne 10, 3) := by decide +kernel
theorem dX2_sew_12 : decode cX2_sew 12 = .ok (.aload_n 0, 1) := by decide +kernel
theorem dX2_sew_13 : decode cX2_sew 13 = .ok (.iload_n 1, 1) := by decide +kernel
theorem dX2_sew_14 : decode cX2_sew 14 = .ok (.iload_n 2, 1) := by decide +kernel
theorem dX2_sew_15 : decode cX2_sew 15 = .ok (.invokevirtual 104, 3) := by decide +kernel
theorem dX2_sew_18 : decode cX2_sew 18 = .ok (.return_, 1) := by decide +kernel
theorem dX2_sew_19 : decode cX2_sew 19 = .ok (.iload_n 1, 1) := by decide +kernel
theorem dX2_sew_20 : decode cX2_sew 20 = .ok (.istore 4, 2) := by decide +kernel
theorem dX2_sew_22 : decode cX2_sew 22 = .ok (.iconst 0, 1) := by decide +kernel
theorem dX2_sew_23 : decode cX2_sew 23 = .ok (.istore 5, 2) := by decide +kernel
theorem dX2_sew_25 : decode cX2_sew 25 = .ok (.iload 5, 2) := by decide +kernel
theorem dX2_sew_27 : decode cX2_sew 27 = .ok (.aload_n 3, 1) := by decide +kernel
theorem dX2_sew_28 : decode cX2_sew 28 = .ok (.getfield 65, 3) := by decide +kernel
theorem dX2_sew_31 : decode cX2_sew 31 = .ok (.iconst 1, 1) := by decide +kernel
theorem dX2_sew_32 : decode cX2_sew 32 = .ok (.isub, 1) := by decide +kernel
theorem dX2_sew_33 : decode cX2_sew 33 = .ok (.if_icmp .ge 34, 3) := by decide +kernel
theorem dX2_sew_36 : decode cX2_sew 36 = .ok (.aload_n 0, 1) := by decide +kernel
theorem dX2_sew_37 : decode cX2_sew 37 = .ok (.invokevirtual 61, 3) := by decide +kernel
theorem dX2_sew_40 : decode cX2_sew 40 = .ok (.istore 6, 2) := by decide +kernel
theorem dX2_sew_42 : decode cX2_sew 42 = .ok (.aload_n 0, 1) := by decide +kernel
theorem dX2_sew_43 : decode cX2_sew 43 = .ok (.iload 4, 2) := by decide +kernel
theorem dX2_sew_45 : decode cX2_sew 45 = .ok (.aload_n 3, 1) := by decide +kernel
theorem dX2_sew_46 : decode cX2_sew 46 = .ok (.getfield 70, 3) := by decide +kernel
theorem dX2_sew_49 : decode cX2_sew 49 = .ok (.iload 5, 2) := by decide +kernel
theorem dX2_sew_51 : decode cX2_sew 51 = .ok (.iaload, 1) := by decide +kernel
theorem dX2_sew_52 : decode cX2_sew 52 = .ok (.iload 6, 2) := by decide +kernel
theorem dX2_sew_54 : decode cX2_sew 54 = .ok (.invokevirtual 73, 3) := by decide +kernel
theorem dX2_sew_57 : decode cX2_sew 57 = .ok (.iload 6, 2) := by decide +kernel
theorem dX2_sew_59 : decode cX2_sew 59 = .ok (.istore 4, 2) := by decide +kernel
theorem dX2_sew_61 : decode cX2_sew 61 = .ok (.iinc 5 1, 3) := by decide +kernel
theorem dX2_sew_64 : decode cX2_sew 64 = .ok (.goto (-39), 3) := by decide +kernel
theorem dX2_sew_67 : decode cX2_sew 67 = .ok (.aload_n 0, 1) := by decide +kernel
theorem dX2_sew_68 : decode cX2_sew 68 = .ok (.iload 4, 2) := by decide +kernel
theorem dX2_sew_70 : decode cX2_sew 70 = .ok (.aload_n 3, 1) := by decide +kernel
theorem dX2_sew_71 : decode cX2_sew 71 = .ok (.getfield 70, 3) := by decide +kernel
theorem dX2_sew_74 : decode cX2_sew 74 = .ok (.aload_n 3, 1) := by decide +kernel
theorem dX2_sew_75 : decode cX2_sew 75 = .ok (.getfield 65, 3) := by decide +kernel
theorem dX2_sew_78 : decode cX2_sew 78 = .ok (.iconst 1, 1) := by decide +kernel
theorem dX2_sew_79 : decode cX2_sew 79 = .ok (.isub, 1) := by decide +kernel
theorem dX2_sew_80 : decode cX2_sew 80 = .ok (.iaload, 1) := by decide +kernel
theorem dX2_sew_81 : decode cX2_sew 81 = .ok (.iload_n 2, 1) := by decide +kernel
theorem dX2_sew_82 : decode cX2_sew 82 = .ok (.invokevirtual 73, 3) := by decide +kernel
theorem dX2_sew_85 : decode cX2_sew 85 = .ok (.return_, 1) := by decide +kernel
theorem dX2_link_0 : decode cX2_link 0 = .ok (.aload_n 0, 1) := by decide +kernel
theorem dX2_link_1 : decode cX2_link 1 = .ok (.iload_n 1, 1) := by decide +kernel
theorem dX2_link_2 : decode cX2_link 2 = .ok (.invokevirtual 108, 3) := by decide +kernel
theorem dX2_link_5 : decode cX2_link 5 = .ok (.istore 4, 2) := by decide +kernel
theorem dX2_link_7 : decode cX2_link 7 = .ok (.aload_n 0, 1) := by decide +kernel
theorem dX2_link_8 : decode cX2_link 8 = .ok (.iload_n 3, 1) := by decide +kernel
theorem dX2_link_9 : decode cX2_link 9 = .ok (.invokevirtual 108, 3) := by decide +kernel
theorem dX2_link_12 : decode cX2_link 12 = .ok (.istore 5, 2) := by decide +kernel
theorem dX2_link_14 : decode cX2_link 14 = .ok (.aload_n 0, 1) := by decide +kernel
theorem dX2_link_15 : decode cX2_link 15 = .ok (.getfield 11, 3) := by decide +kernel
theorem dX2_link_18 : decode cX2_link 18 = .ok (.iload 4, 2) := by decide +kernel
theorem dX2_link_20 : decode cX2_link 20 = .ok (.bipush 6, 2) := by decide +kernel
theorem dX2_link_22 : decode cX2_link 22 = .ok (.imul, 1) := by decide +kernel
theorem dX2_link_23 : decode cX2_link 23 = .ok (.iload_n 2, 1) := by decide +kernel
theorem dX2_link_24 : decode cX2_link 24 = .ok (.iadd, 1) := by decide +kernel
theorem dX2_link_25 : decode cX2_link 25 = .ok (.iaload, 1) := by decide +kernel
theorem dX2_link_26 : decode cX2_link 26 = .ok (.istore 6, 2) := by decide +kernel
theorem dX2_link_28 : decode cX2_link 28 = .ok (.aload_n 0, 1) := by decide +kernel
theorem dX2_link_29 : decode cX2_link 29 = .ok (.getfield 11, 3) := by decide +kernel
theorem dX2_link_32 : decode cX2_link 32 = .ok (.iload 5, 2) := by decide +kernel
theorem dX2_link_34 : decode cX2_link 34 = .ok (.bipush 6, 2) := by decide +kernel
theorem dX2_link_36 : decode cX2_link 36 = .ok (.imul, 1) := by decide +kernel
theorem dX2_link_37 : decode cX2_link 37 = .ok (.iload_n 2, 1) := by decide +kernel
theorem dX2_link_38 : decode cX2_link 38 = .ok (.iconst 1, 1) := by decide +kernel
theorem dX2_link_39 : decode cX2_link 39 = .ok (.ixor, 1) := by decide +kernel
theorem dX2_link_40 : decode cX2_link 40 = .ok (.iadd, 1) := by decide +kernel
theorem dX2_link_41 : decode cX2_link 41 = .ok (.iaload, 1) := by decide +kernel
theorem dX2_link_42 : decode cX2_link 42 = .ok (.istore 7, 2) := by decide +kernel
theorem dX2_link_44 : decode cX2_link 44 = .ok (.iload 6, 2) := by decide +kernel
theorem dX2_link_46 : decode cX2_link 46 = .ok (.ifCond .lt 14, 3) := by decide +kernel
theorem dX2_link_49 : decode cX2_link 49 = .ok (.aload_n 0, 1) := by decide +kernel
theorem dX2_link_50 : decode cX2_link 50 = .ok (.iload 6, 2) := by decide +kernel
theorem dX2_link_52 : decode cX2_link 52 = .ok (.iload 5, 2) := by decide +kernel
theorem dX2_link_54 : decode cX2_link 54 = .ok (.invokevirtual 104, 3) := by decide +kernel
theorem dX2_link_57 : decode cX2_link 57 = .ok (.goto 49, 3) := by decide +kernel
theorem dX2_link_60 : decode cX2_link 60 = .ok (.iload 7, 2) := by decide +kernel
theorem dX2_link_62 : decode cX2_link 62 = .ok (.ifCond .lt 14, 3) := by decide +kernel
theorem dX2_link_65 : decode cX2_link 65 = .ok (.aload_n 0, 1) := by decide +kernel
theorem dX2_link_66 : decode cX2_link 66 = .ok (.iload 7, 2) := by decide +kernel
theorem dX2_link_68 : decode cX2_link 68 = .ok (.iload 4, 2) := by decide +kernel
theorem dX2_link_70 : decode cX2_link 70 = .ok (.invokevirtual 104, 3) := by decide +kernel
theorem dX2_link_73 : decode cX2_link 73 = .ok (.goto 33, 3) := by decide +kernel
theorem dX2_link_76 : decode cX2_link 76 = .ok (.aload_n 0, 1) := by decide +kernel
theorem dX2_link_77 : decode cX2_link 77 = .ok (.getfield 11, 3) := by decide +kernel
theorem dX2_link_80 : decode cX2_link 80 = .ok (.iload 4, 2) := by decide +kernel
theorem dX2_link_82 : decode cX2_link 82 = .ok (.bipush 6, 2) := by decide +kernel
theorem dX2_link_84 : decode cX2_link 84 = .ok (.imul, 1) := by decide +kernel
theorem dX2_link_85 : decode cX2_link 85 = .ok (.iload_n 2, 1) := by decide +kernel
theorem dX2_link_86 : decode cX2_link 86 = .ok (.iadd, 1) := by decide +kernel
theorem dX2_link_87 : decode cX2_link 87 = .ok (.iload 5, 2) := by decide +kernel
theorem dX2_link_89 : decode cX2_link 89 = .ok (.iastore, 1) := by decide +kernel
theorem dX2_link_90 : decode cX2_link 90 = .ok (.aload_n 0, 1) := by decide +kernel
theorem dX2_link_91 : decode cX2_link 91 = .ok (.getfield 11, 3) := by decide +kernel
theorem dX2_link_94 : decode cX2_link 94 = .ok (.iload 5, 2) := by decide +kernel
theorem dX2_link_96 : decode cX2_link 96 = .ok (.bipush 6, 2) := by decide +kernel
theorem dX2_link_98 : decode cX2_link 98 = .ok (.imul, 1) := by decide +kernel
theorem dX2_link_99 : decode cX2_link 99 = .ok (.iload_n 2, 1) := by decide +kernel
theorem dX2_link_100 : decode cX2_link 100 = .ok (.iconst 1, 1) := by decide +kernel
theorem dX2_link_101 : decode cX2_link 101 = .ok (.ixor, 1) := by decide +kernel
theorem dX2_link_102 : decode cX2_link 102 = .ok (.iadd, 1) := by decide +kernel
theorem dX2_link_103 : decode cX2_link 103 = .ok (.iload 4, 2) := by decide +kernel
theorem dX2_link_105 : decode cX2_link 105 = .ok (.iastore, 1) := by decide +kernel
theorem dX2_link_106 : decode cX2_link 106 = .ok (.return_, 1) := by decide +kernel
theorem dX2_merge_0 : decode cX2_merge 0 = .ok (.aload_n 0, 1) := by decide +kernel
theorem dX2_merge_1 : decode cX2_merge 1 = .ok (.iload_n 1, 1) := by decide +kernel
theorem dX2_merge_2 : decode cX2_merge 2 = .ok (.invokevirtual 108, 3) := by decide +kernel
theorem dX2_merge_5 : decode cX2_merge 5 = .ok (.istore_n 3, 1) := by decide +kernel
theorem dX2_merge_6 : decode cX2_merge 6 = .ok (.aload_n 0, 1) := by decide +kernel
theorem dX2_merge_7 : decode cX2_merge 7 = .ok (.iload_n 2, 1) := by decide +kernel
theorem dX2_merge_8 : decode cX2_merge 8 = .ok (.invokevirtual 108, 3) := by decide +kernel
theorem dX2_merge_11 : decode cX2_merge 11 = .ok (.istore 4, 2) := by decide +kernel
theorem dX2_merge_13 : decode cX2_merge 13 = .ok (.iload_n 3, 1) := by decide +kernel
theorem dX2_merge_14 : decode cX2_merge 14 = .ok (.iload 4, 2) := by decide +kernel
theorem dX2_merge_16 : decode cX2_merge 16 = .ok (.if_icmp .eq 13, 3) := by decide +kernel
theorem dX2_merge_19 : decode cX2_merge 19 = .ok (.aload_n 0, 1) := by decide +kernel
theorem dX2_merge_20 : decode cX2_merge 20 = .ok (.getfield 21, 3) := by decide +kernel
theorem dX2_merge_23 : decode cX2_merge 23 = .ok (.sipush 1080, 3) := by decide +kernel
theorem dX2_merge_26 : decode cX2_merge 26 = .ok (.if_icmp .lt 4, 3) := by decide +kernel
theorem dX2_merge_29 : decode cX2_merge 29 = .ok (.return_, 1) := by decide +kernel
theorem dX2_merge_30 : decode cX2_merge 30 = .ok (.iload_n 3, 1) := by decide +kernel
theorem dX2_merge_31 : decode cX2_merge 31 = .ok (.iload 4, 2) := by decide +kernel
theorem dX2_merge_33 : decode cX2_merge 33 = .ok (.invokestatic 112, 3) := by decide +kernel
theorem dX2_merge_36 : decode cX2_merge 36 = .ok (.istore 5, 2) := by decide +kernel
theorem dX2_merge_38 : decode cX2_merge 38 = .ok (.aload_n 0, 1) := by decide +kernel
theorem dX2_merge_39 : decode cX2_merge 39 = .ok (.getfield 15, 3) := by decide +kernel
theorem dX2_merge_42 : decode cX2_merge 42 = .ok (.iload 5, 2) := by decide +kernel
theorem dX2_merge_44 : decode cX2_merge 44 = .ok (.iload_n 3, 1) := by decide +kernel
theorem dX2_merge_45 : decode cX2_merge 45 = .ok (.iload 4, 2) := by decide +kernel
theorem dX2_merge_47 : decode cX2_merge 47 = .ok (.invokestatic 94, 3) := by decide +kernel
theorem dX2_merge_50 : decode cX2_merge 50 = .ok (.iastore, 1) := by decide +kernel
theorem dX2_merge_51 : decode cX2_merge 51 = .ok (.aload_n 0, 1) := by decide +kernel
theorem dX2_merge_52 : decode cX2_merge 52 = .ok (.getfield 18, 3) := by decide +kernel
theorem dX2_merge_55 : decode cX2_merge 55 = .ok (.aload_n 0, 1) := by decide +kernel
theorem dX2_merge_56 : decode cX2_merge 56 = .ok (.getfield 21, 3) := by decide +kernel
theorem dX2_merge_59 : decode cX2_merge 59 = .ok (.iload 5, 2) := by decide +kernel
theorem dX2_merge_61 : decode cX2_merge 61 = .ok (.iastore, 1) := by decide +kernel
theorem dX2_merge_62 : decode cX2_merge 62 = .ok (.aload_n 0, 1) := by decide +kernel
theorem dX2_merge_63 : decode cX2_merge 63 = .ok (.dup, 1) := by decide +kernel
theorem dX2_merge_64 : decode cX2_merge 64 = .ok (.getfield 21, 3) := by decide +kernel
theorem dX2_merge_67 : decode cX2_merge 67 = .ok (.iconst 1, 1) := by decide +kernel
theorem dX2_merge_68 : decode cX2_merge 68 = .ok (.iadd, 1) := by decide +kernel
theorem dX2_merge_69 : decode cX2_merge 69 = .ok (.putfield 21, 3) := by decide +kernel
theorem dX2_merge_72 : decode cX2_merge 72 = .ok (.return_, 1) := by decide +kernel
theorem dX2_fold_0 : decode cX2_fold 0 = .ok (.iconst 0, 1) := by decide +kernel
theorem dX2_fold_1 : decode cX2_fold 1 = .ok (.istore_n 1, 1) := by decide +kernel
theorem dX2_fold_2 : decode cX2_fold 2 = .ok (.iload_n 1, 1) := by decide +kernel
theorem dX2_fold_3 : decode cX2_fold 3 = .ok (.aload_n 0, 1) := by decide +kernel
theorem dX2_fold_4 : decode cX2_fold 4 = .ok (.getfield 21, 3) := by decide +kernel
theorem dX2_fold_7 : decode cX2_fold 7 = .ok (.if_icmp .ge 26, 3) := by decide +kernel
theorem dX2_fold_10 : decode cX2_fold 10 = .ok (.iload_n 1, 1) := by decide +kernel
theorem dX2_fold_11 : decode cX2_fold 11 = .ok (.sipush 1080, 3) := by decide +kernel
theorem dX2_fold_14 : decode cX2_fold 14 = .ok (.if_icmp .ge 19, 3) := by decide +kernel
theorem dX2_fold_17 : decode cX2_fold 17 = .ok (.aload_n 0, 1) := by decide +kernel
theorem dX2_fold_18 : decode cX2_fold 18 = .ok (.aload_n 0, 1) := by decide +kernel
theorem dX2_fold_19 : decode cX2_fold 19 = .ok (.getfield 18, 3) := by decide +kernel
theorem dX2_fold_22 : decode cX2_fold 22 = .ok (.iload_n 1, 1) := by decide +kernel
theorem dX2_fold_23 : decode cX2_fold 23 = .ok (.iaload, 1) := by decide +kernel
theorem dX2_fold_24 : decode cX2_fold 24 = .ok (.invokevirtual 115, 3) := by decide +kernel
theorem dX2_fold_27 : decode cX2_fold 27 = .ok (.iinc 1 1, 3) := by decide +kernel
theorem dX2_fold_30 : decode cX2_fold 30 = .ok (.goto (-28), 3) := by decide +kernel
theorem dX2_fold_33 : decode cX2_fold 33 = .ok (.aload_n 0, 1) := by decide +kernel
theorem dX2_fold_34 : decode cX2_fold 34 = .ok (.iconst 0, 1) := by decide +kernel
theorem dX2_fold_35 : decode cX2_fold 35 = .ok (.putfield 21, 3) := by decide +kernel
theorem dX2_fold_38 : decode cX2_fold 38 = .ok (.return_, 1) := by decide +kernel
theorem dX2_handOver_0 : decode cX2_handOver 0 = .ok (.iconst 0, 1) := by decide +kernel
theorem dX2_handOver_1 : decode cX2_handOver 1 = .ok (.istore_n 2, 1) := by decide +kernel
theorem dX2_handOver_2 : decode cX2_handOver 2 = .ok (.iload_n 2, 1) := by decide +kernel
theorem dX2_handOver_3 : decode cX2_handOver 3 = .ok (.bipush 6, 2) := by decide +kernel
theorem dX2_handOver_5 : decode cX2_handOver 5 = .ok (.if_icmp .ge 58, 3) := by decide +kernel
theorem dX2_handOver_8 : decode cX2_handOver 8 = .ok (.aload_n 0, 1) := by decide +kernel
theorem dX2_handOver_9 : decode cX2_handOver 9 = .ok (.getfield 11, 3) := by decide +kernel
theorem dX2_handOver_12 : decode cX2_handOver 12 = .ok (.iload_n 1, 1) := by decide +kernel
theorem dX2_handOver_13 : decode cX2_handOver 13 = .ok (.bipush 6, 2) := by decide +kernel
theorem dX2_handOver_15 : decode cX2_handOver 15 = .ok (.imul, 1) := by decide +kernel
theorem dX2_handOver_16 : decode cX2_handOver 16 = .ok (.iload_n 2, 1) := by decide +kernel
theorem dX2_handOver_17 : decode cX2_handOver 17 = .ok (.iadd, 1) := by decide +kernel
theorem dX2_handOver_18 : decode cX2_handOver 18 = .ok (.iaload, 1) := by decide +kernel
theorem dX2_handOver_19 : decode cX2_handOver 19 = .ok (.istore_n 3, 1) := by decide +kernel
theorem dX2_handOver_20 : decode cX2_handOver 20 = .ok (.iload_n 3, 1) := by decide +kernel
theorem dX2_handOver_21 : decode cX2_handOver 21 = .ok (.ifCond .lt 36, 3) := by decide +kernel
theorem dX2_handOver_24 : decode cX2_handOver 24 = .ok (.aload_n 0, 1) := by decide +kernel
theorem dX2_handOver_25 : decode cX2_handOver 25 = .ok (.getfield 11, 3) := by decide +kernel
theorem dX2_handOver_28 : decode cX2_handOver 28 = .ok (.iload_n 1, 1) := by decide +kernel
theorem dX2_handOver_29 : decode cX2_handOver 29 = .ok (.bipush 6, 2) := by decide +kernel
theorem dX2_handOver_31 : decode cX2_handOver 31 = .ok (.imul, 1) := by decide +kernel
theorem dX2_handOver_32 : decode cX2_handOver 32 = .ok (.iload_n 2, 1) := by decide +kernel
theorem dX2_handOver_33 : decode cX2_handOver 33 = .ok (.iadd, 1) := by decide +kernel
theorem dX2_handOver_34 : decode cX2_handOver 34 = .ok (.iconst (-1), 1) := by decide +kernel
theorem dX2_handOver_35 : decode cX2_handOver 35 = .ok (.iastore, 1) := by decide +kernel
theorem dX2_handOver_36 : decode cX2_handOver 36 = .ok (.aload_n 0, 1) := by decide +kernel
theorem dX2_handOver_37 : decode cX2_handOver 37 = .ok (.getfield 11, 3) := by decide +kernel
theorem dX2_handOver_40 : decode cX2_handOver 40 = .ok (.iload_n 3, 1) := by decide +kernel
theorem dX2_handOver_41 : decode cX2_handOver 41 = .ok (.bipush 6, 2) := by decide +kernel
theorem dX2_handOver_43 : decode cX2_handOver 43 = .ok (.imul, 1) := by decide +kernel
theorem dX2_handOver_44 : decode cX2_handOver 44 = .ok (.iload_n 2, 1) := by decide +kernel
theorem dX2_handOver_45 : decode cX2_handOver 45 = .ok (.iconst 1, 1) := by decide +kernel
theorem dX2_handOver_46 : decode cX2_handOver 46 = .ok (.ixor, 1) := by decide +kernel
theorem dX2_handOver_47 : decode cX2_handOver 47 = .ok (.iadd, 1) := by decide +kernel
theorem dX2_handOver_48 : decode cX2_handOver 48 = .ok (.iconst (-1), 1) := by decide +kernel
theorem dX2_handOver_49 : decode cX2_handOver 49 = .ok (.iastore, 1) := by decide +kernel
theorem dX2_handOver_50 : decode cX2_handOver 50 = .ok (.aload_n 0, 1) := by decide +kernel
theorem dX2_handOver_51 : decode cX2_handOver 51 = .ok (.iload_n 1, 1) := by decide +kernel
theorem dX2_handOver_52 : decode cX2_handOver 52 = .ok (.iload_n 2, 1) := by decide +kernel
theorem dX2_handOver_53 : decode cX2_handOver 53 = .ok (.iload_n 3, 1) := by decide +kernel
theorem dX2_handOver_54 : decode cX2_handOver 54 = .ok (.invokevirtual 73, 3) := by decide +kernel
theorem dX2_handOver_57 : decode cX2_handOver 57 = .ok (.iinc 2 1, 3) := by decide +kernel
theorem dX2_handOver_60 : decode cX2_handOver 60 = .ok (.goto (-58), 3) := by decide +kernel
theorem dX2_handOver_63 : decode cX2_handOver 63 = .ok (.return_, 1) := by decide +kernel
theorem dX2_placeNow_0 : decode cX2_placeNow 0 = .ok (.iload_n 1, 1) := by decide +kernel
theorem dX2_placeNow_1 : decode cX2_placeNow 1 = .ok (.istore_n 2, 1) := by decide +kernel
theorem dX2_placeNow_2 : decode cX2_placeNow 2 = .ok (.iconst 0, 1) := by decide +kernel
theorem dX2_placeNow_3 : decode cX2_placeNow 3 = .ok (.istore_n 3, 1) := by decide +kernel
theorem dX2_placeNow_4 : decode cX2_placeNow 4 = .ok (.iload_n 3, 1) := by decide +kernel
theorem dX2_placeNow_5 : decode cX2_placeNow 5 = .ok (.sipush 1080, 3) := by decide +kernel
theorem dX2_placeNow_8 : decode cX2_placeNow 8 = .ok (.if_icmp .ge 43, 3) := by decide +kernel
theorem dX2_placeNow_11 : decode cX2_placeNow 11 = .ok (.aload_n 0, 1) := by decide +kernel
theorem dX2_placeNow_12 : decode cX2_placeNow 12 = .ok (.getfield 15, 3) := by decide +kernel
theorem dX2_placeNow_15 : decode cX2_placeNow 15 = .ok (.iload_n 2, 1) := by decide +kernel
theorem dX2_placeNow_16 : decode cX2_placeNow 16 = .ok (.iaload, 1) := by decide +kernel
theorem dX2_placeNow_17 : decode cX2_placeNow 17 = .ok (.iload_n 2, 1) := by decide +kernel
theorem dX2_placeNow_18 : decode cX2_placeNow 18 = .ok (.if_icmp .eq 33, 3) := by decide +kernel
theorem dX2_placeNow_21 : decode cX2_placeNow 21 = .ok (.aload_n 0, 1) := by decide +kernel
theorem dX2_placeNow_22 : decode cX2_placeNow 22 = .ok (.getfield 15, 3) := by decide +kernel
theorem dX2_placeNow_25 : decode cX2_placeNow 25 = .ok (.iload_n 2, 1) := by decide +kernel
theorem dX2_placeNow_26 : decode cX2_placeNow 26 = .ok (.aload_n 0, 1) := by decide +kernel
theorem dX2_placeNow_27 : decode cX2_placeNow 27 = .ok (.getfield 15, 3) := by decide +kernel
theorem dX2_placeNow_30 : decode cX2_placeNow 30 = .ok (.aload_n 0, 1) := by decide +kernel
theorem dX2_placeNow_31 : decode cX2_placeNow 31 = .ok (.getfield 15, 3) := by decide +kernel
theorem dX2_placeNow_34 : decode cX2_placeNow 34 = .ok (.iload_n 2, 1) := by decide +kernel
theorem dX2_placeNow_35 : decode cX2_placeNow 35 = .ok (.iaload, 1) := by decide +kernel
theorem dX2_placeNow_36 : decode cX2_placeNow 36 = .ok (.iaload, 1) := by decide +kernel
theorem dX2_placeNow_37 : decode cX2_placeNow 37 = .ok (.iastore, 1) := by decide +kernel
theorem dX2_placeNow_38 : decode cX2_placeNow 38 = .ok (.aload_n 0, 1) := by decide +kernel
theorem dX2_placeNow_39 : decode cX2_placeNow 39 = .ok (.getfield 15, 3) := by decide +kernel
theorem dX2_placeNow_42 : decode cX2_placeNow 42 = .ok (.iload_n 2, 1) := by decide +kernel
theorem dX2_placeNow_43 : decode cX2_placeNow 43 = .ok (.iaload, 1) := by decide +kernel
theorem dX2_placeNow_44 : decode cX2_placeNow 44 = .ok (.istore_n 2, 1) := by decide +kernel
theorem dX2_placeNow_45 : decode cX2_placeNow 45 = .ok (.iinc 3 1, 3) := by decide +kernel
theorem dX2_placeNow_48 : decode cX2_placeNow 48 = .ok (.goto (-44), 3) := by decide +kernel
theorem dX2_placeNow_51 : decode cX2_placeNow 51 = .ok (.iload_n 2, 1) := by decide +kernel
theorem dX2_placeNow_52 : decode cX2_placeNow 52 = .ok (.ireturn, 1) := by decide +kernel
theorem dX2_renumber_0 : decode cX2_renumber 0 = .ok (.iconst 0, 1) := by decide +kernel
theorem dX2_renumber_1 : decode cX2_renumber 1 = .ok (.istore_n 1, 1) := by decide +kernel
theorem dX2_renumber_2 : decode cX2_renumber 2 = .ok (.iconst 0, 1) := by decide +kernel
theorem dX2_renumber_3 : decode cX2_renumber 3 = .ok (.istore_n 2, 1) := by decide +kernel
theorem dX2_renumber_4 : decode cX2_renumber 4 = .ok (.iload_n 2, 1) := by decide +kernel
theorem dX2_renumber_5 : decode cX2_renumber 5 = .ok (.aload_n 0, 1) := by decide +kernel
theorem dX2_renumber_6 : decode cX2_renumber 6 = .ok (.getfield 31, 3) := by decide +kernel
theorem dX2_renumber_9 : decode cX2_renumber 9 = .ok (.if_icmp .ge 29, 3) := by decide +kernel
theorem dX2_renumber_12 : decode cX2_renumber 12 = .ok (.aload_n 0, 1) := by decide +kernel
theorem dX2_renumber_13 : decode cX2_renumber 13 = .ok (.getfield 15, 3) := by decide +kernel
theorem dX2_renumber_16 : decode cX2_renumber 16 = .ok (.iload_n 2, 1) := by decide +kernel
theorem dX2_renumber_17 : decode cX2_renumber 17 = .ok (.iaload, 1) := by decide +kernel
theorem dX2_renumber_18 : decode cX2_renumber 18 = .ok (.iload_n 2, 1) := by decide +kernel
theorem dX2_renumber_19 : decode cX2_renumber 19 = .ok (.if_icmp .ne 13, 3) := by decide +kernel
theorem dX2_renumber_22 : decode cX2_renumber 22 = .ok (.aload_n 0, 1) := by decide +kernel
theorem dX2_renumber_23 : decode cX2_renumber 23 = .ok (.getfield 25, 3) := by decide +kernel
theorem dX2_renumber_26 : decode cX2_renumber 26 = .ok (.iload_n 2, 1) := by decide +kernel
theorem dX2_renumber_27 : decode cX2_renumber 27 = .ok (.iload_n 1, 1) := by decide +kernel
theorem dX2_renumber_28 : decode cX2_renumber 28 = .ok (.iastore, 1) := by decide +kernel
theorem dX2_renumber_29 : decode cX2_renumber 29 = .ok (.iinc 1 1, 3) := by decide +kernel
theorem dX2_renumber_32 : decode cX2_renumber 32 = .ok (.iinc 2 1, 3) := by decide +kernel
theorem dX2_renumber_35 : decode cX2_renumber 35 = .ok (.goto (-31), 3) := by decide +kernel
theorem dX2_renumber_38 : decode cX2_renumber 38 = .ok (.aload_n 0, 1) := by decide +kernel
theorem dX2_renumber_39 : decode cX2_renumber 39 = .ok (.aload_n 0, 1) := by decide +kernel
theorem dX2_renumber_40 : decode cX2_renumber 40 = .ok (.getfield 25, 3) := by decide +kernel
theorem dX2_renumber_43 : decode cX2_renumber 43 = .ok (.aload_n 0, 1) := by decide +kernel
theorem dX2_renumber_44 : decode cX2_renumber 44 = .ok (.aload_n 0, 1) := by decide +kernel
theorem dX2_renumber_45 : decode cX2_renumber 45 = .ok (.getfield 34, 3) := by decide +kernel
theorem dX2_renumber_48 : decode cX2_renumber 48 = .ok (.invokevirtual 108, 3) := by decide +kernel
theorem dX2_renumber_51 : decode cX2_renumber 51 = .ok (.iaload, 1) := by decide +kernel
theorem dX2_renumber_52 : decode cX2_renumber 52 = .ok (.putfield 34, 3) := by decide +kernel
theorem dX2_renumber_55 : decode cX2_renumber 55 = .ok (.aload_n 0, 1) := by decide +kernel
theorem dX2_renumber_56 : decode cX2_renumber 56 = .ok (.aload_n 0, 1) := by decide +kernel
theorem dX2_renumber_57 : decode cX2_renumber 57 = .ok (.getfield 25, 3) := by decide +kernel
theorem dX2_renumber_60 : decode cX2_renumber 60 = .ok (.aload_n 0, 1) := by decide +kernel
theorem dX2_renumber_61 : decode cX2_renumber 61 = .ok (.aload_n 0, 1) := by decide +kernel
theorem dX2_renumber_62 : decode cX2_renumber 62 = .ok (.getfield 37, 3) := by decide +kernel
theorem dX2_renumber_65 : decode cX2_renumber 65 = .ok (.invokevirtual 108, 3) := by decide +kernel
theorem dX2_renumber_68 : decode cX2_renumber 68 = .ok (.iaload, 1) := by decide +kernel
theorem dX2_renumber_69 : decode cX2_renumber 69 = .ok (.putfield 37, 3) := by decide +kernel
theorem dX2_renumber_72 : decode cX2_renumber 72 = .ok (.iconst 0, 1) := by decide +kernel
theorem dX2_renumber_73 : decode cX2_renumber 73 = .ok (.istore_n 2, 1) := by decide +kernel
theorem dX2_renumber_74 : decode cX2_renumber 74 = .ok (.iload_n 2, 1) := by decide +kernel
theorem dX2_renumber_75 : decode cX2_renumber 75 = .ok (.aload_n 0, 1) := by decide +kernel
theorem dX2_renumber_76 : decode cX2_renumber 76 = .ok (.getfield 31, 3) := by decide +kernel
theorem dX2_renumber_79 : decode cX2_renumber 79 = .ok (.if_icmp .ge 30, 3) := by decide +kernel
theorem dX2_renumber_82 : decode cX2_renumber 82 = .ok (.aload_n 0, 1) := by decide +kernel
theorem dX2_renumber_83 : decode cX2_renumber 83 = .ok (.getfield 15, 3) := by decide +kernel
theorem dX2_renumber_86 : decode cX2_renumber 86 = .ok (.iload_n 2, 1) := by decide +kernel
theorem dX2_renumber_87 : decode cX2_renumber 87 = .ok (.iaload, 1) := by decide +kernel
theorem dX2_renumber_88 : decode cX2_renumber 88 = .ok (.iload_n 2, 1) := by decide +kernel
theorem dX2_renumber_89 : decode cX2_renumber 89 = .ok (.if_icmp .ne 14, 3) := by decide +kernel
theorem dX2_renumber_92 : decode cX2_renumber 92 = .ok (.aload_n 0, 1) := by decide +kernel
theorem dX2_renumber_93 : decode cX2_renumber 93 = .ok (.iload_n 2, 1) := by decide +kernel
theorem dX2_renumber_94 : decode cX2_renumber 94 = .ok (.aload_n 0, 1) := by decide +kernel
theorem dX2_renumber_95 : decode cX2_renumber 95 = .ok (.getfield 25, 3) := by decide +kernel
theorem dX2_renumber_98 : decode cX2_renumber 98 = .ok (.iload_n 2, 1) := by decide +kernel
theorem dX2_renumber_99 : decode cX2_renumber 99 = .ok (.iaload, 1) := by decide +kernel
theorem dX2_renumber_100 : decode cX2_renumber 100 = .ok (.invokevirtual 119, 3) := by decide +kernel
theorem dX2_renumber_103 : decode cX2_renumber 103 = .ok (.iinc 2 1, 3) := by decide +kernel
theorem dX2_renumber_106 : decode cX2_renumber 106 = .ok (.goto (-32), 3) := by decide +kernel
theorem dX2_renumber_109 : decode cX2_renumber 109 = .ok (.iconst 0, 1) := by decide +kernel
theorem dX2_renumber_110 : decode cX2_renumber 110 = .ok (.istore_n 2, 1) := by decide +kernel
theorem dX2_renumber_111 : decode cX2_renumber 111 = .ok (.iload_n 2, 1) := by decide +kernel
theorem dX2_renumber_112 : decode cX2_renumber 112 = .ok (.iload_n 1, 1) := by decide +kernel
theorem dX2_renumber_113 : decode cX2_renumber 113 = .ok (.if_icmp .ge 16, 3) := by decide +kernel
theorem dX2_renumber_116 : decode cX2_renumber 116 = .ok (.aload_n 0, 1) := by decide +kernel
theorem dX2_renumber_117 : decode cX2_renumber 117 = .ok (.getfield 15, 3) := by decide +kernel
theorem dX2_renumber_120 : decode cX2_renumber 120 = .ok (.iload_n 2, 1) := by decide +kernel
theorem dX2_renumber_121 : decode cX2_renumber 121 = .ok (.iload_n 2, 1) := by decide +kernel
theorem dX2_renumber_122 : decode cX2_renumber 122 = .ok (.iastore, 1) := by decide +kernel
theorem dX2_renumber_123 : decode cX2_renumber 123 = .ok (.iinc 2 1, 3) := by decide +kernel
theorem dX2_renumber_126 : decode cX2_renumber 126 = .ok (.goto (-15), 3) := by decide +kernel
theorem dX2_renumber_129 : decode cX2_renumber 129 = .ok (.aload_n 0, 1) := by decide +kernel
theorem dX2_renumber_130 : decode cX2_renumber 130 = .ok (.iload_n 1, 1) := by decide +kernel
theorem dX2_renumber_131 : decode cX2_renumber 131 = .ok (.putfield 31, 3) := by decide +kernel
theorem dX2_renumber_134 : decode cX2_renumber 134 = .ok (.return_, 1) := by decide +kernel
theorem dX2_moveLinks_0 : decode cX2_moveLinks 0 = .ok (.iconst 0, 1) := by decide +kernel
theorem dX2_moveLinks_1 : decode cX2_moveLinks 1 = .ok (.istore_n 3, 1) := by decide +kernel
theorem dX2_moveLinks_2 : decode cX2_moveLinks 2 = .ok (.iload_n 3, 1) := by decide +kernel
theorem dX2_moveLinks_3 : decode cX2_moveLinks 3 = .ok (.bipush 6, 2) := by decide +kernel
theorem dX2_moveLinks_5 : decode cX2_moveLinks 5 = .ok (.if_icmp .ge 49, 3) := by decide +kernel
theorem dX2_moveLinks_8 : decode cX2_moveLinks 8 = .ok (.aload_n 0, 1) := by decide +kernel
theorem dX2_moveLinks_9 : decode cX2_moveLinks 9 = .ok (.getfield 11, 3) := by decide +kernel
theorem dX2_moveLinks_12 : decode cX2_moveLinks 12 = .ok (.iload_n 1, 1) := by decide +kernel
theorem dX2_moveLinks_13 : decode cX2_moveLinks 13 = .ok (.bipush 6, 2) := by decide +kernel
theorem dX2_moveLinks_15 : decode cX2_moveLinks 15 = .ok (.imul, 1) := by decide +kernel
theorem dX2_moveLinks_16 : decode cX2_moveLinks 16 = .ok (.iload_n 3, 1) := by decide +kernel
theorem dX2_moveLinks_17 : decode cX2_moveLinks 17 = .ok (.iadd, 1) := by decide +kernel
theorem dX2_moveLinks_18 : decode cX2_moveLinks 18 = .ok (.iaload, 1) := by decide +kernel
theorem dX2_moveLinks_19 : decode cX2_moveLinks 19 = .ok (.istore 4, 2) := by decide +kernel
theorem dX2_moveLinks_21 : decode cX2_moveLinks 21 = .ok (.aload_n 0, 1) := by decide +kernel
theorem dX2_moveLinks_22 : decode cX2_moveLinks 22 = .ok (.getfield 11, 3) := by decide +kernel
theorem dX2_moveLinks_25 : decode cX2_moveLinks 25 = .ok (.iload_n 2, 1) := by decide +kernel
theorem dX2_moveLinks_26 : decode cX2_moveLinks 26 = .ok (.bipush 6, 2) := by decide +kernel
theorem dX2_moveLinks_28 : decode cX2_moveLinks 28 = .ok (.imul, 1) := by decide +kernel
theorem dX2_moveLinks_29 : decode cX2_moveLinks 29 = .ok (.iload_n 3, 1) := by decide +kernel
theorem dX2_moveLinks_30 : decode cX2_moveLinks 30 = .ok (.iadd, 1) := by decide +kernel
theorem dX2_moveLinks_31 : decode cX2_moveLinks 31 = .ok (.iload 4, 2) := by decide +kernel
theorem dX2_moveLinks_33 : decode cX2_moveLinks 33 = .ok (.ifCond .ge 7, 3) := by decide +kernel
theorem dX2_moveLinks_36 : decode cX2_moveLinks 36 = .ok (.iconst (-1), 1) := by decide +kernel
theorem dX2_moveLinks_37 : decode cX2_moveLinks 37 = .ok (.goto 10, 3) := by decide +kernel
theorem dX2_moveLinks_40 : decode cX2_moveLinks 40 = .ok (.aload_n 0, 1) := by decide +kernel
theorem dX2_moveLinks_41 : decode cX2_moveLinks 41 = .ok (.getfield 25, 3) := by decide +kernel
theorem dX2_moveLinks_44 : decode cX2_moveLinks 44 = .ok (.iload 4, 2) := by decide +kernel
theorem dX2_moveLinks_46 : decode cX2_moveLinks 46 = .ok (.iaload, 1) := by decide +kernel
theorem dX2_moveLinks_47 : decode cX2_moveLinks 47 = .ok (.iastore, 1) := by decide +kernel
theorem dX2_moveLinks_48 : decode cX2_moveLinks 48 = .ok (.iinc 3 1, 3) := by decide +kernel
theorem dX2_moveLinks_51 : decode cX2_moveLinks 51 = .ok (.goto (-49), 3) := by decide +kernel
theorem dX2_moveLinks_54 : decode cX2_moveLinks 54 = .ok (.return_, 1) := by decide +kernel
theorem dX2_accepts_0 : decode cX2_accepts 0 = .ok (.aload_n 1, 1) := by decide +kernel
theorem dX2_accepts_1 : decode cX2_accepts 1 = .ok (.aload_n 0, 1) := by decide +kernel
theorem dX2_accepts_2 : decode cX2_accepts 2 = .ok (.getfield 11, 3) := by decide +kernel
theorem dX2_accepts_5 : decode cX2_accepts 5 = .ok (.aload_n 0, 1) := by decide +kernel
theorem dX2_accepts_6 : decode cX2_accepts 6 = .ok (.getfield 34, 3) := by decide +kernel
theorem dX2_accepts_9 : decode cX2_accepts 9 = .ok (.invokevirtual 87, 3) := by decide +kernel
theorem dX2_accepts_12 : decode cX2_accepts 12 = .ok (.aload_n 0, 1) := by decide +kernel
theorem dX2_accepts_13 : decode cX2_accepts 13 = .ok (.getfield 37, 3) := by decide +kernel
theorem dX2_accepts_16 : decode cX2_accepts 16 = .ok (.if_icmp .ne 7, 3) := by decide +kernel
theorem dX2_accepts_19 : decode cX2_accepts 19 = .ok (.iconst 1, 1) := by decide +kernel
theorem dX2_accepts_20 : decode cX2_accepts 20 = .ok (.goto 4, 3) := by decide +kernel
theorem dX2_accepts_23 : decode cX2_accepts 23 = .ok (.iconst 0, 1) := by decide +kernel
theorem dX2_accepts_24 : decode cX2_accepts 24 = .ok (.ireturn, 1) := by decide +kernel
theorem dX2_joints_0 : decode cX2_joints 0 = .ok (.iconst 0, 1) := by decide +kernel
theorem dX2_joints_1 : decode cX2_joints 1 = .ok (.istore_n 1, 1) := by decide +kernel
theorem dX2_joints_2 : decode cX2_joints 2 = .ok (.iconst 0, 1) := by decide +kernel
theorem dX2_joints_3 : decode cX2_joints 3 = .ok (.istore_n 2, 1) := by decide +kernel
theorem dX2_joints_4 : decode cX2_joints 4 = .ok (.iload_n 2, 1) := by decide +kernel
theorem dX2_joints_5 : decode cX2_joints 5 = .ok (.aload_n 0, 1) := by decide +kernel
theorem dX2_joints_6 : decode cX2_joints 6 = .ok (.getfield 31, 3) := by decide +kernel
theorem dX2_joints_9 : decode cX2_joints 9 = .ok (.if_icmp .ge 40, 3) := by decide +kernel
theorem dX2_joints_12 : decode cX2_joints 12 = .ok (.iconst 0, 1) := by decide +kernel
theorem dX2_joints_13 : decode cX2_joints 13 = .ok (.istore_n 3, 1) := by decide +kernel
theorem dX2_joints_14 : decode cX2_joints 14 = .ok (.iload_n 3, 1) := by decide +kernel
theorem dX2_joints_15 : decode cX2_joints 15 = .ok (.bipush 6, 2) := by decide +kernel
theorem dX2_joints_17 : decode cX2_joints 17 = .ok (.if_icmp .ge 26, 3) := by decide +kernel
theorem dX2_joints_20 : decode cX2_joints 20 = .ok (.aload_n 0, 1) := by decide +kernel
theorem dX2_joints_21 : decode cX2_joints 21 = .ok (.getfield 11, 3) := by decide +kernel
theorem dX2_joints_24 : decode cX2_joints 24 = .ok (.iload_n 2, 1) := by decide +kernel
theorem dX2_joints_25 : decode cX2_joints 25 = .ok (.bipush 6, 2) := by decide +kernel
theorem dX2_joints_27 : decode cX2_joints 27 = .ok (.imul, 1) := by decide +kernel
theorem dX2_joints_28 : decode cX2_joints 28 = .ok (.iload_n 3, 1) := by decide +kernel
theorem dX2_joints_29 : decode cX2_joints 29 = .ok (.iadd, 1) := by decide +kernel
theorem dX2_joints_30 : decode cX2_joints 30 = .ok (.iaload, 1) := by decide +kernel
theorem dX2_joints_31 : decode cX2_joints 31 = .ok (.ifCond .lt 6, 3) := by decide +kernel
theorem dX2_joints_34 : decode cX2_joints 34 = .ok (.iinc 1 1, 3) := by decide +kernel
theorem dX2_joints_37 : decode cX2_joints 37 = .ok (.iinc 3 2, 3) := by decide +kernel
theorem dX2_joints_40 : decode cX2_joints 40 = .ok (.goto (-26), 3) := by decide +kernel
theorem dX2_joints_43 : decode cX2_joints 43 = .ok (.iinc 2 1, 3) := by decide +kernel
theorem dX2_joints_46 : decode cX2_joints 46 = .ok (.goto (-42), 3) := by decide +kernel
theorem dX2_joints_49 : decode cX2_joints 49 = .ok (.iload_n 1, 1) := by decide +kernel
theorem dX2_joints_50 : decode cX2_joints 50 = .ok (.ireturn, 1) := by decide +kernel
theorem dX3_init_0 : decode cX3_init 0 = .ok (.aload_n 0, 1) := by decide +kernel
theorem dX3_init_1 : decode cX3_init 1 = .ok (.invokespecial 1, 3) := by decide +kernel
theorem dX3_init_4 : decode cX3_init 4 = .ok (.aload_n 0, 1) := by decide +kernel
theorem dX3_init_5 : decode cX3_init 5 = .ok (.iconst 0, 1) := by decide +kernel
theorem dX3_init_6 : decode cX3_init 6 = .ok (.putfield 7, 3) := by decide +kernel
theorem dX3_init_9 : decode cX3_init 9 = .ok (.aload_n 0, 1) := by decide +kernel
theorem dX3_init_10 : decode cX3_init 10 = .ok (.new 13, 3) := by decide +kernel
theorem dX3_init_13 : decode cX3_init 13 = .ok (.dup, 1) := by decide +kernel
theorem dX3_init_14 : decode cX3_init 14 = .ok (.invokespecial 15, 3) := by decide +kernel
theorem dX3_init_17 : decode cX3_init 17 = .ok (.putfield 16, 3) := by decide +kernel
theorem dX3_init_20 : decode cX3_init 20 = .ok (.aload_n 0, 1) := by decide +kernel
theorem dX3_init_21 : decode cX3_init 21 = .ok (.new 13, 3) := by decide +kernel
theorem dX3_init_24 : decode cX3_init 24 = .ok (.dup, 1) := by decide +kernel
theorem dX3_init_25 : decode cX3_init 25 = .ok (.invokespecial 15, 3) := by decide +kernel
theorem dX3_init_28 : decode cX3_init 28 = .ok (.putfield 20, 3) := by decide +kernel
theorem dX3_init_31 : decode cX3_init 31 = .ok (.return_, 1) := by decide +kernel
theorem dX3_tell_0 : decode cX3_tell 0 = .ok (.aload_n 0, 1) := by decide +kernel
theorem dX3_tell_1 : decode cX3_tell 1 = .ok (.iconst 1, 1) := by decide +kernel
theorem dX3_tell_2 : decode cX3_tell 2 = .ok (.putfield 7, 3) := by decide +kernel
theorem dX3_tell_5 : decode cX3_tell 5 = .ok (.aload_n 0, 1) := by decide +kernel
theorem dX3_tell_6 : decode cX3_tell 6 = .ok (.getfield 16, 3) := by decide +kernel
theorem dX3_tell_9 : decode cX3_tell 9 = .ok (.aload_n 1, 1) := by decide +kernel
theorem dX3_tell_10 : decode cX3_tell 10 = .ok (.invokevirtual 23, 3) := by decide +kernel
theorem dX3_tell_13 : decode cX3_tell 13 = .ok (.aload_n 0, 1) := by decide +kernel
theorem dX3_tell_14 : decode cX3_tell 14 = .ok (.getfield 20, 3) := by decide +kernel
theorem dX3_tell_17 : decode cX3_tell 17 = .ok (.aload_n 2, 1) := by decide +kernel
theorem dX3_tell_18 : decode cX3_tell 18 = .ok (.invokevirtual 23, 3) := by decide +kernel
theorem dX3_tell_21 : decode cX3_tell 21 = .ok (.return_, 1) := by decide +kernel
theorem dX3_copyFrom_0 : decode cX3_copyFrom 0 = .ok (.aload_n 0, 1) := by decide +kernel
theorem dX3_copyFrom_1 : decode cX3_copyFrom 1 = .ok (.aload_n 1, 1) := by decide +kernel
theorem dX3_copyFrom_2 : decode cX3_copyFrom 2 = .ok (.getfield 7, 3) := by decide +kernel
theorem dX3_copyFrom_5 : decode cX3_copyFrom 5 = .ok (.putfield 7, 3) := by decide +kernel
theorem dX3_copyFrom_8 : decode cX3_copyFrom 8 = .ok (.aload_n 0, 1) := by decide +kernel
theorem dX3_copyFrom_9 : decode cX3_copyFrom 9 = .ok (.getfield 16, 3) := by decide +kernel
theorem dX3_copyFrom_12 : decode cX3_copyFrom 12 = .ok (.aload_n 1, 1) := by decide +kernel
theorem dX3_copyFrom_13 : decode cX3_copyFrom 13 = .ok (.getfield 16, 3) := by decide +kernel
theorem dX3_copyFrom_16 : decode cX3_copyFrom 16 = .ok (.invokevirtual 23, 3) := by decide +kernel
theorem dX3_copyFrom_19 : decode cX3_copyFrom 19 = .ok (.aload_n 0, 1) := by decide +kernel
theorem dX3_copyFrom_20 : decode cX3_copyFrom 20 = .ok (.getfield 20, 3) := by decide +kernel
theorem dX3_copyFrom_23 : decode cX3_copyFrom 23 = .ok (.aload_n 1, 1) := by decide +kernel
theorem dX3_copyFrom_24 : decode cX3_copyFrom 24 = .ok (.getfield 20, 3) := by decide +kernel
theorem dX3_copyFrom_27 : decode cX3_copyFrom 27 = .ok (.invokevirtual 23, 3) := by decide +kernel
theorem dX3_copyFrom_30 : decode cX3_copyFrom 30 = .ok (.return_, 1) := by decide +kernel
theorem dX4_init_0 : decode cX4_init 0 = .ok (.aload_n 0, 1) := by decide +kernel
theorem dX4_init_1 : decode cX4_init 1 = .ok (.invokespecial 3, 3) := by decide +kernel
theorem dX4_init_4 : decode cX4_init 4 = .ok (.aload_n 0, 1) := by decide +kernel
theorem dX4_init_5 : decode cX4_init 5 = .ok (.bipush 6, 2) := by decide +kernel
theorem dX4_init_7 : decode cX4_init 7 = .ok (.newarray .int, 2) := by decide +kernel
theorem dX4_init_9 : decode cX4_init 9 = .ok (.putfield 9, 3) := by decide +kernel
theorem dX4_init_12 : decode cX4_init 12 = .ok (.aload_n 0, 1) := by decide +kernel
theorem dX4_init_13 : decode cX4_init 13 = .ok (.iconst 4, 1) := by decide +kernel
theorem dX4_init_14 : decode cX4_init 14 = .ok (.anewarray 15, 3) := by decide +kernel
theorem dX4_init_17 : decode cX4_init 17 = .ok (.putfield 17, 3) := by decide +kernel
theorem dX4_init_20 : decode cX4_init 20 = .ok (.aload_n 0, 1) := by decide +kernel
theorem dX4_init_21 : decode cX4_init 21 = .ok (.iconst 2, 1) := by decide +kernel
theorem dX4_init_22 : decode cX4_init 22 = .ok (.anewarray 21, 3) := by decide +kernel
theorem dX4_init_25 : decode cX4_init 25 = .ok (.putfield 23, 3) := by decide +kernel
theorem dX4_init_28 : decode cX4_init 28 = .ok (.aload_n 0, 1) := by decide +kernel
theorem dX4_init_29 : decode cX4_init 29 = .ok (.getfield 9, 3) := by decide +kernel
theorem dX4_init_32 : decode cX4_init 32 = .ok (.sipush 7465, 3) := by decide +kernel
theorem dX4_init_35 : decode cX4_init 35 = .ok (.invokestatic 27, 3) := by decide +kernel
theorem dX4_init_38 : decode cX4_init 38 = .ok (.iconst 0, 1) := by decide +kernel
theorem dX4_init_39 : decode cX4_init 39 = .ok (.istore_n 1, 1) := by decide +kernel
theorem dX4_init_40 : decode cX4_init 40 = .ok (.iload_n 1, 1) := by decide +kernel
theorem dX4_init_41 : decode cX4_init 41 = .ok (.iconst 4, 1) := by decide +kernel
theorem dX4_init_42 : decode cX4_init 42 = .ok (.if_icmp .ge 22, 3) := by decide +kernel
theorem dX4_init_45 : decode cX4_init 45 = .ok (.aload_n 0, 1) := by decide +kernel
theorem dX4_init_46 : decode cX4_init 46 = .ok (.getfield 17, 3) := by decide +kernel
theorem dX4_init_49 : decode cX4_init 49 = .ok (.iload_n 1, 1) := by decide +kernel
theorem dX4_init_50 : decode cX4_init 50 = .ok (.new 15, 3) := by decide +kernel
theorem dX4_init_53 : decode cX4_init 53 = .ok (.dup, 1) := by decide +kernel
theorem dX4_init_54 : decode cX4_init 54 = .ok (.invokespecial 33, 3) := by decide +kernel
theorem dX4_init_57 : decode cX4_init 57 = .ok (.aastore, 1) := by decide +kernel
theorem dX4_init_58 : decode cX4_init 58 = .ok (.iinc 1 1, 3) := by decide +kernel
theorem dX4_init_61 : decode cX4_init 61 = .ok (.goto (-21), 3) := by decide +kernel
theorem dX4_init_64 : decode cX4_init 64 = .ok (.iconst 0, 1) := by decide +kernel
theorem dX4_init_65 : decode cX4_init 65 = .ok (.istore_n 1, 1) := by decide +kernel
theorem dX4_init_66 : decode cX4_init 66 = .ok (.iload_n 1, 1) := by decide +kernel
theorem dX4_init_67 : decode cX4_init 67 = .ok (.iconst 2, 1) := by decide +kernel
theorem dX4_init_68 : decode cX4_init 68 = .ok (.if_icmp .ge 22, 3) := by decide +kernel
theorem dX4_init_71 : decode cX4_init 71 = .ok (.aload_n 0, 1) := by decide +kernel
theorem dX4_init_72 : decode cX4_init 72 = .ok (.getfield 23, 3) := by decide +kernel
theorem dX4_init_75 : decode cX4_init 75 = .ok (.iload_n 1, 1) := by decide +kernel
theorem dX4_init_76 : decode cX4_init 76 = .ok (.new 21, 3) := by decide +kernel
theorem dX4_init_79 : decode cX4_init 79 = .ok (.dup, 1) := by decide +kernel
theorem dX4_init_80 : decode cX4_init 80 = .ok (.invokespecial 34, 3) := by decide +kernel
theorem dX4_init_83 : decode cX4_init 83 = .ok (.aastore, 1) := by decide +kernel
theorem dX4_init_84 : decode cX4_init 84 = .ok (.iinc 1 1, 3) := by decide +kernel
theorem dX4_init_87 : decode cX4_init 87 = .ok (.goto (-21), 3) := by decide +kernel
theorem dX4_init_90 : decode cX4_init 90 = .ok (.return_, 1) := by decide +kernel
theorem dX4_copyFrom_0 : decode cX4_copyFrom 0 = .ok (.aload_n 1, 1) := by decide +kernel
theorem dX4_copyFrom_1 : decode cX4_copyFrom 1 = .ok (.getfield 9, 3) := by decide +kernel
theorem dX4_copyFrom_4 : decode cX4_copyFrom 4 = .ok (.iconst 0, 1) := by decide +kernel
theorem dX4_copyFrom_5 : decode cX4_copyFrom 5 = .ok (.aload_n 0, 1) := by decide +kernel
theorem dX4_copyFrom_6 : decode cX4_copyFrom 6 = .ok (.getfield 9, 3) := by decide +kernel
theorem dX4_copyFrom_9 : decode cX4_copyFrom 9 = .ok (.iconst 0, 1) := by decide +kernel
theorem dX4_copyFrom_10 : decode cX4_copyFrom 10 = .ok (.bipush 6, 2) := by decide +kernel
theorem dX4_copyFrom_12 : decode cX4_copyFrom 12 = .ok (.invokestatic 35, 3) := by decide +kernel
theorem dX4_copyFrom_15 : decode cX4_copyFrom 15 = .ok (.iconst 0, 1) := by decide +kernel
theorem dX4_copyFrom_16 : decode cX4_copyFrom 16 = .ok (.istore_n 2, 1) := by decide +kernel
theorem dX4_copyFrom_17 : decode cX4_copyFrom 17 = .ok (.iload_n 2, 1) := by decide +kernel
theorem dX4_copyFrom_18 : decode cX4_copyFrom 18 = .ok (.iconst 4, 1) := by decide +kernel
theorem dX4_copyFrom_19 : decode cX4_copyFrom 19 = .ok (.if_icmp .ge 24, 3) := by decide +kernel
theorem dX4_copyFrom_22 : decode cX4_copyFrom 22 = .ok (.aload_n 0, 1) := by decide +kernel
theorem dX4_copyFrom_23 : decode cX4_copyFrom 23 = .ok (.getfield 17, 3) := by decide +kernel
theorem dX4_copyFrom_26 : decode cX4_copyFrom 26 = .ok (.iload_n 2, 1) := by decide +kernel
theorem dX4_copyFrom_27 : decode cX4_copyFrom 27 = .ok (.aaload, 1) := by decide +kernel
theorem dX4_copyFrom_28 : decode cX4_copyFrom 28 = .ok (.aload_n 1, 1) := by decide +kernel
theorem dX4_copyFrom_29 : decode cX4_copyFrom 29 = .ok (.getfield 17, 3) := by decide +kernel
theorem dX4_copyFrom_32 : decode cX4_copyFrom 32 = .ok (.iload_n 2, 1) := by decide +kernel
theorem dX4_copyFrom_33 : decode cX4_copyFrom 33 = .ok (.aaload, 1) := by decide +kernel
theorem dX4_copyFrom_34 : decode cX4_copyFrom 34 = .ok (.invokevirtual 41, 3) := by decide +kernel
theorem dX4_copyFrom_37 : decode cX4_copyFrom 37 = .ok (.iinc 2 1, 3) := by decide +kernel
theorem dX4_copyFrom_40 : decode cX4_copyFrom 40 = .ok (.goto (-23), 3) := by decide +kernel
theorem dX4_copyFrom_43 : decode cX4_copyFrom 43 = .ok (.iconst 0, 1) := by decide +kernel
theorem dX4_copyFrom_44 : decode cX4_copyFrom 44 = .ok (.istore_n 2, 1) := by decide +kernel
theorem dX4_copyFrom_45 : decode cX4_copyFrom 45 = .ok (.iload_n 2, 1) := by decide +kernel
theorem dX4_copyFrom_46 : decode cX4_copyFrom 46 = .ok (.iconst 2, 1) := by decide +kernel
theorem dX4_copyFrom_47 : decode cX4_copyFrom 47 = .ok (.if_icmp .ge 24, 3) := by decide +kernel
theorem dX4_copyFrom_50 : decode cX4_copyFrom 50 = .ok (.aload_n 0, 1) := by decide +kernel
theorem dX4_copyFrom_51 : decode cX4_copyFrom 51 = .ok (.getfield 23, 3) := by decide +kernel
theorem dX4_copyFrom_54 : decode cX4_copyFrom 54 = .ok (.iload_n 2, 1) := by decide +kernel
theorem dX4_copyFrom_55 : decode cX4_copyFrom 55 = .ok (.aaload, 1) := by decide +kernel
theorem dX4_copyFrom_56 : decode cX4_copyFrom 56 = .ok (.aload_n 1, 1) := by decide +kernel
theorem dX4_copyFrom_57 : decode cX4_copyFrom 57 = .ok (.getfield 23, 3) := by decide +kernel
theorem dX4_copyFrom_60 : decode cX4_copyFrom 60 = .ok (.iload_n 2, 1) := by decide +kernel
theorem dX4_copyFrom_61 : decode cX4_copyFrom 61 = .ok (.aaload, 1) := by decide +kernel
theorem dX4_copyFrom_62 : decode cX4_copyFrom 62 = .ok (.invokevirtual 45, 3) := by decide +kernel
theorem dX4_copyFrom_65 : decode cX4_copyFrom 65 = .ok (.iinc 2 1, 3) := by decide +kernel
theorem dX4_copyFrom_68 : decode cX4_copyFrom 68 = .ok (.goto (-23), 3) := by decide +kernel
theorem dX4_copyFrom_71 : decode cX4_copyFrom 71 = .ok (.return_, 1) := by decide +kernel
theorem dX5_init_0 : decode cX5_init 0 = .ok (.aload_n 0, 1) := by decide +kernel
theorem dX5_init_1 : decode cX5_init 1 = .ok (.invokespecial 3, 3) := by decide +kernel
theorem dX5_init_4 : decode cX5_init 4 = .ok (.aload_n 0, 1) := by decide +kernel
theorem dX5_init_5 : decode cX5_init 5 = .ok (.bipush 78, 2) := by decide +kernel
theorem dX5_init_7 : decode cX5_init 7 = .ok (.newarray .int, 2) := by decide +kernel
theorem dX5_init_9 : decode cX5_init 9 = .ok (.putfield 11, 3) := by decide +kernel
theorem dX5_init_12 : decode cX5_init 12 = .ok (.aload_n 0, 1) := by decide +kernel
theorem dX5_init_13 : decode cX5_init 13 = .ok (.bipush 13, 2) := by decide +kernel
theorem dX5_init_15 : decode cX5_init 15 = .ok (.newarray .int, 2) := by decide +kernel
theorem dX5_init_17 : decode cX5_init 17 = .ok (.putfield 15, 3) := by decide +kernel
theorem dX5_init_20 : decode cX5_init 20 = .ok (.aload_n 0, 1) := by decide +kernel
theorem dX5_init_21 : decode cX5_init 21 = .ok (.iconst 0, 1) := by decide +kernel
theorem dX5_init_22 : decode cX5_init 22 = .ok (.putfield 18, 3) := by decide +kernel
theorem dX5_init_25 : decode cX5_init 25 = .ok (.aload_n 0, 1) := by decide +kernel
theorem dX5_init_26 : decode cX5_init 26 = .ok (.iconst 0, 1) := by decide +kernel
theorem dX5_init_27 : decode cX5_init 27 = .ok (.putfield 22, 3) := by decide +kernel
theorem dX5_init_30 : decode cX5_init 30 = .ok (.return_, 1) := by decide +kernel
theorem dX5_grow_0 : decode cX5_grow 0 = .ok (.aload_n 0, 1) := by decide +kernel
theorem dX5_grow_1 : decode cX5_grow 1 = .ok (.getfield 11, 3) := by decide +kernel
theorem dX5_grow_4 : decode cX5_grow 4 = .ok (.iconst (-1), 1) := by decide +kernel
theorem dX5_grow_5 : decode cX5_grow 5 = .ok (.invokestatic 25, 3) := by decide +kernel
theorem dX5_grow_8 : decode cX5_grow 8 = .ok (.aload_n 0, 1) := by decide +kernel
theorem dX5_grow_9 : decode cX5_grow 9 = .ok (.iconst 1, 1) := by decide +kernel
theorem dX5_grow_10 : decode cX5_grow 10 = .ok (.putfield 18, 3) := by decide +kernel
theorem dX5_grow_13 : decode cX5_grow 13 = .ok (.aload_n 0, 1) := by decide +kernel
theorem dX5_grow_14 : decode cX5_grow 14 = .ok (.getfield 15, 3) := by decide +kernel
theorem dX5_grow_17 : decode cX5_grow 17 = .ok (.iconst 0, 1) := by decide +kernel
theorem dX5_grow_18 : decode cX5_grow 18 = .ok (.iconst 0, 1) := by decide +kernel
theorem dX5_grow_19 : decode cX5_grow 19 = .ok (.iastore, 1) := by decide +kernel
theorem dX5_grow_20 : decode cX5_grow 20 = .ok (.iconst 0, 1) := by decide +kernel
theorem dX5_grow_21 : decode cX5_grow 21 = .ok (.istore_n 2, 1) := by decide +kernel
theorem dX5_grow_22 : decode cX5_grow 22 = .ok (.iconst 0, 1) := by decide +kernel
theorem dX5_grow_23 : decode cX5_grow 23 = .ok (.istore_n 3, 1) := by decide +kernel
theorem dX5_grow_24 : decode cX5_grow 24 = .ok (.iload_n 3, 1) := by decide +kernel
theorem dX5_grow_25 : decode cX5_grow 25 = .ok (.aload_n 1, 1) := by decide +kernel
theorem dX5_grow_26 : decode cX5_grow 26 = .ok (.getfield 31, 3) := by decide +kernel
theorem dX5_grow_29 : decode cX5_grow 29 = .ok (.if_icmp .ge 52, 3) := by decide +kernel
theorem dX5_grow_32 : decode cX5_grow 32 = .ok (.aload_n 1, 1) := by decide +kernel
theorem dX5_grow_33 : decode cX5_grow 33 = .ok (.getfield 36, 3) := by decide +kernel
theorem dX5_grow_36 : decode cX5_grow 36 = .ok (.iload_n 3, 1) := by decide +kernel
theorem dX5_grow_37 : decode cX5_grow 37 = .ok (.iaload, 1) := by decide +kernel
theorem dX5_grow_38 : decode cX5_grow 38 = .ok (.istore 4, 2) := by decide +kernel
theorem dX5_grow_40 : decode cX5_grow 40 = .ok (.aload_n 0, 1) := by decide +kernel
theorem dX5_grow_41 : decode cX5_grow 41 = .ok (.getfield 11, 3) := by decide +kernel
theorem dX5_grow_44 : decode cX5_grow 44 = .ok (.iload_n 2, 1) := by decide +kernel
theorem dX5_grow_45 : decode cX5_grow 45 = .ok (.bipush 6, 2) := by decide +kernel
theorem dX5_grow_47 : decode cX5_grow 47 = .ok (.imul, 1) := by decide +kernel
theorem dX5_grow_48 : decode cX5_grow 48 = .ok (.iload 4, 2) := by decide +kernel
theorem dX5_grow_50 : decode cX5_grow 50 = .ok (.iadd, 1) := by decide +kernel
theorem dX5_grow_51 : decode cX5_grow 51 = .ok (.iaload, 1) := by decide +kernel
theorem dX5_grow_52 : decode cX5_grow 52 = .ok (.ifCond .ge 10, 3) := by decide +kernel
theorem dX5_grow_55 : decode cX5_grow 55 = .ok (.aload_n 0, 1) := by decide +kernel
theorem dX5_grow_56 : decode cX5_grow 56 = .ok (.iload_n 2, 1) := by decide +kernel
theorem dX5_grow_57 : decode cX5_grow 57 = .ok (.iload 4, 2) := by decide +kernel
theorem dX5_grow_59 : decode cX5_grow 59 = .ok (.invokevirtual 39, 3) := by decide +kernel
theorem dX5_grow_62 : decode cX5_grow 62 = .ok (.aload_n 0, 1) := by decide +kernel
theorem dX5_grow_63 : decode cX5_grow 63 = .ok (.getfield 11, 3) := by decide +kernel
theorem dX5_grow_66 : decode cX5_grow 66 = .ok (.iload_n 2, 1) := by decide +kernel
theorem dX5_grow_67 : decode cX5_grow 67 = .ok (.bipush 6, 2) := by decide +kernel
theorem dX5_grow_69 : decode cX5_grow 69 = .ok (.imul, 1) := by decide +kernel
theorem dX5_grow_70 : decode cX5_grow 70 = .ok (.iload 4, 2) := by decide +kernel
theorem dX5_grow_72 : decode cX5_grow 72 = .ok (.iadd, 1) := by decide +kernel
theorem dX5_grow_73 : decode cX5_grow 73 = .ok (.iaload, 1) := by decide +kernel
theorem dX5_grow_74 : decode cX5_grow 74 = .ok (.istore_n 2, 1) := by decide +kernel
theorem dX5_grow_75 : decode cX5_grow 75 = .ok (.iinc 3 1, 3) := by decide +kernel
theorem dX5_grow_78 : decode cX5_grow 78 = .ok (.goto (-54), 3) := by decide +kernel
theorem dX5_grow_81 : decode cX5_grow 81 = .ok (.aload_n 0, 1) := by decide +kernel
theorem dX5_grow_82 : decode cX5_grow 82 = .ok (.iload_n 2, 1) := by decide +kernel
theorem dX5_grow_83 : decode cX5_grow 83 = .ok (.putfield 22, 3) := by decide +kernel
theorem dX5_grow_86 : decode cX5_grow 86 = .ok (.return_, 1) := by decide +kernel
theorem dX5_sprout_0 : decode cX5_sprout 0 = .ok (.aload_n 0, 1) := by decide +kernel
theorem dX5_sprout_1 : decode cX5_sprout 1 = .ok (.getfield 15, 3) := by decide +kernel
theorem dX5_sprout_4 : decode cX5_sprout 4 = .ok (.aload_n 0, 1) := by decide +kernel
theorem dX5_sprout_5 : decode cX5_sprout 5 = .ok (.getfield 18, 3) := by decide +kernel
theorem dX5_sprout_8 : decode cX5_sprout 8 = .ok (.aload_n 0, 1) := by decide +kernel
theorem dX5_sprout_9 : decode cX5_sprout 9 = .ok (.getfield 15, 3) := by decide +kernel
theorem dX5_sprout_12 : decode cX5_sprout 12 = .ok (.iload_n 1, 1) := by decide +kernel
theorem dX5_sprout_13 : decode cX5_sprout 13 = .ok (.iaload, 1) := by decide +kernel
theorem dX5_sprout_14 : decode cX5_sprout 14 = .ok (.iconst 1, 1) := by decide +kernel
theorem dX5_sprout_15 : decode cX5_sprout 15 = .ok (.iadd, 1) := by decide +kernel
theorem dX5_sprout_16 : decode cX5_sprout 16 = .ok (.iastore, 1) := by decide +kernel
theorem dX5_sprout_17 : decode cX5_sprout 17 = .ok (.aload_n 0, 1) := by decide +kernel
theorem dX5_sprout_18 : decode cX5_sprout 18 = .ok (.getfield 11, 3) := by decide +kernel
theorem dX5_sprout_21 : decode cX5_sprout 21 = .ok (.iload_n 1, 1) := by decide +kernel
theorem dX5_sprout_22 : decode cX5_sprout 22 = .ok (.bipush 6, 2) := by decide +kernel
theorem dX5_sprout_24 : decode cX5_sprout 24 = .ok (.imul, 1) := by decide +kernel
theorem dX5_sprout_25 : decode cX5_sprout 25 = .ok (.iload_n 2, 1) := by decide +kernel
theorem dX5_sprout_26 : decode cX5_sprout 26 = .ok (.iadd, 1) := by decide +kernel
theorem dX5_sprout_27 : decode cX5_sprout 27 = .ok (.aload_n 0, 1) := by decide +kernel
theorem dX5_sprout_28 : decode cX5_sprout 28 = .ok (.getfield 18, 3) := by decide +kernel
theorem dX5_sprout_31 : decode cX5_sprout 31 = .ok (.iastore, 1) := by decide +kernel
theorem dX5_sprout_32 : decode cX5_sprout 32 = .ok (.aload_n 0, 1) := by decide +kernel
theorem dX5_sprout_33 : decode cX5_sprout 33 = .ok (.getfield 11, 3) := by decide +kernel
theorem dX5_sprout_36 : decode cX5_sprout 36 = .ok (.aload_n 0, 1) := by decide +kernel
theorem dX5_sprout_37 : decode cX5_sprout 37 = .ok (.getfield 18, 3) := by decide +kernel
theorem dX5_sprout_40 : decode cX5_sprout 40 = .ok (.bipush 6, 2) := by decide +kernel
theorem dX5_sprout_42 : decode cX5_sprout 42 = .ok (.imul, 1) := by decide +kernel
theorem dX5_sprout_43 : decode cX5_sprout 43 = .ok (.iload_n 2, 1) := by decide +kernel
theorem dX5_sprout_44 : decode cX5_sprout 44 = .ok (.iconst 1, 1) := by decide +kernel
theorem dX5_sprout_45 : decode cX5_sprout 45 = .ok (.ixor, 1) := by decide +kernel
theorem dX5_sprout_46 : decode cX5_sprout 46 = .ok (.iadd, 1) := by decide +kernel
theorem dX5_sprout_47 : decode cX5_sprout 47 = .ok (.iload_n 1, 1) := by decide +kernel
theorem dX5_sprout_48 : decode cX5_sprout 48 = .ok (.iastore, 1) := by decide +kernel
theorem dX5_sprout_49 : decode cX5_sprout 49 = .ok (.aload_n 0, 1) := by decide +kernel
theorem dX5_sprout_50 : decode cX5_sprout 50 = .ok (.dup, 1) := by decide +kernel
theorem dX5_sprout_51 : decode cX5_sprout 51 = .ok (.getfield 18, 3) := by decide +kernel
theorem dX5_sprout_54 : decode cX5_sprout 54 = .ok (.iconst 1, 1) := by decide +kernel
theorem dX5_sprout_55 : decode cX5_sprout 55 = .ok (.iadd, 1) := by decide +kernel
theorem dX5_sprout_56 : decode cX5_sprout 56 = .ok (.putfield 18, 3) := by decide +kernel
theorem dX5_sprout_59 : decode cX5_sprout 59 = .ok (.return_, 1) := by decide +kernel
theorem dX5_accepts_0 : decode cX5_accepts 0 = .ok (.aload_n 1, 1) := by decide +kernel
theorem dX5_accepts_1 : decode cX5_accepts 1 = .ok (.aload_n 0, 1) := by decide +kernel
theorem dX5_accepts_2 : decode cX5_accepts 2 = .ok (.getfield 11, 3) := by decide +kernel
theorem dX5_accepts_5 : decode cX5_accepts 5 = .ok (.iconst 0, 1) := by decide +kernel
theorem dX5_accepts_6 : decode cX5_accepts 6 = .ok (.invokevirtual 43, 3) := by decide +kernel
theorem dX5_accepts_9 : decode cX5_accepts 9 = .ok (.aload_n 0, 1) := by decide +kernel
theorem dX5_accepts_10 : decode cX5_accepts 10 = .ok (.getfield 22, 3) := by decide +kernel
theorem dX5_accepts_13 : decode cX5_accepts 13 = .ok (.if_icmp .ne 7, 3) := by decide +kernel
theorem dX5_accepts_16 : decode cX5_accepts 16 = .ok (.iconst 1, 1) := by decide +kernel
theorem dX5_accepts_17 : decode cX5_accepts 17 = .ok (.goto 4, 3) := by decide +kernel
theorem dX5_accepts_20 : decode cX5_accepts 20 = .ok (.iconst 0, 1) := by decide +kernel
theorem dX5_accepts_21 : decode cX5_accepts 21 = .ok (.ireturn, 1) := by decide +kernel
theorem dX5_farthest_0 : decode cX5_farthest 0 = .ok (.iconst 0, 1) := by decide +kernel
theorem dX5_farthest_1 : decode cX5_farthest 1 = .ok (.istore_n 1, 1) := by decide +kernel
theorem dX5_farthest_2 : decode cX5_farthest 2 = .ok (.iconst 0, 1) := by decide +kernel
theorem dX5_farthest_3 : decode cX5_farthest 3 = .ok (.istore_n 2, 1) := by decide +kernel
theorem dX5_farthest_4 : decode cX5_farthest 4 = .ok (.iload_n 2, 1) := by decide +kernel
theorem dX5_farthest_5 : decode cX5_farthest 5 = .ok (.aload_n 0, 1) := by decide +kernel
theorem dX5_farthest_6 : decode cX5_farthest 6 = .ok (.getfield 18, 3) := by decide +kernel
theorem dX5_farthest_9 : decode cX5_farthest 9 = .ok (.if_icmp .ge 20, 3) := by decide +kernel
theorem dX5_farthest_12 : decode cX5_farthest 12 = .ok (.iload_n 1, 1) := by decide +kernel
theorem dX5_farthest_13 : decode cX5_farthest 13 = .ok (.aload_n 0, 1) := by decide +kernel
theorem dX5_farthest_14 : decode cX5_farthest 14 = .ok (.getfield 15, 3) := by decide +kernel
theorem dX5_farthest_17 : decode cX5_farthest 17 = .ok (.iload_n 2, 1) := by decide +kernel
theorem dX5_farthest_18 : decode cX5_farthest 18 = .ok (.iaload, 1) := by decide +kernel
theorem dX5_farthest_19 : decode cX5_farthest 19 = .ok (.invokestatic 47, 3) := by decide +kernel
theorem dX5_farthest_22 : decode cX5_farthest 22 = .ok (.istore_n 1, 1) := by decide +kernel
theorem dX5_farthest_23 : decode cX5_farthest 23 = .ok (.iinc 2 1, 3) := by decide +kernel
theorem dX5_farthest_26 : decode cX5_farthest 26 = .ok (.goto (-22), 3) := by decide +kernel
theorem dX5_farthest_29 : decode cX5_farthest 29 = .ok (.iload_n 1, 1) := by decide +kernel
theorem dX5_farthest_30 : decode cX5_farthest 30 = .ok (.ireturn, 1) := by decide +kernel
theorem dX5_leaves_0 : decode cX5_leaves 0 = .ok (.iconst 0, 1) := by decide +kernel
theorem dX5_leaves_1 : decode cX5_leaves 1 = .ok (.istore_n 1, 1) := by decide +kernel
theorem dX5_leaves_2 : decode cX5_leaves 2 = .ok (.iconst 0, 1) := by decide +kernel
theorem dX5_leaves_3 : decode cX5_leaves 3 = .ok (.istore_n 2, 1) := by decide +kernel
theorem dX5_leaves_4 : decode cX5_leaves 4 = .ok (.iload_n 2, 1) := by decide +kernel
theorem dX5_leaves_5 : decode cX5_leaves 5 = .ok (.aload_n 0, 1) := by decide +kernel
theorem dX5_leaves_6 : decode cX5_leaves 6 = .ok (.getfield 18, 3) := by decide +kernel
theorem dX5_leaves_9 : decode cX5_leaves 9 = .ok (.if_icmp .ge 53, 3) := by decide +kernel
theorem dX5_leaves_12 : decode cX5_leaves 12 = .ok (.iconst 0, 1) := by decide +kernel
theorem dX5_leaves_13 : decode cX5_leaves 13 = .ok (.istore_n 3, 1) := by decide +kernel
theorem dX5_leaves_14 : decode cX5_leaves 14 = .ok (.iconst 0, 1) := by decide +kernel
theorem dX5_leaves_15 : decode cX5_leaves 15 = .ok (.istore 4, 2) := by decide +kernel
theorem dX5_leaves_17 : decode cX5_leaves 17 = .ok (.iload 4, 2) := by decide +kernel
theorem dX5_leaves_19 : decode cX5_leaves 19 = .ok (.bipush 6, 2) := by decide +kernel
theorem dX5_leaves_21 : decode cX5_leaves 21 = .ok (.if_icmp .ge 27, 3) := by decide +kernel
theorem dX5_leaves_24 : decode cX5_leaves 24 = .ok (.aload_n 0, 1) := by decide +kernel
theorem dX5_leaves_25 : decode cX5_leaves 25 = .ok (.getfield 11, 3) := by decide +kernel
theorem dX5_leaves_28 : decode cX5_leaves 28 = .ok (.iload_n 2, 1) := by decide +kernel
theorem dX5_leaves_29 : decode cX5_leaves 29 = .ok (.bipush 6, 2) := by decide +kernel
theorem dX5_leaves_31 : decode cX5_leaves 31 = .ok (.imul, 1) := by decide +kernel
theorem dX5_leaves_32 : decode cX5_leaves 32 = .ok (.iload 4, 2) := by decide +kernel
theorem dX5_leaves_34 : decode cX5_leaves 34 = .ok (.iadd, 1) := by decide +kernel
theorem dX5_leaves_35 : decode cX5_leaves 35 = .ok (.iaload, 1) := by decide +kernel
theorem dX5_leaves_36 : decode cX5_leaves 36 = .ok (.ifCond .lt 6, 3) := by decide +kernel
theorem dX5_leaves_39 : decode cX5_leaves 39 = .ok (.iinc 3 1, 3) := by decide +kernel
theorem dX5_leaves_42 : decode cX5_leaves 42 = .ok (.iinc 4 1, 3) := by decide +kernel
theorem dX5_leaves_45 : decode cX5_leaves 45 = .ok (.goto (-28), 3) := by decide +kernel
theorem dX5_leaves_48 : decode cX5_leaves 48 = .ok (.iload_n 3, 1) := by decide +kernel
theorem dX5_leaves_49 : decode cX5_leaves 49 = .ok (.iconst 1, 1) := by decide +kernel
theorem dX5_leaves_50 : decode cX5_leaves 50 = .ok (.if_icmp .ne 6, 3) := by decide +kernel
theorem dX5_leaves_53 : decode cX5_leaves 53 = .ok (.iinc 1 1, 3) := by decide +kernel
theorem dX5_leaves_56 : decode cX5_leaves 56 = .ok (.iinc 2 1, 3) := by decide +kernel
theorem dX5_leaves_59 : decode cX5_leaves 59 = .ok (.goto (-55), 3) := by decide +kernel
theorem dX5_leaves_62 : decode cX5_leaves 62 = .ok (.iload_n 1, 1) := by decide +kernel
theorem dX5_leaves_63 : decode cX5_leaves 63 = .ok (.ireturn, 1) := by decide +kernel
theorem dX6_init_0 : decode cX6_init 0 = .ok (.aload_n 0, 1) := by decide +kernel
theorem dX6_init_1 : decode cX6_init 1 = .ok (.invokespecial 3, 3) := by decide +kernel
theorem dX6_init_4 : decode cX6_init 4 = .ok (.aload_n 0, 1) := by decide +kernel
theorem dX6_init_5 : decode cX6_init 5 = .ok (.bipush 12, 2) := by decide +kernel
theorem dX6_init_7 : decode cX6_init 7 = .ok (.newarray .int, 2) := by decide +kernel
theorem dX6_init_9 : decode cX6_init 9 = .ok (.putfield 9, 3) := by decide +kernel
theorem dX6_init_12 : decode cX6_init 12 = .ok (.aload_n 0, 1) := by decide +kernel
theorem dX6_init_13 : decode cX6_init 13 = .ok (.iconst 0, 1) := by decide +kernel
theorem dX6_init_14 : decode cX6_init 14 = .ok (.putfield 15, 3) := by decide +kernel
theorem dX6_init_17 : decode cX6_init 17 = .ok (.return_, 1) := by decide +kernel
theorem dX6_copyFrom_0 : decode cX6_copyFrom 0 = .ok (.aload_n 1, 1) := by decide +kernel
theorem dX6_copyFrom_1 : decode cX6_copyFrom 1 = .ok (.getfield 9, 3) := by decide +kernel
theorem dX6_copyFrom_4 : decode cX6_copyFrom 4 = .ok (.iconst 0, 1) := by decide +kernel
theorem dX6_copyFrom_5 : decode cX6_copyFrom 5 = .ok (.aload_n 0, 1) := by decide +kernel
theorem dX6_copyFrom_6 : decode cX6_copyFrom 6 = .ok (.getfield 9, 3) := by decide +kernel
theorem dX6_copyFrom_9 : decode cX6_copyFrom 9 = .ok (.iconst 0, 1) := by decide +kernel
theorem dX6_copyFrom_10 : decode cX6_copyFrom 10 = .ok (.bipush 12, 2) := by decide +kernel
theorem dX6_copyFrom_12 : decode cX6_copyFrom 12 = .ok (.invokestatic 19, 3) := by decide +kernel
theorem dX6_copyFrom_15 : decode cX6_copyFrom 15 = .ok (.aload_n 0, 1) := by decide +kernel
theorem dX6_copyFrom_16 : decode cX6_copyFrom 16 = .ok (.aload_n 1, 1) := by decide +kernel
theorem dX6_copyFrom_17 : decode cX6_copyFrom 17 = .ok (.getfield 15, 3) := by decide +kernel
theorem dX6_copyFrom_20 : decode cX6_copyFrom 20 = .ok (.putfield 15, 3) := by decide +kernel
theorem dX6_copyFrom_23 : decode cX6_copyFrom 23 = .ok (.return_, 1) := by decide +kernel
theorem dX6_follow_0 : decode cX6_follow 0 = .ok (.iload_n 2, 1) := by decide +kernel
theorem dX6_follow_1 : decode cX6_follow 1 = .ok (.istore_n 3, 1) := by decide +kernel
theorem dX6_follow_2 : decode cX6_follow 2 = .ok (.iconst 0, 1) := by decide +kernel
theorem dX6_follow_3 : decode cX6_follow 3 = .ok (.istore 4, 2) := by decide +kernel
theorem dX6_follow_5 : decode cX6_follow 5 = .ok (.iload 4, 2) := by decide +kernel
theorem dX6_follow_7 : decode cX6_follow 7 = .ok (.aload_n 0, 1) := by decide +kernel
theorem dX6_follow_8 : decode cX6_follow 8 = .ok (.getfield 15, 3) := by decide +kernel
theorem dX6_follow_11 : decode cX6_follow 11 = .ok (.if_icmp .ge 28, 3) := by decide +kernel
theorem dX6_follow_14 : decode cX6_follow 14 = .ok (.iload_n 3, 1) := by decide +kernel
theorem dX6_follow_15 : decode cX6_follow 15 = .ok (.ifCond .lt 24, 3) := by decide +kernel
theorem dX6_follow_18 : decode cX6_follow 18 = .ok (.aload_n 1, 1) := by decide +kernel
theorem dX6_follow_19 : decode cX6_follow 19 = .ok (.iload_n 3, 1) := by decide +kernel
theorem dX6_follow_20 : decode cX6_follow 20 = .ok (.bipush 6, 2) := by decide +kernel
theorem dX6_follow_22 : decode cX6_follow 22 = .ok (.imul, 1) := by decide +kernel
theorem dX6_follow_23 : decode cX6_follow 23 = .ok (.aload_n 0, 1) := by decide +kernel
theorem dX6_follow_24 : decode cX6_follow 24 = .ok (.getfield 9, 3) := by decide +kernel
theorem dX6_follow_27 : decode cX6_follow 27 = .ok (.iload 4, 2) := by decide +kernel
theorem dX6_follow_29 : decode cX6_follow 29 = .ok (.iaload, 1) := by decide +kernel
theorem dX6_follow_30 : decode cX6_follow 30 = .ok (.iadd, 1) := by decide +kernel
theorem dX6_follow_31 : decode cX6_follow 31 = .ok (.iaload, 1) := by decide +kernel
theorem dX6_follow_32 : decode cX6_follow 32 = .ok (.istore_n 3, 1) := by decide +kernel
theorem dX6_follow_33 : decode cX6_follow 33 = .ok (.iinc 4 1, 3) := by decide +kernel
theorem dX6_follow_36 : decode cX6_follow 36 = .ok (.goto (-31), 3) := by decide +kernel
theorem dX6_follow_39 : decode cX6_follow 39 = .ok (.iload_n 3, 1) := by decide +kernel
theorem dX6_follow_40 : decode cX6_follow 40 = .ok (.ireturn, 1) := by decide +kernel
theorem dX7_init_0 : decode cX7_init 0 = .ok (.aload_n 0, 1) := by decide +kernel
theorem dX7_init_1 : decode cX7_init 1 = .ok (.invokespecial 1, 3) := by decide +kernel
theorem dX7_init_4 : decode cX7_init 4 = .ok (.aload_n 0, 1) := by decide +kernel
theorem dX7_init_5 : decode cX7_init 5 = .ok (.new 7, 3) := by decide +kernel
theorem dX7_init_8 : decode cX7_init 8 = .ok (.dup, 1) := by decide +kernel
theorem dX7_init_9 : decode cX7_init 9 = .ok (.invokespecial 9, 3) := by decide +kernel
theorem dX7_init_12 : decode cX7_init 12 = .ok (.putfield 10, 3) := by decide +kernel
theorem dX7_init_15 : decode cX7_init 15 = .ok (.aload_n 0, 1) := by decide +kernel
theorem dX7_init_16 : decode cX7_init 16 = .ok (.iconst 2, 1) := by decide +kernel
theorem dX7_init_17 : decode cX7_init 17 = .ok (.anewarray 7, 3) := by decide +kernel
theorem dX7_init_20 : decode cX7_init 20 = .ok (.putfield 16, 3) := by decide +kernel
theorem dX7_init_23 : decode cX7_init 23 = .ok (.aload_n 0, 1) := by decide +kernel
theorem dX7_init_24 : decode cX7_init 24 = .ok (.iconst 2, 1) := by decide +kernel
theorem dX7_init_25 : decode cX7_init 25 = .ok (.newarray .boolean, 2) := by decide +kernel
theorem dX7_init_27 : decode cX7_init 27 = .ok (.putfield 20, 3) := by decide +kernel
theorem dX7_init_30 : decode cX7_init 30 = .ok (.aload_n 0, 1) := by decide +kernel
theorem dX7_init_31 : decode cX7_init 31 = .ok (.bipush 12, 2) := by decide +kernel
theorem dX7_init_33 : decode cX7_init 33 = .ok (.newarray .int, 2) := by decide +kernel
theorem dX7_init_35 : decode cX7_init 35 = .ok (.putfield 24, 3) := by decide +kernel
theorem dX7_init_38 : decode cX7_init 38 = .ok (.aload_n 0, 1) := by decide +kernel
theorem dX7_init_39 : decode cX7_init 39 = .ok (.iconst 0, 1) := by decide +kernel
theorem dX7_init_40 : decode cX7_init 40 = .ok (.putfield 28, 3) := by decide +kernel
theorem dX7_init_43 : decode cX7_init 43 = .ok (.aload_n 0, 1) := by decide +kernel
theorem dX7_init_44 : decode cX7_init 44 = .ok (.new 32, 3) := by decide +kernel
theorem dX7_init_47 : decode cX7_init 47 = .ok (.dup, 1) := by decide +kernel
theorem dX7_init_48 : decode cX7_init 48 = .ok (.invokespecial 34, 3) := by decide +kernel
theorem dX7_init_51 : decode cX7_init 51 = .ok (.putfield 35, 3) := by decide +kernel
theorem dX7_init_54 : decode cX7_init 54 = .ok (.aload_n 0, 1) := by decide +kernel
theorem dX7_init_55 : decode cX7_init 55 = .ok (.new 39, 3) := by decide +kernel
theorem dX7_init_58 : decode cX7_init 58 = .ok (.dup, 1) := by decide +kernel
theorem dX7_init_59 : decode cX7_init 59 = .ok (.invokespecial 41, 3) := by decide +kernel
theorem dX7_init_62 : decode cX7_init 62 = .ok (.putfield 42, 3) := by decide +kernel
theorem dX7_init_65 : decode cX7_init 65 = .ok (.aload_n 0, 1) := by decide +kernel
theorem dX7_init_66 : decode cX7_init 66 = .ok (.new 46, 3) := by decide +kernel
theorem dX7_init_69 : decode cX7_init 69 = .ok (.dup, 1) := by decide +kernel
theorem dX7_init_70 : decode cX7_init 70 = .ok (.invokespecial 48, 3) := by decide +kernel
theorem dX7_init_73 : decode cX7_init 73 = .ok (.putfield 49, 3) := by decide +kernel
theorem dX7_init_76 : decode cX7_init 76 = .ok (.iconst 0, 1) := by decide +kernel
theorem dX7_init_77 : decode cX7_init 77 = .ok (.istore_n 1, 1) := by decide +kernel
theorem dX7_init_78 : decode cX7_init 78 = .ok (.iload_n 1, 1) := by decide +kernel
theorem dX7_init_79 : decode cX7_init 79 = .ok (.iconst 2, 1) := by decide +kernel
theorem dX7_init_80 : decode cX7_init 80 = .ok (.if_icmp .ge 22, 3) := by decide +kernel
theorem dX7_init_83 : decode cX7_init 83 = .ok (.aload_n 0, 1) := by decide +kernel
theorem dX7_init_84 : decode cX7_init 84 = .ok (.getfield 16, 3) := by decide +kernel
theorem dX7_init_87 : decode cX7_init 87 = .ok (.iload_n 1, 1) := by decide +kernel
theorem dX7_init_88 : decode cX7_init 88 = .ok (.new 7, 3) := by decide +kernel
theorem dX7_init_91 : decode cX7_init 91 = .ok (.dup, 1) := by decide +kernel
theorem dX7_init_92 : decode cX7_init 92 = .ok (.invokespecial 9, 3) := by decide +kernel
theorem dX7_init_95 : decode cX7_init 95 = .ok (.aastore, 1) := by decide +kernel
theorem dX7_init_96 : decode cX7_init 96 = .ok (.iinc 1 1, 3) := by decide +kernel
theorem dX7_init_99 : decode cX7_init 99 = .ok (.goto (-21), 3) := by decide +kernel
theorem dX7_init_102 : decode cX7_init 102 = .ok (.return_, 1) := by decide +kernel
theorem dX7_set_0 : decode cX7_set 0 = .ok (.iload_n 1, 1) := by decide +kernel
theorem dX7_set_1 : decode cX7_set 1 = .ok (.invokestatic 53, 3) := by decide +kernel
theorem dX7_set_4 : decode cX7_set 4 = .ok (.ifCond .ne 5, 3) := by decide +kernel
theorem dX7_set_7 : decode cX7_set 7 = .ok (.iconst (-1), 1) := by decide +kernel
theorem dX7_set_8 : decode cX7_set 8 = .ok (.ireturn, 1) := by decide +kernel
theorem dX7_set_9 : decode cX7_set 9 = .ok (.iload_n 2, 1) := by decide +kernel
theorem dX7_set_10 : decode cX7_set 10 = .ok (.invokestatic 57, 3) := by decide +kernel
theorem dX7_set_13 : decode cX7_set 13 = .ok (.ifCond .ne 6, 3) := by decide +kernel
theorem dX7_set_16 : decode cX7_set 16 = .ok (.bipush (-2), 2) := by decide +kernel
theorem dX7_set_18 : decode cX7_set 18 = .ok (.ireturn, 1) := by decide +kernel
theorem dX7_set_19 : decode cX7_set 19 = .ok (.aload_n 0, 1) := by decide +kernel
theorem dX7_set_20 : decode cX7_set 20 = .ok (.getfield 10, 3) := by decide +kernel
theorem dX7_set_23 : decode cX7_set 23 = .ok (.getfield 62, 3) := by decide +kernel
theorem dX7_set_26 : decode cX7_set 26 = .ok (.iload_n 1, 1) := by decide +kernel
theorem dX7_set_27 : decode cX7_set 27 = .ok (.iaload, 1) := by decide +kernel
theorem dX7_set_28 : decode cX7_set 28 = .ok (.istore_n 3, 1) := by decide +kernel
theorem dX7_set_29 : decode cX7_set 29 = .ok (.aload_n 0, 1) := by decide +kernel
theorem dX7_set_30 : decode cX7_set 30 = .ok (.getfield 10, 3) := by decide +kernel
theorem dX7_set_33 : decode cX7_set 33 = .ok (.getfield 62, 3) := by decide +kernel
theorem dX7_set_36 : decode cX7_set 36 = .ok (.iload_n 1, 1) := by decide +kernel
theorem dX7_set_37 : decode cX7_set 37 = .ok (.iload_n 2, 1) := by decide +kernel
theorem dX7_set_38 : decode cX7_set 38 = .ok (.iastore, 1) := by decide +kernel
theorem dX7_set_39 : decode cX7_set 39 = .ok (.iload_n 3, 1) := by decide +kernel
theorem dX7_set_40 : decode cX7_set 40 = .ok (.ireturn, 1) := by decide +kernel
theorem dX7_of_0 : decode cX7_of 0 = .ok (.iload_n 1, 1) := by decide +kernel
theorem dX7_of_1 : decode cX7_of 1 = .ok (.invokestatic 53, 3) := by decide +kernel
theorem dX7_of_4 : decode cX7_of 4 = .ok (.ifCond .ne 5, 3) := by decide +kernel
theorem dX7_of_7 : decode cX7_of 7 = .ok (.iconst (-1), 1) := by decide +kernel
theorem dX7_of_8 : decode cX7_of 8 = .ok (.ireturn, 1) := by decide +kernel
theorem dX7_of_9 : decode cX7_of 9 = .ok (.aload_n 0, 1) := by decide +kernel
theorem dX7_of_10 : decode cX7_of 10 = .ok (.getfield 10, 3) := by decide +kernel
theorem dX7_of_13 : decode cX7_of 13 = .ok (.getfield 62, 3) := by decide +kernel
theorem dX7_of_16 : decode cX7_of 16 = .ok (.iload_n 1, 1) := by decide +kernel
theorem dX7_of_17 : decode cX7_of 17 = .ok (.iaload, 1) := by decide +kernel
theorem dX7_of_18 : decode cX7_of 18 = .ok (.istore_n 3, 1) := by decide +kernel
theorem dX7_of_19 : decode cX7_of 19 = .ok (.iload_n 2, 1) := by decide +kernel
theorem dX7_of_20 : decode cX7_of 20 = .ok (.tableswitch 52 0 3 #[32, 34, 39, 47], 32) := by decide +kernel
theorem dX7_of_52 : decode cX7_of 52 = .ok (.iload_n 3, 1) := by decide +kernel
theorem dX7_of_53 : decode cX7_of 53 = .ok (.ireturn, 1) := by decide +kernel
theorem dX7_of_54 : decode cX7_of 54 = .ok (.iload_n 3, 1) := by decide +kernel
theorem dX7_of_55 : decode cX7_of 55 = .ok (.invokestatic 65, 3) := by decide +kernel
theorem dX7_of_58 : decode cX7_of 58 = .ok (.ireturn, 1) := by decide +kernel
theorem dX7_of_59 : decode cX7_of 59 = .ok (.iload_n 3, 1) := by decide +kernel
theorem dX7_of_60 : decode cX7_of 60 = .ok (.invokestatic 69, 3) := by decide +kernel
theorem dX7_of_63 : decode cX7_of 63 = .ok (.invokestatic 72, 3) := by decide +kernel
theorem dX7_of_66 : decode cX7_of 66 = .ok (.ireturn, 1) := by decide +kernel
theorem dX7_of_67 : decode cX7_of 67 = .ok (.iload_n 3, 1) := by decide +kernel
theorem dX7_of_68 : decode cX7_of 68 = .ok (.invokestatic 76, 3) := by decide +kernel
theorem dX7_of_71 : decode cX7_of 71 = .ok (.ireturn, 1) := by decide +kernel
theorem dX7_of_72 : decode cX7_of 72 = .ok (.bipush (-2), 2) := by decide +kernel
theorem dX7_of_74 : decode cX7_of 74 = .ok (.ireturn, 1) := by decide +kernel
theorem dX7_leads_0 : decode cX7_leads 0 = .ok (.iload_n 1, 1) := by decide +kernel
theorem dX7_leads_1 : decode cX7_leads 1 = .ok (.invokestatic 53, 3) := by decide +kernel
theorem dX7_leads_4 : decode cX7_leads 4 = .ok (.ifCond .eq 12, 3) := by decide +kernel
theorem dX7_leads_7 : decode cX7_leads 7 = .ok (.iload_n 2, 1) := by decide +kernel
theorem dX7_leads_8 : decode cX7_leads 8 = .ok (.ifCond .lt 8, 3) := by decide +kernel
theorem dX7_leads_11 : decode cX7_leads 11 = .ok (.iload_n 2, 1) := by decide +kernel
theorem dX7_leads_12 : decode cX7_leads 12 = .ok (.iconst 5, 1) := by decide +kernel
theorem dX7_leads_13 : decode cX7_leads 13 = .ok (.if_icmp .lt 5, 3) := by decide +kernel
theorem dX7_leads_16 : decode cX7_leads 16 = .ok (.iconst (-1), 1) := by decide +kernel
theorem dX7_leads_17 : decode cX7_leads 17 = .ok (.ireturn, 1) := by decide +kernel
theorem dX7_leads_18 : decode cX7_leads 18 = .ok (.aload_n 0, 1) := by decide +kernel
theorem dX7_leads_19 : decode cX7_leads 19 = .ok (.getfield 10, 3) := by decide +kernel
theorem dX7_leads_22 : decode cX7_leads 22 = .ok (.getfield 62, 3) := by decide +kernel
theorem dX7_leads_25 : decode cX7_leads 25 = .ok (.iload_n 1, 1) := by decide +kernel
theorem dX7_leads_26 : decode cX7_leads 26 = .ok (.iaload, 1) := by decide +kernel
theorem dX7_leads_27 : decode cX7_leads 27 = .ok (.iload_n 2, 1) := by decide +kernel
theorem dX7_leads_28 : decode cX7_leads 28 = .ok (.invokestatic 79, 3) := by decide +kernel
theorem dX7_leads_31 : decode cX7_leads 31 = .ok (.istore_n 3, 1) := by decide +kernel
theorem dX7_leads_32 : decode cX7_leads 32 = .ok (.iload_n 3, 1) := by decide +kernel
theorem dX7_leads_33 : decode cX7_leads 33 = .ok (.ifCond .ne 8, 3) := by decide +kernel
theorem dX7_leads_36 : decode cX7_leads 36 = .ok (.bipush (-6), 2) := by decide +kernel
theorem dX7_leads_38 : decode cX7_leads 38 = .ok (.goto 6, 3) := by decide +kernel
theorem dX7_leads_41 : decode cX7_leads 41 = .ok (.iload_n 3, 1) := by decide +kernel
theorem dX7_leads_42 : decode cX7_leads 42 = .ok (.iconst 1, 1) := by decide +kernel
theorem dX7_leads_43 : decode cX7_leads 43 = .ok (.isub, 1) := by decide +kernel
theorem dX7_leads_44 : decode cX7_leads 44 = .ok (.ireturn, 1) := by decide +kernel
theorem dX7_both_0 : decode cX7_both 0 = .ok (.iload_n 1, 1) := by decide +kernel
theorem dX7_both_1 : decode cX7_both 1 = .ok (.invokestatic 53, 3) := by decide +kernel
theorem dX7_both_4 : decode cX7_both 4 = .ok (.ifCond .eq 17, 3) := by decide +kernel
theorem dX7_both_7 : decode cX7_both 7 = .ok (.iload_n 2, 1) := by decide +kernel
theorem dX7_both_8 : decode cX7_both 8 = .ok (.invokestatic 53, 3) := by decide +kernel
theorem dX7_both_11 : decode cX7_both 11 = .ok (.ifCond .eq 10, 3) := by decide +kernel
theorem dX7_both_14 : decode cX7_both 14 = .ok (.iload_n 3, 1) := by decide +kernel
theorem dX7_both_15 : decode cX7_both 15 = .ok (.invokestatic 53, 3) := by decide +kernel
theorem dX7_both_18 : decode cX7_both 18 = .ok (.ifCond .ne 5, 3) := by decide +kernel
theorem dX7_both_21 : decode cX7_both 21 = .ok (.iconst (-1), 1) := by decide +kernel
theorem dX7_both_22 : decode cX7_both 22 = .ok (.ireturn, 1) := by decide +kernel
theorem dX7_both_23 : decode cX7_both 23 = .ok (.aload_n 0, 1) := by decide +kernel
theorem dX7_both_24 : decode cX7_both 24 = .ok (.getfield 10, 3) := by decide +kernel
theorem dX7_both_27 : decode cX7_both 27 = .ok (.getfield 62, 3) := by decide +kernel
theorem dX7_both_30 : decode cX7_both 30 = .ok (.iload_n 2, 1) := by decide +kernel
theorem dX7_both_31 : decode cX7_both 31 = .ok (.iaload, 1) := by decide +kernel
theorem dX7_both_32 : decode cX7_both 32 = .ok (.istore 5, 2) := by decide +kernel
theorem dX7_both_34 : decode cX7_both 34 = .ok (.aload_n 0, 1) := by decide +kernel
theorem dX7_both_35 : decode cX7_both 35 = .ok (.getfield 10, 3) := by decide +kernel
theorem dX7_both_38 : decode cX7_both 38 = .ok (.getfield 62, 3) := by decide +kernel
theorem dX7_both_41 : decode cX7_both 41 = .ok (.iload_n 3, 1) := by decide +kernel
theorem dX7_both_42 : decode cX7_both 42 = .ok (.iaload, 1) := by decide +kernel
theorem dX7_both_43 : decode cX7_both 43 = .ok (.istore 6, 2) := by decide +kernel
theorem dX7_both_45 : decode cX7_both 45 = .ok (.iload 4, 2) := by decide +kernel
theorem dX7_both_47 : decode cX7_both 47 = .ok (.tableswitch 78 0 2 #[25, 38, 51], 25) := by decide +kernel
theorem dX7_both_72 : decode cX7_both 72 = .ok (.aload_n 0, 1) := by decide +kernel
theorem dX7_both_73 : decode cX7_both 73 = .ok (.iload_n 1, 1) := by decide +kernel
theorem dX7_both_74 : decode cX7_both 74 = .ok (.iload 5, 2) := by decide +kernel
theorem dX7_both_76 : decode cX7_both 76 = .ok (.iload 6, 2) := by decide +kernel
theorem dX7_both_78 : decode cX7_both 78 = .ok (.invokestatic 83, 3) := by decide +kernel
theorem dX7_both_81 : decode cX7_both 81 = .ok (.invokevirtual 86, 3) := by decide +kernel
theorem dX7_both_84 : decode cX7_both 84 = .ok (.ireturn, 1) := by decide +kernel
theorem dX7_both_85 : decode cX7_both 85 = .ok (.aload_n 0, 1) := by decide +kernel
theorem dX7_both_86 : decode cX7_both 86 = .ok (.iload_n 1, 1) := by decide +kernel
theorem dX7_both_87 : decode cX7_both 87 = .ok (.iload 5, 2) := by decide +kernel
theorem dX7_both_89 : decode cX7_both 89 = .ok (.iload 6, 2) := by decide +kernel
theorem dX7_both_91 : decode cX7_both 91 = .ok (.invokestatic 89, 3) := by decide +kernel
theorem dX7_both_94 : decode cX7_both 94 = .ok (.invokevirtual 86, 3) := by decide +kernel
theorem dX7_both_97 : decode cX7_both 97 = .ok (.ireturn, 1) := by decide +kernel
theorem dX7_both_98 : decode cX7_both 98 = .ok (.iload 5, 2) := by decide +kernel
theorem dX7_both_100 : decode cX7_both 100 = .ok (.iload 6, 2) := by decide +kernel
theorem dX7_both_102 : decode cX7_both 102 = .ok (.invokestatic 92, 3) := by decide +kernel
theorem dX7_both_105 : decode cX7_both 105 = .ok (.istore 7, 2) := by decide +kernel
theorem dX7_both_107 : decode cX7_both 107 = .ok (.iload 7, 2) := by decide +kernel
theorem dX7_both_109 : decode cX7_both 109 = .ok (.ifCond .ge 8, 3) := by decide +kernel
theorem dX7_both_112 : decode cX7_both 112 = .ok (.bipush (-3), 2) := by decide +kernel
theorem dX7_both_114 : decode cX7_both 114 = .ok (.goto 10, 3) := by decide +kernel
theorem dX7_both_117 : decode cX7_both 117 = .ok (.aload_n 0, 1) := by decide +kernel
theorem dX7_both_118 : decode cX7_both 118 = .ok (.iload_n 1, 1) := by decide +kernel
theorem dX7_both_119 : decode cX7_both 119 = .ok (.iload 7, 2) := by decide +kernel
theorem dX7_both_121 : decode cX7_both 121 = .ok (.invokevirtual 86, 3) := by decide +kernel
theorem dX7_both_124 : decode cX7_both 124 = .ok (.ireturn, 1) := by decide +kernel
theorem dX7_both_125 : decode cX7_both 125 = .ok (.bipush (-2), 2) := by decide +kernel
theorem dX7_both_127 : decode cX7_both 127 = .ok (.ireturn, 1) := by decide +kernel
theorem dX7_turn_0 : decode cX7_turn 0 = .ok (.iload_n 1, 1) := by decide +kernel
theorem dX7_turn_1 : decode cX7_turn 1 = .ok (.invokestatic 53, 3) := by decide +kernel
theorem dX7_turn_4 : decode cX7_turn 4 = .ok (.ifCond .eq 10, 3) := by decide +kernel
theorem dX7_turn_7 : decode cX7_turn 7 = .ok (.iload_n 2, 1) := by decide +kernel
theorem dX7_turn_8 : decode cX7_turn 8 = .ok (.invokestatic 53, 3) := by decide +kernel
theorem dX7_turn_11 : decode cX7_turn 11 = .ok (.ifCond .ne 5, 3) := by decide +kernel
theorem dX7_turn_14 : decode cX7_turn 14 = .ok (.iconst (-1), 1) := by decide +kernel
theorem dX7_turn_15 : decode cX7_turn 15 = .ok (.ireturn, 1) := by decide +kernel
theorem dX7_turn_16 : decode cX7_turn 16 = .ok (.aload_n 0, 1) := by decide +kernel
theorem dX7_turn_17 : decode cX7_turn 17 = .ok (.getfield 10, 3) := by decide +kernel
theorem dX7_turn_20 : decode cX7_turn 20 = .ok (.getfield 62, 3) := by decide +kernel
theorem dX7_turn_23 : decode cX7_turn 23 = .ok (.iload_n 2, 1) := by decide +kernel
theorem dX7_turn_24 : decode cX7_turn 24 = .ok (.iaload, 1) := by decide +kernel
theorem dX7_turn_25 : decode cX7_turn 25 = .ok (.istore 4, 2) := by decide +kernel
theorem dX7_turn_27 : decode cX7_turn 27 = .ok (.iload_n 3, 1) := by decide +kernel
theorem dX7_turn_28 : decode cX7_turn 28 = .ok (.tableswitch 64 0 2 #[28, 39, 50], 28) := by decide +kernel
theorem dX7_turn_56 : decode cX7_turn 56 = .ok (.aload_n 0, 1) := by decide +kernel
theorem dX7_turn_57 : decode cX7_turn 57 = .ok (.iload_n 1, 1) := by decide +kernel
theorem dX7_turn_58 : decode cX7_turn 58 = .ok (.iload 4, 2) := by decide +kernel
theorem dX7_turn_60 : decode cX7_turn 60 = .ok (.invokestatic 95, 3) := by decide +kernel
theorem dX7_turn_63 : decode cX7_turn 63 = .ok (.invokevirtual 86, 3) := by decide +kernel
theorem dX7_turn_66 : decode cX7_turn 66 = .ok (.ireturn, 1) := by decide +kernel
theorem dX7_turn_67 : decode cX7_turn 67 = .ok (.aload_n 0, 1) := by decide +kernel
theorem dX7_turn_68 : decode cX7_turn 68 = .ok (.iload_n 1, 1) := by decide +kernel
theorem dX7_turn_69 : decode cX7_turn 69 = .ok (.iload 4, 2) := by decide +kernel
theorem dX7_turn_71 : decode cX7_turn 71 = .ok (.invokestatic 98, 3) := by decide +kernel
theorem dX7_turn_74 : decode cX7_turn 74 = .ok (.invokevirtual 86, 3) := by decide +kernel
theorem dX7_turn_77 : decode cX7_turn 77 = .ok (.ireturn, 1) := by decide +kernel
theorem dX7_turn_78 : decode cX7_turn 78 = .ok (.aload_n 0, 1) := by decide +kernel
theorem dX7_turn_79 : decode cX7_turn 79 = .ok (.iload_n 1, 1) := by decide +kernel
theorem dX7_turn_80 : decode cX7_turn 80 = .ok (.iload 4, 2) := by decide +kernel
theorem dX7_turn_82 : decode cX7_turn 82 = .ok (.invokestatic 95, 3) := by decide +kernel
theorem dX7_turn_85 : decode cX7_turn 85 = .ok (.invokestatic 98, 3) := by decide +kernel
theorem dX7_turn_88 : decode cX7_turn 88 = .ok (.invokevirtual 86, 3) := by decide +kernel
theorem dX7_turn_91 : decode cX7_turn 91 = .ok (.ireturn, 1) := by decide +kernel
theorem dX7_turn_92 : decode cX7_turn 92 = .ok (.bipush (-2), 2) := by decide +kernel
theorem dX7_turn_94 : decode cX7_turn 94 = .ok (.ireturn, 1) := by decide +kernel
theorem dX7_below_0 : decode cX7_below 0 = .ok (.iload_n 1, 1) := by decide +kernel
theorem dX7_below_1 : decode cX7_below 1 = .ok (.invokestatic 53, 3) := by decide +kernel
theorem dX7_below_4 : decode cX7_below 4 = .ok (.ifCond .eq 10, 3) := by decide +kernel
theorem dX7_below_7 : decode cX7_below 7 = .ok (.iload_n 2, 1) := by decide +kernel
theorem dX7_below_8 : decode cX7_below 8 = .ok (.invokestatic 53, 3) := by decide +kernel
theorem dX7_below_11 : decode cX7_below 11 = .ok (.ifCond .ne 5, 3) := by decide +kernel
theorem dX7_below_14 : decode cX7_below 14 = .ok (.iconst (-1), 1) := by decide +kernel
theorem dX7_below_15 : decode cX7_below 15 = .ok (.ireturn, 1) := by decide +kernel
theorem dX7_below_16 : decode cX7_below 16 = .ok (.aload_n 0, 1) := by decide +kernel
theorem dX7_below_17 : decode cX7_below 17 = .ok (.getfield 10, 3) := by decide +kernel
theorem dX7_below_20 : decode cX7_below 20 = .ok (.getfield 62, 3) := by decide +kernel
theorem dX7_below_23 : decode cX7_below 23 = .ok (.iload_n 1, 1) := by decide +kernel
theorem dX7_below_24 : decode cX7_below 24 = .ok (.iaload, 1) := by decide +kernel
theorem dX7_below_25 : decode cX7_below 25 = .ok (.istore_n 3, 1) := by decide +kernel
theorem dX7_below_26 : decode cX7_below 26 = .ok (.iload_n 3, 1) := by decide +kernel
theorem dX7_below_27 : decode cX7_below 27 = .ok (.aload_n 0, 1) := by decide +kernel
theorem dX7_below_28 : decode cX7_below 28 = .ok (.getfield 10, 3) := by decide +kernel
theorem dX7_below_31 : decode cX7_below 31 = .ok (.getfield 62, 3) := by decide +kernel
theorem dX7_below_34 : decode cX7_below 34 = .ok (.iload_n 2, 1) := by decide +kernel
theorem dX7_below_35 : decode cX7_below 35 = .ok (.iaload, 1) := by decide +kernel
theorem dX7_below_36 : decode cX7_below 36 = .ok (.invokestatic 89, 3) := by decide +kernel
theorem dX7_below_39 : decode cX7_below 39 = .ok (.iload_n 3, 1) := by decide +kernel
theorem dX7_below_40 : decode cX7_below 40 = .ok (.if_icmp .ne 7, 3) := by decide +kernel
theorem dX7_below_43 : decode cX7_below 43 = .ok (.iconst 1, 1) := by decide +kernel
theorem dX7_below_44 : decode cX7_below 44 = .ok (.goto 4, 3) := by decide +kernel
theorem dX7_below_47 : decode cX7_below 47 = .ok (.iconst 0, 1) := by decide +kernel
theorem dX7_below_48 : decode cX7_below 48 = .ok (.invokestatic 72, 3) := by decide +kernel
theorem dX7_below_51 : decode cX7_below 51 = .ok (.ireturn, 1) := by decide +kernel
theorem dX7_say_0 : decode cX7_say 0 = .ok (.iload_n 1, 1) := by decide +kernel
theorem dX7_say_1 : decode cX7_say 1 = .ok (.bipush 33, 2) := by decide +kernel
theorem dX7_say_3 : decode cX7_say 3 = .ok (.if_icmp .lt 9, 3) := by decide +kernel
theorem dX7_say_6 : decode cX7_say 6 = .ok (.iload_n 1, 1) := by decide +kernel
theorem dX7_say_7 : decode cX7_say 7 = .ok (.bipush 126, 2) := by decide +kernel
theorem dX7_say_9 : decode cX7_say 9 = .ok (.if_icmp .le 6, 3) := by decide +kernel
theorem dX7_say_12 : decode cX7_say 12 = .ok (.bipush (-2), 2) := by decide +kernel
theorem dX7_say_14 : decode cX7_say 14 = .ok (.ireturn, 1) := by decide +kernel
theorem dX7_say_15 : decode cX7_say 15 = .ok (.aload_n 0, 1) := by decide +kernel
theorem dX7_say_16 : decode cX7_say 16 = .ok (.getfield 28, 3) := by decide +kernel
theorem dX7_say_19 : decode cX7_say 19 = .ok (.bipush 12, 2) := by decide +kernel
theorem dX7_say_21 : decode cX7_say 21 = .ok (.if_icmp .lt 6, 3) := by decide +kernel
theorem dX7_say_24 : decode cX7_say 24 = .ok (.bipush (-4), 2) := by decide +kernel
theorem dX7_say_26 : decode cX7_say 26 = .ok (.ireturn, 1) := by decide +kernel
theorem dX7_say_27 : decode cX7_say 27 = .ok (.aload_n 0, 1) := by decide +kernel
theorem dX7_say_28 : decode cX7_say 28 = .ok (.getfield 24, 3) := by decide +kernel
theorem dX7_say_31 : decode cX7_say 31 = .ok (.aload_n 0, 1) := by decide +kernel
theorem dX7_say_32 : decode cX7_say 32 = .ok (.getfield 28, 3) := by decide +kernel
theorem dX7_say_35 : decode cX7_say 35 = .ok (.iload_n 1, 1) := by decide +kernel
theorem dX7_say_36 : decode cX7_say 36 = .ok (.iastore, 1) := by decide +kernel
theorem dX7_say_37 : decode cX7_say 37 = .ok (.aload_n 0, 1) := by decide +kernel
theorem dX7_say_38 : decode cX7_say 38 = .ok (.dup, 1) := by decide +kernel
theorem dX7_say_39 : decode cX7_say 39 = .ok (.getfield 28, 3) := by decide +kernel
theorem dX7_say_42 : decode cX7_say 42 = .ok (.iconst 1, 1) := by decide +kernel
theorem dX7_say_43 : decode cX7_say 43 = .ok (.iadd, 1) := by decide +kernel
theorem dX7_say_44 : decode cX7_say 44 = .ok (.putfield 28, 3) := by decide +kernel
theorem dX7_say_47 : decode cX7_say 47 = .ok (.aload_n 0, 1) := by decide +kernel
theorem dX7_say_48 : decode cX7_say 48 = .ok (.getfield 28, 3) := by decide +kernel
theorem dX7_say_51 : decode cX7_say 51 = .ok (.ireturn, 1) := by decide +kernel
theorem dX7_wipe_0 : decode cX7_wipe 0 = .ok (.aload_n 0, 1) := by decide +kernel
theorem dX7_wipe_1 : decode cX7_wipe 1 = .ok (.getfield 28, 3) := by decide +kernel
theorem dX7_wipe_4 : decode cX7_wipe 4 = .ok (.istore_n 1, 1) := by decide +kernel
theorem dX7_wipe_5 : decode cX7_wipe 5 = .ok (.aload_n 0, 1) := by decide +kernel
theorem dX7_wipe_6 : decode cX7_wipe 6 = .ok (.iconst 0, 1) := by decide +kernel
theorem dX7_wipe_7 : decode cX7_wipe 7 = .ok (.putfield 28, 3) := by decide +kernel
theorem dX7_wipe_10 : decode cX7_wipe 10 = .ok (.iload_n 1, 1) := by decide +kernel
theorem dX7_wipe_11 : decode cX7_wipe 11 = .ok (.ireturn, 1) := by decide +kernel
theorem dX7_word_0 : decode cX7_word 0 = .ok (.iload_n 1, 1) := by decide +kernel
theorem dX7_word_1 : decode cX7_word 1 = .ok (.invokestatic 101, 3) := by decide +kernel
theorem dX7_word_4 : decode cX7_word 4 = .ok (.ifCond .ne 5, 3) := by decide +kernel
theorem dX7_word_7 : decode cX7_word 7 = .ok (.iconst (-1), 1) := by decide +kernel
theorem dX7_word_8 : decode cX7_word 8 = .ok (.ireturn, 1) := by decide +kernel
theorem dX7_word_9 : decode cX7_word 9 = .ok (.iconst 0, 1) := by decide +kernel
theorem dX7_word_10 : decode cX7_word 10 = .ok (.istore_n 2, 1) := by decide +kernel
theorem dX7_word_11 : decode cX7_word 11 = .ok (.iload_n 2, 1) := by decide +kernel
theorem dX7_word_12 : decode cX7_word 12 = .ok (.aload_n 0, 1) := by decide +kernel
theorem dX7_word_13 : decode cX7_word 13 = .ok (.getfield 28, 3) := by decide +kernel
theorem dX7_word_16 : decode cX7_word 16 = .ok (.if_icmp .ge 24, 3) := by decide +kernel
theorem dX7_word_19 : decode cX7_word 19 = .ok (.aload_n 0, 1) := by decide +kernel
theorem dX7_word_20 : decode cX7_word 20 = .ok (.getfield 24, 3) := by decide +kernel
theorem dX7_word_23 : decode cX7_word 23 = .ok (.iload_n 2, 1) := by decide +kernel
theorem dX7_word_24 : decode cX7_word 24 = .ok (.iaload, 1) := by decide +kernel
theorem dX7_word_25 : decode cX7_word 25 = .ok (.invokestatic 104, 3) := by decide +kernel
theorem dX7_word_28 : decode cX7_word 28 = .ok (.ifCond .ge 6, 3) := by decide +kernel
theorem dX7_word_31 : decode cX7_word 31 = .ok (.bipush (-7), 2) := by decide +kernel
theorem dX7_word_33 : decode cX7_word 33 = .ok (.ireturn, 1) := by decide +kernel
theorem dX7_word_34 : decode cX7_word 34 = .ok (.iinc 2 1, 3) := by decide +kernel
theorem dX7_word_37 : decode cX7_word 37 = .ok (.goto (-26), 3) := by decide +kernel
theorem dX7_word_40 : decode cX7_word 40 = .ok (.aload_n 0, 1) := by decide +kernel
theorem dX7_word_41 : decode cX7_word 41 = .ok (.getfield 10, 3) := by decide +kernel
theorem dX7_word_44 : decode cX7_word 44 = .ok (.getfield 107, 3) := by decide +kernel
theorem dX7_word_47 : decode cX7_word 47 = .ok (.iload_n 1, 1) := by decide +kernel
theorem dX7_word_48 : decode cX7_word 48 = .ok (.aaload, 1) := by decide +kernel
theorem dX7_word_49 : decode cX7_word 49 = .ok (.astore_n 2, 1) := by decide +kernel
theorem dX7_word_50 : decode cX7_word 50 = .ok (.iconst 0, 1) := by decide +kernel
theorem dX7_word_51 : decode cX7_word 51 = .ok (.istore_n 3, 1) := by decide +kernel
theorem dX7_word_52 : decode cX7_word 52 = .ok (.iload_n 3, 1) := by decide +kernel
theorem dX7_word_53 : decode cX7_word 53 = .ok (.aload_n 0, 1) := by decide +kernel
theorem dX7_word_54 : decode cX7_word 54 = .ok (.getfield 28, 3) := by decide +kernel
theorem dX7_word_57 : decode cX7_word 57 = .ok (.if_icmp .ge 24, 3) := by decide +kernel
theorem dX7_word_60 : decode cX7_word 60 = .ok (.aload_n 2, 1) := by decide +kernel
theorem dX7_word_61 : decode cX7_word 61 = .ok (.getfield 111, 3) := by decide +kernel
theorem dX7_word_64 : decode cX7_word 64 = .ok (.iload_n 3, 1) := by decide +kernel
theorem dX7_word_65 : decode cX7_word 65 = .ok (.aload_n 0, 1) := by decide +kernel
theorem dX7_word_66 : decode cX7_word 66 = .ok (.getfield 24, 3) := by decide +kernel
theorem dX7_word_69 : decode cX7_word 69 = .ok (.iload_n 3, 1) := by decide +kernel
theorem dX7_word_70 : decode cX7_word 70 = .ok (.iaload, 1) := by decide +kernel
theorem dX7_word_71 : decode cX7_word 71 = .ok (.invokestatic 104, 3) := by decide +kernel
theorem dX7_word_74 : decode cX7_word 74 = .ok (.iastore, 1) := by decide +kernel
theorem dX7_word_75 : decode cX7_word 75 = .ok (.iinc 3 1, 3) := by decide +kernel
theorem dX7_word_78 : decode cX7_word 78 = .ok (.goto (-26), 3) := by decide +kernel
theorem dX7_word_81 : decode cX7_word 81 = .ok (.aload_n 2, 1) := by decide +kernel
theorem dX7_word_82 : decode cX7_word 82 = .ok (.aload_n 0, 1) := by decide +kernel
theorem dX7_word_83 : decode cX7_word 83 = .ok (.getfield 28, 3) := by decide +kernel
theorem dX7_word_86 : decode cX7_word 86 = .ok (.putfield 116, 3) := by decide +kernel
theorem dX7_word_89 : decode cX7_word 89 = .ok (.aload_n 0, 1) := by decide +kernel
theorem dX7_word_90 : decode cX7_word 90 = .ok (.iconst 0, 1) := by decide +kernel
theorem dX7_word_91 : decode cX7_word 91 = .ok (.putfield 28, 3) := by decide +kernel
theorem dX7_word_94 : decode cX7_word 94 = .ok (.aload_n 2, 1) := by decide +kernel
theorem dX7_word_95 : decode cX7_word 95 = .ok (.getfield 116, 3) := by decide +kernel
theorem dX7_word_98 : decode cX7_word 98 = .ok (.ireturn, 1) := by decide +kernel
theorem dX7_value_0 : decode cX7_value 0 = .ok (.iload_n 1, 1) := by decide +kernel
theorem dX7_value_1 : decode cX7_value 1 = .ok (.invokestatic 53, 3) := by decide +kernel
theorem dX7_value_4 : decode cX7_value 4 = .ok (.ifCond .eq 10, 3) := by decide +kernel
theorem dX7_value_7 : decode cX7_value 7 = .ok (.iload_n 2, 1) := by decide +kernel
theorem dX7_value_8 : decode cX7_value 8 = .ok (.invokestatic 101, 3) := by decide +kernel
theorem dX7_value_11 : decode cX7_value 11 = .ok (.ifCond .ne 5, 3) := by decide +kernel
theorem dX7_value_14 : decode cX7_value 14 = .ok (.iconst (-1), 1) := by decide +kernel
theorem dX7_value_15 : decode cX7_value 15 = .ok (.ireturn, 1) := by decide +kernel
theorem dX7_value_16 : decode cX7_value 16 = .ok (.aload_n 0, 1) := by decide +kernel
theorem dX7_value_17 : decode cX7_value 17 = .ok (.getfield 10, 3) := by decide +kernel
theorem dX7_value_20 : decode cX7_value 20 = .ok (.getfield 107, 3) := by decide +kernel
theorem dX7_value_23 : decode cX7_value 23 = .ok (.iload_n 2, 1) := by decide +kernel
theorem dX7_value_24 : decode cX7_value 24 = .ok (.aaload, 1) := by decide +kernel
theorem dX7_value_25 : decode cX7_value 25 = .ok (.astore_n 3, 1) := by decide +kernel
theorem dX7_value_26 : decode cX7_value 26 = .ok (.sipush 7465, 3) := by decide +kernel
theorem dX7_value_29 : decode cX7_value 29 = .ok (.istore 4, 2) := by decide +kernel
theorem dX7_value_31 : decode cX7_value 31 = .ok (.iconst 0, 1) := by decide +kernel
theorem dX7_value_32 : decode cX7_value 32 = .ok (.istore 5, 2) := by decide +kernel
theorem dX7_value_34 : decode cX7_value 34 = .ok (.iload 5, 2) := by decide +kernel
theorem dX7_value_36 : decode cX7_value 36 = .ok (.aload_n 3, 1) := by decide +kernel
theorem dX7_value_37 : decode cX7_value 37 = .ok (.getfield 116, 3) := by decide +kernel
theorem dX7_value_40 : decode cX7_value 40 = .ok (.if_icmp .ge 33, 3) := by decide +kernel
theorem dX7_value_43 : decode cX7_value 43 = .ok (.iload 4, 2) := by decide +kernel
theorem dX7_value_45 : decode cX7_value 45 = .ok (.aload_n 3, 1) := by decide +kernel
theorem dX7_value_46 : decode cX7_value 46 = .ok (.getfield 111, 3) := by decide +kernel
theorem dX7_value_49 : decode cX7_value 49 = .ok (.iload 5, 2) := by decide +kernel
theorem dX7_value_51 : decode cX7_value 51 = .ok (.iaload, 1) := by decide +kernel
theorem dX7_value_52 : decode cX7_value 52 = .ok (.aload_n 0, 1) := by decide +kernel
theorem dX7_value_53 : decode cX7_value 53 = .ok (.getfield 10, 3) := by decide +kernel
theorem dX7_value_56 : decode cX7_value 56 = .ok (.getfield 62, 3) := by decide +kernel
theorem dX7_value_59 : decode cX7_value 59 = .ok (.invokestatic 119, 3) := by decide +kernel
theorem dX7_value_62 : decode cX7_value 62 = .ok (.invokestatic 83, 3) := by decide +kernel
theorem dX7_value_65 : decode cX7_value 65 = .ok (.istore 4, 2) := by decide +kernel
theorem dX7_value_67 : decode cX7_value 67 = .ok (.iinc 5 1, 3) := by decide +kernel
theorem dX7_value_70 : decode cX7_value 70 = .ok (.goto (-36), 3) := by decide +kernel
theorem dX7_value_73 : decode cX7_value 73 = .ok (.aload_n 0, 1) := by decide +kernel
theorem dX7_value_74 : decode cX7_value 74 = .ok (.iload_n 1, 1) := by decide +kernel
theorem dX7_value_75 : decode cX7_value 75 = .ok (.iload 4, 2) := by decide +kernel
theorem dX7_value_77 : decode cX7_value 77 = .ok (.invokevirtual 86, 3) := by decide +kernel
theorem dX7_value_80 : decode cX7_value 80 = .ok (.ireturn, 1) := by decide +kernel
theorem dX7_made_0 : decode cX7_made 0 = .ok (.iload_n 1, 1) := by decide +kernel
theorem dX7_made_1 : decode cX7_made 1 = .ok (.iconst 1, 1) := by decide +kernel
theorem dX7_made_2 : decode cX7_made 2 = .ok (.if_icmp .lt 17, 3) := by decide +kernel
theorem dX7_made_5 : decode cX7_made 5 = .ok (.iload_n 1, 1) := by decide +kernel
theorem dX7_made_6 : decode cX7_made 6 = .ok (.iconst 3, 1) := by decide +kernel
theorem dX7_made_7 : decode cX7_made 7 = .ok (.if_icmp .gt 12, 3) := by decide +kernel
theorem dX7_made_10 : decode cX7_made 10 = .ok (.iload_n 2, 1) := by decide +kernel
theorem dX7_made_11 : decode cX7_made 11 = .ok (.ifCond .lt 8, 3) := by decide +kernel
theorem dX7_made_14 : decode cX7_made 14 = .ok (.iload_n 2, 1) := by decide +kernel
theorem dX7_made_15 : decode cX7_made 15 = .ok (.iconst 5, 1) := by decide +kernel
theorem dX7_made_16 : decode cX7_made 16 = .ok (.if_icmp .le 6, 3) := by decide +kernel
theorem dX7_made_19 : decode cX7_made 19 = .ok (.bipush (-2), 2) := by decide +kernel
theorem dX7_made_21 : decode cX7_made 21 = .ok (.ireturn, 1) := by decide +kernel
theorem dX7_made_22 : decode cX7_made 22 = .ok (.aload_n 0, 1) := by decide +kernel
theorem dX7_made_23 : decode cX7_made 23 = .ok (.getfield 35, 3) := by decide +kernel
theorem dX7_made_26 : decode cX7_made 26 = .ok (.iload_n 1, 1) := by decide +kernel
theorem dX7_made_27 : decode cX7_made 27 = .ok (.aload_n 0, 1) := by decide +kernel
theorem dX7_made_28 : decode cX7_made 28 = .ok (.getfield 10, 3) := by decide +kernel
theorem dX7_made_31 : decode cX7_made 31 = .ok (.getfield 62, 3) := by decide +kernel
theorem dX7_made_34 : decode cX7_made 34 = .ok (.invokevirtual 123, 3) := by decide +kernel
theorem dX7_made_37 : decode cX7_made 37 = .ok (.iload_n 2, 1) := by decide +kernel
theorem dX7_made_38 : decode cX7_made 38 = .ok (.tableswitch 77 0 4 #[34, 42, 50, 58, 66], 34) := by decide +kernel
theorem dX7_made_72 : decode cX7_made 72 = .ok (.aload_n 0, 1) := by decide +kernel
theorem dX7_made_73 : decode cX7_made 73 = .ok (.getfield 35, 3) := by decide +kernel
theorem dX7_made_76 : decode cX7_made 76 = .ok (.getfield 127, 3) := by decide +kernel
theorem dX7_made_79 : decode cX7_made 79 = .ok (.ireturn, 1) := by decide +kernel
theorem dX7_made_80 : decode cX7_made 80 = .ok (.aload_n 0, 1) := by decide +kernel
theorem dX7_made_81 : decode cX7_made 81 = .ok (.getfield 35, 3) := by decide +kernel
theorem dX7_made_84 : decode cX7_made 84 = .ok (.invokevirtual 130, 3) := by decide +kernel
theorem dX7_made_87 : decode cX7_made 87 = .ok (.ireturn, 1) := by decide +kernel
theorem dX7_made_88 : decode cX7_made 88 = .ok (.aload_n 0, 1) := by decide +kernel
theorem dX7_made_89 : decode cX7_made 89 = .ok (.getfield 35, 3) := by decide +kernel
theorem dX7_made_92 : decode cX7_made 92 = .ok (.invokevirtual 134, 3) := by decide +kernel
theorem dX7_made_95 : decode cX7_made 95 = .ok (.ireturn, 1) := by decide +kernel
theorem dX7_made_96 : decode cX7_made 96 = .ok (.aload_n 0, 1) := by decide +kernel
theorem dX7_made_97 : decode cX7_made 97 = .ok (.getfield 35, 3) := by decide +kernel
theorem dX7_made_100 : decode cX7_made 100 = .ok (.invokevirtual 137, 3) := by decide +kernel
theorem dX7_made_103 : decode cX7_made 103 = .ok (.ireturn, 1) := by decide +kernel
theorem dX7_made_104 : decode cX7_made 104 = .ok (.aload_n 0, 1) := by decide +kernel
theorem dX7_made_105 : decode cX7_made 105 = .ok (.getfield 35, 3) := by decide +kernel
theorem dX7_made_108 : decode cX7_made 108 = .ok (.invokevirtual 140, 3) := by decide +kernel
theorem dX7_made_111 : decode cX7_made 111 = .ok (.invokestatic 72, 3) := by decide +kernel
theorem dX7_made_114 : decode cX7_made 114 = .ok (.ireturn, 1) := by decide +kernel
theorem dX7_made_115 : decode cX7_made 115 = .ok (.aload_n 0, 1) := by decide +kernel
theorem dX7_made_116 : decode cX7_made 116 = .ok (.getfield 35, 3) := by decide +kernel
theorem dX7_made_119 : decode cX7_made 119 = .ok (.invokevirtual 144, 3) := by decide +kernel
theorem dX7_made_122 : decode cX7_made 122 = .ok (.ireturn, 1) := by decide +kernel
theorem dX7_way_0 : decode cX7_way 0 = .ok (.iload_n 1, 1) := by decide +kernel
theorem dX7_way_1 : decode cX7_way 1 = .ok (.iconst 1, 1) := by decide +kernel
theorem dX7_way_2 : decode cX7_way 2 = .ok (.if_icmp .lt 8, 3) := by decide +kernel
theorem dX7_way_5 : decode cX7_way 5 = .ok (.iload_n 1, 1) := by decide +kernel
theorem dX7_way_6 : decode cX7_way 6 = .ok (.iconst 3, 1) := by decide +kernel
theorem dX7_way_7 : decode cX7_way 7 = .ok (.if_icmp .le 6, 3) := by decide +kernel
theorem dX7_way_10 : decode cX7_way 10 = .ok (.bipush (-2), 2) := by decide +kernel
theorem dX7_way_12 : decode cX7_way 12 = .ok (.ireturn, 1) := by decide +kernel
theorem dX7_way_13 : decode cX7_way 13 = .ok (.iload_n 2, 1) := by decide +kernel
theorem dX7_way_14 : decode cX7_way 14 = .ok (.invokestatic 53, 3) := by decide +kernel
theorem dX7_way_17 : decode cX7_way 17 = .ok (.ifCond .ne 5, 3) := by decide +kernel
theorem dX7_way_20 : decode cX7_way 20 = .ok (.iconst (-1), 1) := by decide +kernel
theorem dX7_way_21 : decode cX7_way 21 = .ok (.ireturn, 1) := by decide +kernel
theorem dX7_way_22 : decode cX7_way 22 = .ok (.aload_n 0, 1) := by decide +kernel
theorem dX7_way_23 : decode cX7_way 23 = .ok (.getfield 35, 3) := by decide +kernel
theorem dX7_way_26 : decode cX7_way 26 = .ok (.iload_n 1, 1) := by decide +kernel
theorem dX7_way_27 : decode cX7_way 27 = .ok (.aload_n 0, 1) := by decide +kernel
theorem dX7_way_28 : decode cX7_way 28 = .ok (.getfield 10, 3) := by decide +kernel
theorem dX7_way_31 : decode cX7_way 31 = .ok (.getfield 62, 3) := by decide +kernel
theorem dX7_way_34 : decode cX7_way 34 = .ok (.invokevirtual 123, 3) := by decide +kernel
theorem dX7_way_37 : decode cX7_way 37 = .ok (.aload_n 0, 1) := by decide +kernel
theorem dX7_way_38 : decode cX7_way 38 = .ok (.getfield 35, 3) := by decide +kernel
theorem dX7_way_41 : decode cX7_way 41 = .ok (.aload_n 0, 1) := by decide +kernel
theorem dX7_way_42 : decode cX7_way 42 = .ok (.getfield 10, 3) := by decide +kernel
theorem dX7_way_45 : decode cX7_way 45 = .ok (.getfield 62, 3) := by decide +kernel
theorem dX7_way_48 : decode cX7_way 48 = .ok (.iload_n 2, 1) := by decide +kernel
theorem dX7_way_49 : decode cX7_way 49 = .ok (.iaload, 1) := by decide +kernel
theorem dX7_way_50 : decode cX7_way 50 = .ok (.invokevirtual 147, 3) := by decide +kernel
theorem dX7_way_53 : decode cX7_way 53 = .ok (.istore 4, 2) := by decide +kernel
theorem dX7_way_55 : decode cX7_way 55 = .ok (.iload 4, 2) := by decide +kernel
theorem dX7_way_57 : decode cX7_way 57 = .ok (.ifCond .ge 6, 3) := by decide +kernel
theorem dX7_way_60 : decode cX7_way 60 = .ok (.bipush (-6), 2) := by decide +kernel
theorem dX7_way_62 : decode cX7_way 62 = .ok (.ireturn, 1) := by decide +kernel
theorem dX7_way_63 : decode cX7_way 63 = .ok (.aload_n 0, 1) := by decide +kernel
theorem dX7_way_64 : decode cX7_way 64 = .ok (.getfield 35, 3) := by decide +kernel
theorem dX7_way_67 : decode cX7_way 67 = .ok (.getfield 150, 3) := by decide +kernel
theorem dX7_way_70 : decode cX7_way 70 = .ok (.iload 4, 2) := by decide +kernel
theorem dX7_way_72 : decode cX7_way 72 = .ok (.iaload, 1) := by decide +kernel
theorem dX7_way_73 : decode cX7_way 73 = .ok (.istore 5, 2) := by decide +kernel
theorem dX7_way_75 : decode cX7_way 75 = .ok (.iload_n 3, 1) := by decide +kernel
theorem dX7_way_76 : decode cX7_way 76 = .ok (.iconst (-1), 1) := by decide +kernel
theorem dX7_way_77 : decode cX7_way 77 = .ok (.if_icmp .ne 6, 3) := by decide +kernel
theorem dX7_way_80 : decode cX7_way 80 = .ok (.iload 5, 2) := by decide +kernel
theorem dX7_way_82 : decode cX7_way 82 = .ok (.ireturn, 1) := by decide +kernel
theorem dX7_way_83 : decode cX7_way 83 = .ok (.iload_n 3, 1) := by decide +kernel
theorem dX7_way_84 : decode cX7_way 84 = .ok (.ifCond .lt 9, 3) := by decide +kernel
theorem dX7_way_87 : decode cX7_way 87 = .ok (.iload_n 3, 1) := by decide +kernel
theorem dX7_way_88 : decode cX7_way 88 = .ok (.iload 5, 2) := by decide +kernel
theorem dX7_way_90 : decode cX7_way 90 = .ok (.if_icmp .lt 6, 3) := by decide +kernel
theorem dX7_way_93 : decode cX7_way 93 = .ok (.bipush (-6), 2) := by decide +kernel
theorem dX7_way_95 : decode cX7_way 95 = .ok (.ireturn, 1) := by decide +kernel
theorem dX7_way_96 : decode cX7_way 96 = .ok (.aload_n 0, 1) := by decide +kernel
theorem dX7_way_97 : decode cX7_way 97 = .ok (.getfield 35, 3) := by decide +kernel
theorem dX7_way_100 : decode cX7_way 100 = .ok (.iload 4, 2) := by decide +kernel
theorem dX7_way_102 : decode cX7_way 102 = .ok (.iload_n 3, 1) := by decide +kernel
theorem dX7_way_103 : decode cX7_way 103 = .ok (.invokevirtual 153, 3) := by decide +kernel
theorem dX7_way_106 : decode cX7_way 106 = .ok (.ireturn, 1) := by decide +kernel
theorem dX7_tree_0 : decode cX7_tree 0 = .ok (.iload_n 1, 1) := by decide +kernel
theorem dX7_tree_1 : decode cX7_tree 1 = .ok (.invokestatic 101, 3) := by decide +kernel
theorem dX7_tree_4 : decode cX7_tree 4 = .ok (.ifCond .ne 5, 3) := by decide +kernel
theorem dX7_tree_7 : decode cX7_tree 7 = .ok (.iconst (-1), 1) := by decide +kernel
theorem dX7_tree_8 : decode cX7_tree 8 = .ok (.ireturn, 1) := by decide +kernel
theorem dX7_tree_9 : decode cX7_tree 9 = .ok (.iload_n 2, 1) := by decide +kernel
theorem dX7_tree_10 : decode cX7_tree 10 = .ok (.ifCond .lt 8, 3) := by decide +kernel
theorem dX7_tree_13 : decode cX7_tree 13 = .ok (.iload_n 2, 1) := by decide +kernel
theorem dX7_tree_14 : decode cX7_tree 14 = .ok (.iconst 3, 1) := by decide +kernel
theorem dX7_tree_15 : decode cX7_tree 15 = .ok (.if_icmp .le 6, 3) := by decide +kernel
theorem dX7_tree_18 : decode cX7_tree 18 = .ok (.bipush (-2), 2) := by decide +kernel
theorem dX7_tree_20 : decode cX7_tree 20 = .ok (.ireturn, 1) := by decide +kernel
theorem dX7_tree_21 : decode cX7_tree 21 = .ok (.aload_n 0, 1) := by decide +kernel
theorem dX7_tree_22 : decode cX7_tree 22 = .ok (.getfield 42, 3) := by decide +kernel
theorem dX7_tree_25 : decode cX7_tree 25 = .ok (.aload_n 0, 1) := by decide +kernel
theorem dX7_tree_26 : decode cX7_tree 26 = .ok (.getfield 10, 3) := by decide +kernel
theorem dX7_tree_29 : decode cX7_tree 29 = .ok (.getfield 107, 3) := by decide +kernel
theorem dX7_tree_32 : decode cX7_tree 32 = .ok (.iload_n 1, 1) := by decide +kernel
theorem dX7_tree_33 : decode cX7_tree 33 = .ok (.aaload, 1) := by decide +kernel
theorem dX7_tree_34 : decode cX7_tree 34 = .ok (.invokevirtual 156, 3) := by decide +kernel
theorem dX7_tree_37 : decode cX7_tree 37 = .ok (.iload_n 2, 1) := by decide +kernel
theorem dX7_tree_38 : decode cX7_tree 38 = .ok (.tableswitch 58 0 2 #[26, 34, 50], 26) := by decide +kernel
theorem dX7_tree_64 : decode cX7_tree 64 = .ok (.aload_n 0, 1) := by decide +kernel
theorem dX7_tree_65 : decode cX7_tree 65 = .ok (.getfield 42, 3) := by decide +kernel
theorem dX7_tree_68 : decode cX7_tree 68 = .ok (.getfield 160, 3) := by decide +kernel
theorem dX7_tree_71 : decode cX7_tree 71 = .ok (.ireturn, 1) := by decide +kernel
theorem dX7_tree_72 : decode cX7_tree 72 = .ok (.aload_n 0, 1) := by decide +kernel
theorem dX7_tree_73 : decode cX7_tree 73 = .ok (.getfield 42, 3) := by decide +kernel
theorem dX7_tree_76 : decode cX7_tree 76 = .ok (.getfield 163, 3) := by decide +kernel
theorem dX7_tree_79 : decode cX7_tree 79 = .ok (.aload_n 0, 1) := by decide +kernel
theorem dX7_tree_80 : decode cX7_tree 80 = .ok (.getfield 42, 3) := by decide +kernel
theorem dX7_tree_83 : decode cX7_tree 83 = .ok (.getfield 166, 3) := by decide +kernel
theorem dX7_tree_86 : decode cX7_tree 86 = .ok (.iaload, 1) := by decide +kernel
theorem dX7_tree_87 : decode cX7_tree 87 = .ok (.ireturn, 1) := by decide +kernel
theorem dX7_tree_88 : decode cX7_tree 88 = .ok (.aload_n 0, 1) := by decide +kernel
theorem dX7_tree_89 : decode cX7_tree 89 = .ok (.getfield 42, 3) := by decide +kernel
theorem dX7_tree_92 : decode cX7_tree 92 = .ok (.invokevirtual 169, 3) := by decide +kernel
theorem dX7_tree_95 : decode cX7_tree 95 = .ok (.ireturn, 1) := by decide +kernel
theorem dX7_tree_96 : decode cX7_tree 96 = .ok (.aload_n 0, 1) := by decide +kernel
theorem dX7_tree_97 : decode cX7_tree 97 = .ok (.getfield 42, 3) := by decide +kernel
theorem dX7_tree_100 : decode cX7_tree 100 = .ok (.invokevirtual 172, 3) := by decide +kernel
theorem dX7_tree_103 : decode cX7_tree 103 = .ok (.ireturn, 1) := by decide +kernel
theorem dX7_compare_0 : decode cX7_compare 0 = .ok (.iload_n 1, 1) := by decide +kernel
theorem dX7_compare_1 : decode cX7_compare 1 = .ok (.invokestatic 101, 3) := by decide +kernel
theorem dX7_compare_4 : decode cX7_compare 4 = .ok (.ifCond .eq 10, 3) := by decide +kernel
theorem dX7_compare_7 : decode cX7_compare 7 = .ok (.iload_n 2, 1) := by decide +kernel
theorem dX7_compare_8 : decode cX7_compare 8 = .ok (.invokestatic 101, 3) := by decide +kernel
theorem dX7_compare_11 : decode cX7_compare 11 = .ok (.ifCond .ne 5, 3) := by decide +kernel
theorem dX7_compare_14 : decode cX7_compare 14 = .ok (.iconst (-1), 1) := by decide +kernel
theorem dX7_compare_15 : decode cX7_compare 15 = .ok (.ireturn, 1) := by decide +kernel
theorem dX7_compare_16 : decode cX7_compare 16 = .ok (.aload_n 0, 1) := by decide +kernel
theorem dX7_compare_17 : decode cX7_compare 17 = .ok (.aload_n 0, 1) := by decide +kernel
theorem dX7_compare_18 : decode cX7_compare 18 = .ok (.getfield 10, 3) := by decide +kernel
theorem dX7_compare_21 : decode cX7_compare 21 = .ok (.getfield 107, 3) := by decide +kernel
theorem dX7_compare_24 : decode cX7_compare 24 = .ok (.iload_n 1, 1) := by decide +kernel
theorem dX7_compare_25 : decode cX7_compare 25 = .ok (.aaload, 1) := by decide +kernel
theorem dX7_compare_26 : decode cX7_compare 26 = .ok (.aload_n 0, 1) := by decide +kernel
theorem dX7_compare_27 : decode cX7_compare 27 = .ok (.getfield 10, 3) := by decide +kernel
theorem dX7_compare_30 : decode cX7_compare 30 = .ok (.getfield 107, 3) := by decide +kernel
theorem dX7_compare_33 : decode cX7_compare 33 = .ok (.iload_n 2, 1) := by decide +kernel
theorem dX7_compare_34 : decode cX7_compare 34 = .ok (.aaload, 1) := by decide +kernel
theorem dX7_compare_35 : decode cX7_compare 35 = .ok (.invokevirtual 175, 3) := by decide +kernel
theorem dX7_compare_38 : decode cX7_compare 38 = .ok (.istore_n 3, 1) := by decide +kernel
theorem dX7_compare_39 : decode cX7_compare 39 = .ok (.aload_n 0, 1) := by decide +kernel
theorem dX7_compare_40 : decode cX7_compare 40 = .ok (.aload_n 0, 1) := by decide +kernel
theorem dX7_compare_41 : decode cX7_compare 41 = .ok (.getfield 10, 3) := by decide +kernel
theorem dX7_compare_44 : decode cX7_compare 44 = .ok (.getfield 107, 3) := by decide +kernel
theorem dX7_compare_47 : decode cX7_compare 47 = .ok (.iload_n 2, 1) := by decide +kernel
theorem dX7_compare_48 : decode cX7_compare 48 = .ok (.aaload, 1) := by decide +kernel
theorem dX7_compare_49 : decode cX7_compare 49 = .ok (.aload_n 0, 1) := by decide +kernel
theorem dX7_compare_50 : decode cX7_compare 50 = .ok (.getfield 10, 3) := by decide +kernel
theorem dX7_compare_53 : decode cX7_compare 53 = .ok (.getfield 107, 3) := by decide +kernel
theorem dX7_compare_56 : decode cX7_compare 56 = .ok (.iload_n 1, 1) := by decide +kernel
theorem dX7_compare_57 : decode cX7_compare 57 = .ok (.aaload, 1) := by decide +kernel
theorem dX7_compare_58 : decode cX7_compare 58 = .ok (.invokevirtual 175, 3) := by decide +kernel
theorem dX7_compare_61 : decode cX7_compare 61 = .ok (.istore 4, 2) := by decide +kernel
theorem dX7_compare_63 : decode cX7_compare 63 = .ok (.iload_n 3, 1) := by decide +kernel
theorem dX7_compare_64 : decode cX7_compare 64 = .ok (.ifCond .eq 10, 3) := by decide +kernel
theorem dX7_compare_67 : decode cX7_compare 67 = .ok (.iload 4, 2) := by decide +kernel
theorem dX7_compare_69 : decode cX7_compare 69 = .ok (.ifCond .eq 5, 3) := by decide +kernel
theorem dX7_compare_72 : decode cX7_compare 72 = .ok (.iconst 1, 1) := by decide +kernel
theorem dX7_compare_73 : decode cX7_compare 73 = .ok (.ireturn, 1) := by decide +kernel
theorem dX7_compare_74 : decode cX7_compare 74 = .ok (.iload_n 3, 1) := by decide +kernel
theorem dX7_compare_75 : decode cX7_compare 75 = .ok (.ifCond .eq 5, 3) := by decide +kernel
theorem dX7_compare_78 : decode cX7_compare 78 = .ok (.iconst 2, 1) := by decide +kernel
theorem dX7_compare_79 : decode cX7_compare 79 = .ok (.ireturn, 1) := by decide +kernel
theorem dX7_compare_80 : decode cX7_compare 80 = .ok (.iload 4, 2) := by decide +kernel
theorem dX7_compare_82 : decode cX7_compare 82 = .ok (.ifCond .eq 7, 3) := by decide +kernel
theorem dX7_compare_85 : decode cX7_compare 85 = .ok (.iconst 3, 1) := by decide +kernel
theorem dX7_compare_86 : decode cX7_compare 86 = .ok (.goto 4, 3) := by decide +kernel
theorem dX7_compare_89 : decode cX7_compare 89 = .ok (.iconst 0, 1) := by decide +kernel
theorem dX7_compare_90 : decode cX7_compare 90 = .ok (.ireturn, 1) := by decide +kernel
theorem dX7_rule_0 : decode cX7_rule 0 = .ok (.iload_n 1, 1) := by decide +kernel
theorem dX7_rule_1 : decode cX7_rule 1 = .ok (.ifCond .lt 17, 3) := by decide +kernel
theorem dX7_rule_4 : decode cX7_rule 4 = .ok (.iload_n 1, 1) := by decide +kernel
theorem dX7_rule_5 : decode cX7_rule 5 = .ok (.iconst 2, 1) := by decide +kernel
theorem dX7_rule_6 : decode cX7_rule 6 = .ok (.if_icmp .ge 12, 3) := by decide +kernel
theorem dX7_rule_9 : decode cX7_rule 9 = .ok (.iload_n 2, 1) := by decide +kernel
theorem dX7_rule_10 : decode cX7_rule 10 = .ok (.ifCond .lt 8, 3) := by decide +kernel
theorem dX7_rule_13 : decode cX7_rule 13 = .ok (.iload_n 2, 1) := by decide +kernel
theorem dX7_rule_14 : decode cX7_rule 14 = .ok (.iconst 1, 1) := by decide +kernel
theorem dX7_rule_15 : decode cX7_rule 15 = .ok (.if_icmp .le 6, 3) := by decide +kernel
theorem dX7_rule_18 : decode cX7_rule 18 = .ok (.bipush (-2), 2) := by decide +kernel
theorem dX7_rule_20 : decode cX7_rule 20 = .ok (.ireturn, 1) := by decide +kernel
theorem dX7_rule_21 : decode cX7_rule 21 = .ok (.iload_n 2, 1) := by decide +kernel
theorem dX7_rule_22 : decode cX7_rule 22 = .ok (.iconst 1, 1) := by decide +kernel
theorem dX7_rule_23 : decode cX7_rule 23 = .ok (.if_icmp .ne 54, 3) := by decide +kernel
theorem dX7_rule_26 : decode cX7_rule 26 = .ok (.iload_n 3, 1) := by decide +kernel
theorem dX7_rule_27 : decode cX7_rule 27 = .ok (.invokestatic 101, 3) := by decide +kernel
theorem dX7_rule_30 : decode cX7_rule 30 = .ok (.ifCond .eq 11, 3) := by decide +kernel
theorem dX7_rule_33 : decode cX7_rule 33 = .ok (.iload 4, 2) := by decide +kernel
theorem dX7_rule_35 : decode cX7_rule 35 = .ok (.invokestatic 101, 3) := by decide +kernel
theorem dX7_rule_38 : decode cX7_rule 38 = .ok (.ifCond .ne 5, 3) := by decide +kernel
theorem dX7_rule_41 : decode cX7_rule 41 = .ok (.iconst (-1), 1) := by decide +kernel
theorem dX7_rule_42 : decode cX7_rule 42 = .ok (.ireturn, 1) := by decide +kernel
theorem dX7_rule_43 : decode cX7_rule 43 = .ok (.aload_n 0, 1) := by decide +kernel
theorem dX7_rule_44 : decode cX7_rule 44 = .ok (.getfield 10, 3) := by decide +kernel
theorem dX7_rule_47 : decode cX7_rule 47 = .ok (.getfield 179, 3) := by decide +kernel
theorem dX7_rule_50 : decode cX7_rule 50 = .ok (.iload_n 1, 1) := by decide +kernel
theorem dX7_rule_51 : decode cX7_rule 51 = .ok (.aaload, 1) := by decide +kernel
theorem dX7_rule_52 : decode cX7_rule 52 = .ok (.aload_n 0, 1) := by decide +kernel
theorem dX7_rule_53 : decode cX7_rule 53 = .ok (.getfield 10, 3) := by decide +kernel
theorem dX7_rule_56 : decode cX7_rule 56 = .ok (.getfield 107, 3) := by decide +kernel
theorem dX7_rule_59 : decode cX7_rule 59 = .ok (.iload_n 3, 1) := by decide +kernel
theorem dX7_rule_60 : decode cX7_rule 60 = .ok (.aaload, 1) := by decide +kernel
theorem dX7_rule_61 : decode cX7_rule 61 = .ok (.aload_n 0, 1) := by decide +kernel
theorem dX7_rule_62 : decode cX7_rule 62 = .ok (.getfield 10, 3) := by decide +kernel
theorem dX7_rule_65 : decode cX7_rule 65 = .ok (.getfield 107, 3) := by decide +kernel
theorem dX7_rule_68 : decode cX7_rule 68 = .ok (.iload 4, 2) := by decide +kernel
theorem dX7_rule_70 : decode cX7_rule 70 = .ok (.aaload, 1) := by decide +kernel
theorem dX7_rule_71 : decode cX7_rule 71 = .ok (.invokevirtual 183, 3) := by decide +kernel
theorem dX7_rule_74 : decode cX7_rule 74 = .ok (.goto 16, 3) := by decide +kernel
theorem dX7_rule_77 : decode cX7_rule 77 = .ok (.aload_n 0, 1) := by decide +kernel
theorem dX7_rule_78 : decode cX7_rule 78 = .ok (.getfield 10, 3) := by decide +kernel
theorem dX7_rule_81 : decode cX7_rule 81 = .ok (.getfield 179, 3) := by decide +kernel
theorem dX7_rule_84 : decode cX7_rule 84 = .ok (.iload_n 1, 1) := by decide +kernel
theorem dX7_rule_85 : decode cX7_rule 85 = .ok (.aaload, 1) := by decide +kernel
theorem dX7_rule_86 : decode cX7_rule 86 = .ok (.iconst 0, 1) := by decide +kernel
theorem dX7_rule_87 : decode cX7_rule 87 = .ok (.putfield 189, 3) := by decide +kernel
theorem dX7_rule_90 : decode cX7_rule 90 = .ok (.aload_n 0, 1) := by decide +kernel
theorem dX7_rule_91 : decode cX7_rule 91 = .ok (.invokevirtual 193, 3) := by decide +kernel
theorem dX7_rule_94 : decode cX7_rule 94 = .ok (.ireturn, 1) := by decide +kernel
theorem dX7_net_0 : decode cX7_net 0 = .ok (.iload_n 1, 1) := by decide +kernel
theorem dX7_net_1 : decode cX7_net 1 = .ok (.invokestatic 101, 3) := by decide +kernel
theorem dX7_net_4 : decode cX7_net 4 = .ok (.ifCond .ne 5, 3) := by decide +kernel
theorem dX7_net_7 : decode cX7_net 7 = .ok (.iconst (-1), 1) := by decide +kernel
theorem dX7_net_8 : decode cX7_net 8 = .ok (.ireturn, 1) := by decide +kernel
theorem dX7_net_9 : decode cX7_net 9 = .ok (.iload_n 2, 1) := by decide +kernel
theorem dX7_net_10 : decode cX7_net 10 = .ok (.ifCond .lt 8, 3) := by decide +kernel
theorem dX7_net_13 : decode cX7_net 13 = .ok (.iload_n 2, 1) := by decide +kernel
theorem dX7_net_14 : decode cX7_net 14 = .ok (.iconst 2, 1) := by decide +kernel
theorem dX7_net_15 : decode cX7_net 15 = .ok (.if_icmp .le 6, 3) := by decide +kernel
theorem dX7_net_18 : decode cX7_net 18 = .ok (.bipush (-2), 2) := by decide +kernel
theorem dX7_net_20 : decode cX7_net 20 = .ok (.ireturn, 1) := by decide +kernel
theorem dX7_net_21 : decode cX7_net 21 = .ok (.aload_n 0, 1) := by decide +kernel
theorem dX7_net_22 : decode cX7_net 22 = .ok (.getfield 49, 3) := by decide +kernel
theorem dX7_net_25 : decode cX7_net 25 = .ok (.aload_n 0, 1) := by decide +kernel
theorem dX7_net_26 : decode cX7_net 26 = .ok (.getfield 10, 3) := by decide +kernel
theorem dX7_net_29 : decode cX7_net 29 = .ok (.getfield 107, 3) := by decide +kernel
theorem dX7_net_32 : decode cX7_net 32 = .ok (.iload_n 1, 1) := by decide +kernel
theorem dX7_net_33 : decode cX7_net 33 = .ok (.aaload, 1) := by decide +kernel
theorem dX7_net_34 : decode cX7_net 34 = .ok (.aload_n 0, 1) := by decide +kernel
theorem dX7_net_35 : decode cX7_net 35 = .ok (.getfield 10, 3) := by decide +kernel
theorem dX7_net_38 : decode cX7_net 38 = .ok (.getfield 179, 3) := by decide +kernel
theorem dX7_net_41 : decode cX7_net 41 = .ok (.invokevirtual 196, 3) := by decide +kernel
theorem dX7_net_44 : decode cX7_net 44 = .ok (.ifCond .ne 6, 3) := by decide +kernel
theorem dX7_net_47 : decode cX7_net 47 = .ok (.bipush (-6), 2) := by decide +kernel
theorem dX7_net_49 : decode cX7_net 49 = .ok (.ireturn, 1) := by decide +kernel
theorem dX7_net_50 : decode cX7_net 50 = .ok (.iload_n 2, 1) := by decide +kernel
theorem dX7_net_51 : decode cX7_net 51 = .ok (.lookupswitch 41 #[(0, 25), (1, 33)], 25) := by decide +kernel
theorem dX7_net_76 : decode cX7_net 76 = .ok (.aload_n 0, 1) := by decide +kernel
theorem dX7_net_77 : decode cX7_net 77 = .ok (.getfield 49, 3) := by decide +kernel
theorem dX7_net_80 : decode cX7_net 80 = .ok (.getfield 200, 3) := by decide +kernel
theorem dX7_net_83 : decode cX7_net 83 = .ok (.ireturn, 1) := by decide +kernel
theorem dX7_net_84 : decode cX7_net 84 = .ok (.aload_n 0, 1) := by decide +kernel
theorem dX7_net_85 : decode cX7_net 85 = .ok (.getfield 49, 3) := by decide +kernel
theorem dX7_net_88 : decode cX7_net 88 = .ok (.invokevirtual 201, 3) := by decide +kernel
theorem dX7_net_91 : decode cX7_net 91 = .ok (.ireturn, 1) := by decide +kernel
theorem dX7_net_92 : decode cX7_net 92 = .ok (.aload_n 0, 1) := by decide +kernel
theorem dX7_net_93 : decode cX7_net 93 = .ok (.getfield 49, 3) := by decide +kernel
theorem dX7_net_96 : decode cX7_net 96 = .ok (.getfield 204, 3) := by decide +kernel
theorem dX7_net_99 : decode cX7_net 99 = .ok (.ireturn, 1) := by decide +kernel
theorem dX7_reads_0 : decode cX7_reads 0 = .ok (.iload_n 1, 1) := by decide +kernel
theorem dX7_reads_1 : decode cX7_reads 1 = .ok (.invokestatic 101, 3) := by decide +kernel
theorem dX7_reads_4 : decode cX7_reads 4 = .ok (.ifCond .eq 10, 3) := by decide +kernel
theorem dX7_reads_7 : decode cX7_reads 7 = .ok (.iload_n 2, 1) := by decide +kernel
theorem dX7_reads_8 : decode cX7_reads 8 = .ok (.invokestatic 101, 3) := by decide +kernel
theorem dX7_reads_11 : decode cX7_reads 11 = .ok (.ifCond .ne 5, 3) := by decide +kernel
theorem dX7_reads_14 : decode cX7_reads 14 = .ok (.iconst (-1), 1) := by decide +kernel
theorem dX7_reads_15 : decode cX7_reads 15 = .ok (.ireturn, 1) := by decide +kernel
theorem dX7_reads_16 : decode cX7_reads 16 = .ok (.aload_n 0, 1) := by decide +kernel
theorem dX7_reads_17 : decode cX7_reads 17 = .ok (.getfield 49, 3) := by decide +kernel
theorem dX7_reads_20 : decode cX7_reads 20 = .ok (.aload_n 0, 1) := by decide +kernel
theorem dX7_reads_21 : decode cX7_reads 21 = .ok (.getfield 10, 3) := by decide +kernel
theorem dX7_reads_24 : decode cX7_reads 24 = .ok (.getfield 107, 3) := by decide +kernel
theorem dX7_reads_27 : decode cX7_reads 27 = .ok (.iload_n 1, 1) := by decide +kernel
theorem dX7_reads_28 : decode cX7_reads 28 = .ok (.aaload, 1) := by decide +kernel
theorem dX7_reads_29 : decode cX7_reads 29 = .ok (.aload_n 0, 1) := by decide +kernel
theorem dX7_reads_30 : decode cX7_reads 30 = .ok (.getfield 10, 3) := by decide +kernel
theorem dX7_reads_33 : decode cX7_reads 33 = .ok (.getfield 179, 3) := by decide +kernel
theorem dX7_reads_36 : decode cX7_reads 36 = .ok (.invokevirtual 196, 3) := by decide +kernel
theorem dX7_reads_39 : decode cX7_reads 39 = .ok (.ifCond .ne 6, 3) := by decide +kernel
theorem dX7_reads_42 : decode cX7_reads 42 = .ok (.bipush (-6), 2) := by decide +kernel
theorem dX7_reads_44 : decode cX7_reads 44 = .ok (.ireturn, 1) := by decide +kernel
theorem dX7_reads_45 : decode cX7_reads 45 = .ok (.aload_n 0, 1) := by decide +kernel
theorem dX7_reads_46 : decode cX7_reads 46 = .ok (.getfield 49, 3) := by decide +kernel
theorem dX7_reads_49 : decode cX7_reads 49 = .ok (.aload_n 0, 1) := by decide +kernel
theorem dX7_reads_50 : decode cX7_reads 50 = .ok (.getfield 10, 3) := by decide +kernel
theorem dX7_reads_53 : decode cX7_reads 53 = .ok (.getfield 107, 3) := by decide +kernel
theorem dX7_reads_56 : decode cX7_reads 56 = .ok (.iload_n 2, 1) := by decide +kernel
theorem dX7_reads_57 : decode cX7_reads 57 = .ok (.aaload, 1) := by decide +kernel
theorem dX7_reads_58 : decode cX7_reads 58 = .ok (.invokevirtual 207, 3) := by decide +kernel
theorem dX7_reads_61 : decode cX7_reads 61 = .ok (.invokestatic 72, 3) := by decide +kernel
theorem dX7_reads_64 : decode cX7_reads 64 = .ok (.ireturn, 1) := by decide +kernel
theorem dX7_image_0 : decode cX7_image 0 = .ok (.iload_n 1, 1) := by decide +kernel
theorem dX7_image_1 : decode cX7_image 1 = .ok (.ifCond .lt 8, 3) := by decide +kernel
theorem dX7_image_4 : decode cX7_image 4 = .ok (.iload_n 1, 1) := by decide +kernel
theorem dX7_image_5 : decode cX7_image 5 = .ok (.iconst 2, 1) := by decide +kernel
theorem dX7_image_6 : decode cX7_image 6 = .ok (.if_icmp .lt 6, 3) := by decide +kernel
theorem dX7_image_9 : decode cX7_image 9 = .ok (.bipush (-2), 2) := by decide +kernel
theorem dX7_image_11 : decode cX7_image 11 = .ok (.ireturn, 1) := by decide +kernel
theorem dX7_image_12 : decode cX7_image 12 = .ok (.aload_n 0, 1) := by decide +kernel
theorem dX7_image_13 : decode cX7_image 13 = .ok (.getfield 16, 3) := by decide +kernel
theorem dX7_image_16 : decode cX7_image 16 = .ok (.iload_n 1, 1) := by decide +kernel
theorem dX7_image_17 : decode cX7_image 17 = .ok (.aaload, 1) := by decide +kernel
theorem dX7_image_18 : decode cX7_image 18 = .ok (.aload_n 0, 1) := by decide +kernel
theorem dX7_image_19 : decode cX7_image 19 = .ok (.getfield 10, 3) := by decide +kernel
theorem dX7_image_22 : decode cX7_image 22 = .ok (.invokevirtual 211, 3) := by decide +kernel
theorem dX7_image_25 : decode cX7_image 25 = .ok (.aload_n 0, 1) := by decide +kernel
theorem dX7_image_26 : decode cX7_image 26 = .ok (.getfield 20, 3) := by decide +kernel
theorem dX7_image_29 : decode cX7_image 29 = .ok (.iload_n 1, 1) := by decide +kernel
theorem dX7_image_30 : decode cX7_image 30 = .ok (.iconst 1, 1) := by decide +kernel
theorem dX7_image_31 : decode cX7_image 31 = .ok (.bastore, 1) := by decide +kernel
theorem dX7_image_32 : decode cX7_image 32 = .ok (.iconst 1, 1) := by decide +kernel
theorem dX7_image_33 : decode cX7_image 33 = .ok (.ireturn, 1) := by decide +kernel
theorem dX7_restore_0 : decode cX7_restore 0 = .ok (.iload_n 1, 1) := by decide +kernel
theorem dX7_restore_1 : decode cX7_restore 1 = .ok (.ifCond .lt 8, 3) := by decide +kernel
theorem dX7_restore_4 : decode cX7_restore 4 = .ok (.iload_n 1, 1) := by decide +kernel
theorem dX7_restore_5 : decode cX7_restore 5 = .ok (.iconst 2, 1) := by decide +kernel
theorem dX7_restore_6 : decode cX7_restore 6 = .ok (.if_icmp .lt 6, 3) := by decide +kernel
theorem dX7_restore_9 : decode cX7_restore 9 = .ok (.bipush (-2), 2) := by decide +kernel
theorem dX7_restore_11 : decode cX7_restore 11 = .ok (.ireturn, 1) := by decide +kernel
theorem dX7_restore_12 : decode cX7_restore 12 = .ok (.aload_n 0, 1) := by decide +kernel
theorem dX7_restore_13 : decode cX7_restore 13 = .ok (.getfield 20, 3) := by decide +kernel
theorem dX7_restore_16 : decode cX7_restore 16 = .ok (.iload_n 1, 1) := by decide +kernel
theorem dX7_restore_17 : decode cX7_restore 17 = .ok (.baload, 1) := by decide +kernel
theorem dX7_restore_18 : decode cX7_restore 18 = .ok (.ifCond .ne 6, 3) := by decide +kernel
theorem dX7_restore_21 : decode cX7_restore 21 = .ok (.bipush (-3), 2) := by decide +kernel
theorem dX7_restore_23 : decode cX7_restore 23 = .ok (.ireturn, 1) := by decide +kernel
theorem dX7_restore_24 : decode cX7_restore 24 = .ok (.aload_n 0, 1) := by decide +kernel
theorem dX7_restore_25 : decode cX7_restore 25 = .ok (.getfield 10, 3) := by decide +kernel
theorem dX7_restore_28 : decode cX7_restore 28 = .ok (.aload_n 0, 1) := by decide +kernel
theorem dX7_restore_29 : decode cX7_restore 29 = .ok (.getfield 16, 3) := by decide +kernel
theorem dX7_restore_32 : decode cX7_restore 32 = .ok (.iload_n 1, 1) := by decide +kernel
theorem dX7_restore_33 : decode cX7_restore 33 = .ok (.aaload, 1) := by decide +kernel
theorem dX7_restore_34 : decode cX7_restore 34 = .ok (.invokevirtual 211, 3) := by decide +kernel
theorem dX7_restore_37 : decode cX7_restore 37 = .ok (.iconst 1, 1) := by decide +kernel
theorem dX7_restore_38 : decode cX7_restore 38 = .ok (.ireturn, 1) := by decide +kernel
theorem dX7_count_0 : decode cX7_count 0 = .ok (.iload_n 1, 1) := by decide +kernel
theorem dX7_count_1 : decode cX7_count 1 = .ok (.tableswitch 116 0 8 #[51, 56, 61, 61, 61, 61, 76, 81, 86], 51) := by decide +kernel
theorem dX7_count_52 : decode cX7_count 52 = .ok (.aload_n 0, 1) := by decide +kernel
theorem dX7_count_53 : decode cX7_count 53 = .ok (.invokevirtual 215, 3) := by decide +kernel
theorem dX7_count_56 : decode cX7_count 56 = .ok (.ireturn, 1) := by decide +kernel
theorem dX7_count_57 : decode cX7_count 57 = .ok (.aload_n 0, 1) := by decide +kernel
theorem dX7_count_58 : decode cX7_count 58 = .ok (.invokevirtual 218, 3) := by decide +kernel
theorem dX7_count_61 : decode cX7_count 61 = .ok (.ireturn, 1) := by decide +kernel
theorem dX7_count_62 : decode cX7_count 62 = .ok (.aload_n 0, 1) := by decide +kernel
theorem dX7_count_63 : decode cX7_count 63 = .ok (.getfield 10, 3) := by decide +kernel
theorem dX7_count_66 : decode cX7_count 66 = .ok (.getfield 107, 3) := by decide +kernel
theorem dX7_count_69 : decode cX7_count 69 = .ok (.iload_n 1, 1) := by decide +kernel
theorem dX7_count_70 : decode cX7_count 70 = .ok (.iconst 2, 1) := by decide +kernel
theorem dX7_count_71 : decode cX7_count 71 = .ok (.isub, 1) := by decide +kernel
theorem dX7_count_72 : decode cX7_count 72 = .ok (.aaload, 1) := by decide +kernel
theorem dX7_count_73 : decode cX7_count 73 = .ok (.getfield 116, 3) := by decide +kernel
theorem dX7_count_76 : decode cX7_count 76 = .ok (.ireturn, 1) := by decide +kernel
theorem dX7_count_77 : decode cX7_count 77 = .ok (.aload_n 0, 1) := by decide +kernel
theorem dX7_count_78 : decode cX7_count 78 = .ok (.getfield 28, 3) := by decide +kernel
theorem dX7_count_81 : decode cX7_count 81 = .ok (.ireturn, 1) := by decide +kernel
theorem dX7_count_82 : decode cX7_count 82 = .ok (.aload_n 0, 1) := by decide +kernel
theorem dX7_count_83 : decode cX7_count 83 = .ok (.invokevirtual 193, 3) := by decide +kernel
theorem dX7_count_86 : decode cX7_count 86 = .ok (.ireturn, 1) := by decide +kernel
theorem dX7_count_87 : decode cX7_count 87 = .ok (.aload_n 0, 1) := by decide +kernel
theorem dX7_count_88 : decode cX7_count 88 = .ok (.getfield 20, 3) := by decide +kernel
theorem dX7_count_91 : decode cX7_count 91 = .ok (.iconst 0, 1) := by decide +kernel
theorem dX7_count_92 : decode cX7_count 92 = .ok (.baload, 1) := by decide +kernel
theorem dX7_count_93 : decode cX7_count 93 = .ok (.ifCond .eq 7, 3) := by decide +kernel
theorem dX7_count_96 : decode cX7_count 96 = .ok (.iconst 1, 1) := by decide +kernel
theorem dX7_count_97 : decode cX7_count 97 = .ok (.goto 4, 3) := by decide +kernel
theorem dX7_count_100 : decode cX7_count 100 = .ok (.iconst 0, 1) := by decide +kernel
theorem dX7_count_101 : decode cX7_count 101 = .ok (.aload_n 0, 1) := by decide +kernel
theorem dX7_count_102 : decode cX7_count 102 = .ok (.getfield 20, 3) := by decide +kernel
theorem dX7_count_105 : decode cX7_count 105 = .ok (.iconst 1, 1) := by decide +kernel
theorem dX7_count_106 : decode cX7_count 106 = .ok (.baload, 1) := by decide +kernel
theorem dX7_count_107 : decode cX7_count 107 = .ok (.ifCond .eq 7, 3) := by decide +kernel
theorem dX7_count_110 : decode cX7_count 110 = .ok (.iconst 2, 1) := by decide +kernel
theorem dX7_count_111 : decode cX7_count 111 = .ok (.goto 4, 3) := by decide +kernel
theorem dX7_count_114 : decode cX7_count 114 = .ok (.iconst 0, 1) := by decide +kernel
theorem dX7_count_115 : decode cX7_count 115 = .ok (.iadd, 1) := by decide +kernel
theorem dX7_count_116 : decode cX7_count 116 = .ok (.ireturn, 1) := by decide +kernel
theorem dX7_count_117 : decode cX7_count 117 = .ok (.bipush (-2), 2) := by decide +kernel
theorem dX7_count_119 : decode cX7_count 119 = .ok (.ireturn, 1) := by decide +kernel
theorem dX7_isSlot_0 : decode cX7_isSlot 0 = .ok (.iload_n 0, 1) := by decide +kernel
theorem dX7_isSlot_1 : decode cX7_isSlot 1 = .ok (.ifCond .lt 13, 3) := by decide +kernel
theorem dX7_isSlot_4 : decode cX7_isSlot 4 = .ok (.iload_n 0, 1) := by decide +kernel
theorem dX7_isSlot_5 : decode cX7_isSlot 5 = .ok (.bipush 6, 2) := by decide +kernel
theorem dX7_isSlot_7 : decode cX7_isSlot 7 = .ok (.if_icmp .ge 7, 3) := by decide +kernel
theorem dX7_isSlot_10 : decode cX7_isSlot 10 = .ok (.iconst 1, 1) := by decide +kernel
theorem dX7_isSlot_11 : decode cX7_isSlot 11 = .ok (.goto 4, 3) := by decide +kernel
theorem dX7_isSlot_14 : decode cX7_isSlot 14 = .ok (.iconst 0, 1) := by decide +kernel
theorem dX7_isSlot_15 : decode cX7_isSlot 15 = .ok (.ireturn, 1) := by decide +kernel
theorem dX7_isWord_0 : decode cX7_isWord 0 = .ok (.iload_n 0, 1) := by decide +kernel
theorem dX7_isWord_1 : decode cX7_isWord 1 = .ok (.ifCond .lt 12, 3) := by decide +kernel
theorem dX7_isWord_4 : decode cX7_isWord 4 = .ok (.iload_n 0, 1) := by decide +kernel
theorem dX7_isWord_5 : decode cX7_isWord 5 = .ok (.iconst 4, 1) := by decide +kernel
theorem dX7_isWord_6 : decode cX7_isWord 6 = .ok (.if_icmp .ge 7, 3) := by decide +kernel
theorem dX7_isWord_9 : decode cX7_isWord 9 = .ok (.iconst 1, 1) := by decide +kernel
theorem dX7_isWord_10 : decode cX7_isWord 10 = .ok (.goto 4, 3) := by decide +kernel
theorem dX7_isWord_13 : decode cX7_isWord 13 = .ok (.iconst 0, 1) := by decide +kernel
theorem dX7_isWord_14 : decode cX7_isWord 14 = .ok (.ireturn, 1) := by decide +kernel
theorem dX7_oneIf_0 : decode cX7_oneIf 0 = .ok (.iload_n 0, 1) := by decide +kernel
theorem dX7_oneIf_1 : decode cX7_oneIf 1 = .ok (.ifCond .eq 7, 3) := by decide +kernel
theorem dX7_oneIf_4 : decode cX7_oneIf 4 = .ok (.iconst 1, 1) := by decide +kernel
theorem dX7_oneIf_5 : decode cX7_oneIf 5 = .ok (.goto 4, 3) := by decide +kernel
theorem dX7_oneIf_8 : decode cX7_oneIf 8 = .ok (.iconst 0, 1) := by decide +kernel
theorem dX7_oneIf_9 : decode cX7_oneIf 9 = .ok (.ireturn, 1) := by decide +kernel
theorem dX7_letterOf_0 : decode cX7_letterOf 0 = .ok (.iload_n 0, 1) := by decide +kernel
theorem dX7_letterOf_1 : decode cX7_letterOf 1 = .ok (.lookupswitch 71 #[(88, 61), (89, 65), (90, 69), (120, 59), (121, 63), (122, 67)], 59) := by decide +kernel
theorem dX7_letterOf_60 : decode cX7_letterOf 60 = .ok (.iconst 0, 1) := by decide +kernel
theorem dX7_letterOf_61 : decode cX7_letterOf 61 = .ok (.ireturn, 1) := by decide +kernel
theorem dX7_letterOf_62 : decode cX7_letterOf 62 = .ok (.iconst 1, 1) := by decide +kernel
theorem dX7_letterOf_63 : decode cX7_letterOf 63 = .ok (.ireturn, 1) := by decide +kernel
theorem dX7_letterOf_64 : decode cX7_letterOf 64 = .ok (.iconst 2, 1) := by decide +kernel
theorem dX7_letterOf_65 : decode cX7_letterOf 65 = .ok (.ireturn, 1) := by decide +kernel
theorem dX7_letterOf_66 : decode cX7_letterOf 66 = .ok (.iconst 3, 1) := by decide +kernel
theorem dX7_letterOf_67 : decode cX7_letterOf 67 = .ok (.ireturn, 1) := by decide +kernel
theorem dX7_letterOf_68 : decode cX7_letterOf 68 = .ok (.iconst 4, 1) := by decide +kernel
theorem dX7_letterOf_69 : decode cX7_letterOf 69 = .ok (.ireturn, 1) := by decide +kernel
theorem dX7_letterOf_70 : decode cX7_letterOf 70 = .ok (.iconst 5, 1) := by decide +kernel
theorem dX7_letterOf_71 : decode cX7_letterOf 71 = .ok (.ireturn, 1) := by decide +kernel
theorem dX7_letterOf_72 : decode cX7_letterOf 72 = .ok (.iconst (-1), 1) := by decide +kernel
theorem dX7_letterOf_73 : decode cX7_letterOf 73 = .ok (.ireturn, 1) := by decide +kernel
theorem dX7_hold_0 : decode cX7_hold 0 = .ok (.aload_n 0, 1) := by decide +kernel
theorem dX7_hold_1 : decode cX7_hold 1 = .ok (.getfield 10, 3) := by decide +kernel
theorem dX7_hold_4 : decode cX7_hold 4 = .ok (.getfield 62, 3) := by decide +kernel
theorem dX7_hold_7 : decode cX7_hold 7 = .ok (.iload_n 1, 1) := by decide +kernel
theorem dX7_hold_8 : decode cX7_hold 8 = .ok (.iload_n 2, 1) := by decide +kernel
theorem dX7_hold_9 : decode cX7_hold 9 = .ok (.iastore, 1) := by decide +kernel
theorem dX7_hold_10 : decode cX7_hold 10 = .ok (.iload_n 2, 1) := by decide +kernel
theorem dX7_hold_11 : decode cX7_hold 11 = .ok (.invokestatic 65, 3) := by decide +kernel
theorem dX7_hold_14 : decode cX7_hold 14 = .ok (.ireturn, 1) := by decide +kernel
theorem dX7_isUnder_0 : decode cX7_isUnder 0 = .ok (.aload_n 0, 1) := by decide +kernel
theorem dX7_isUnder_1 : decode cX7_isUnder 1 = .ok (.getfield 42, 3) := by decide +kernel
theorem dX7_isUnder_4 : decode cX7_isUnder 4 = .ok (.aload_n 1, 1) := by decide +kernel
theorem dX7_isUnder_5 : decode cX7_isUnder 5 = .ok (.invokevirtual 156, 3) := by decide +kernel
theorem dX7_isUnder_8 : decode cX7_isUnder 8 = .ok (.aload_n 0, 1) := by decide +kernel
theorem dX7_isUnder_9 : decode cX7_isUnder 9 = .ok (.getfield 42, 3) := by decide +kernel
theorem dX7_isUnder_12 : decode cX7_isUnder 12 = .ok (.aload_n 2, 1) := by decide +kernel
theorem dX7_isUnder_13 : decode cX7_isUnder 13 = .ok (.invokevirtual 221, 3) := by decide +kernel
theorem dX7_isUnder_16 : decode cX7_isUnder 16 = .ok (.ireturn, 1) := by decide +kernel
theorem dX7_rulesTold_0 : decode cX7_rulesTold 0 = .ok (.iconst 0, 1) := by decide +kernel
theorem dX7_rulesTold_1 : decode cX7_rulesTold 1 = .ok (.istore_n 1, 1) := by decide +kernel
theorem dX7_rulesTold_2 : decode cX7_rulesTold 2 = .ok (.iconst 0, 1) := by decide +kernel
theorem dX7_rulesTold_3 : decode cX7_rulesTold 3 = .ok (.istore_n 2, 1) := by decide +kernel
theorem dX7_rulesTold_4 : decode cX7_rulesTold 4 = .ok (.iload_n 2, 1) := by decide +kernel
theorem dX7_rulesTold_5 : decode cX7_rulesTold 5 = .ok (.iconst 2, 1) := by decide +kernel
theorem dX7_rulesTold_6 : decode cX7_rulesTold 6 = .ok (.if_icmp .ge 27, 3) := by decide +kernel
theorem dX7_rulesTold_9 : decode cX7_rulesTold 9 = .ok (.aload_n 0, 1) := by decide +kernel
theorem dX7_rulesTold_10 : decode cX7_rulesTold 10 = .ok (.getfield 10, 3) := by decide +kernel
theorem dX7_rulesTold_13 : decode cX7_rulesTold 13 = .ok (.getfield 179, 3) := by decide +kernel
theorem dX7_rulesTold_16 : decode cX7_rulesTold 16 = .ok (.iload_n 2, 1) := by decide +kernel
theorem dX7_rulesTold_17 : decode cX7_rulesTold 17 = .ok (.aaload, 1) := by decide +kernel
theorem dX7_rulesTold_18 : decode cX7_rulesTold 18 = .ok (.getfield 189, 3) := by decide +kernel
theorem dX7_rulesTold_21 : decode cX7_rulesTold 21 = .ok (.ifCond .eq 6, 3) := by decide +kernel
theorem dX7_rulesTold_24 : decode cX7_rulesTold 24 = .ok (.iinc 1 1, 3) := by decide +kernel
theorem dX7_rulesTold_27 : decode cX7_rulesTold 27 = .ok (.iinc 2 1, 3) := by decide +kernel
theorem dX7_rulesTold_30 : decode cX7_rulesTold 30 = .ok (.goto (-26), 3) := by decide +kernel
theorem dX7_rulesTold_33 : decode cX7_rulesTold 33 = .ok (.iload_n 1, 1) := by decide +kernel
theorem dX7_rulesTold_34 : decode cX7_rulesTold 34 = .ok (.ireturn, 1) := by decide +kernel
theorem dX7_differentMaps_0 : decode cX7_differentMaps 0 = .ok (.iconst 0, 1) := by decide +kernel
theorem dX7_differentMaps_1 : decode cX7_differentMaps 1 = .ok (.istore_n 1, 1) := by decide +kernel
theorem dX7_differentMaps_2 : decode cX7_differentMaps 2 = .ok (.iconst 0, 1) := by decide +kernel
theorem dX7_differentMaps_3 : decode cX7_differentMaps 3 = .ok (.istore_n 2, 1) := by decide +kernel
theorem dX7_differentMaps_4 : decode cX7_differentMaps 4 = .ok (.iload_n 2, 1) := by decide +kernel
theorem dX7_differentMaps_5 : decode cX7_differentMaps 5 = .ok (.bipush 6, 2) := by decide +kernel
theorem dX7_differentMaps_7 : decode cX7_differentMaps 7 = .ok (.if_icmp .ge 57, 3) := by decide +kernel
theorem dX7_differentMaps_10 : decode cX7_differentMaps 10 = .ok (.iconst 1, 1) := by decide +kernel
theorem dX7_differentMaps_11 : decode cX7_differentMaps 11 = .ok (.istore_n 3, 1) := by decide +kernel
theorem dX7_differentMaps_12 : decode cX7_differentMaps 12 = .ok (.iconst 0, 1) := by decide +kernel
theorem dX7_differentMaps_13 : decode cX7_differentMaps 13 = .ok (.istore 4, 2) := by decide +kernel
theorem dX7_differentMaps_15 : decode cX7_differentMaps 15 = .ok (.iload 4, 2) := by decide +kernel
theorem dX7_differentMaps_17 : decode cX7_differentMaps 17 = .ok (.iload_n 2, 1) := by decide +kernel
theorem dX7_differentMaps_18 : decode cX7_differentMaps 18 = .ok (.if_icmp .ge 33, 3) := by decide +kernel
theorem dX7_differentMaps_21 : decode cX7_differentMaps 21 = .ok (.aload_n 0, 1) := by decide +kernel
theorem dX7_differentMaps_22 : decode cX7_differentMaps 22 = .ok (.getfield 10, 3) := by decide +kernel
theorem dX7_differentMaps_25 : decode cX7_differentMaps 25 = .ok (.getfield 62, 3) := by decide +kernel
theorem dX7_differentMaps_28 : decode cX7_differentMaps 28 = .ok (.iload 4, 2) := by decide +kernel
theorem dX7_differentMaps_30 : decode cX7_differentMaps 30 = .ok (.iaload, 1) := by decide +kernel
theorem dX7_differentMaps_31 : decode cX7_differentMaps 31 = .ok (.aload_n 0, 1) := by decide +kernel
theorem dX7_differentMaps_32 : decode cX7_differentMaps 32 = .ok (.getfield 10, 3) := by decide +kernel
theorem dX7_differentMaps_35 : decode cX7_differentMaps 35 = .ok (.getfield 62, 3) := by decide +kernel
theorem dX7_differentMaps_38 : decode cX7_differentMaps 38 = .ok (.iload_n 2, 1) := by decide +kernel
theorem dX7_differentMaps_39 : decode cX7_differentMaps 39 = .ok (.iaload, 1) := by decide +kernel
theorem dX7_differentMaps_40 : decode cX7_differentMaps 40 = .ok (.if_icmp .ne 5, 3) := by decide +kernel
theorem dX7_differentMaps_43 : decode cX7_differentMaps 43 = .ok (.iconst 0, 1) := by decide +kernel
theorem dX7_differentMaps_44 : decode cX7_differentMaps 44 = .ok (.istore_n 3, 1) := by decide +kernel
theorem dX7_differentMaps_45 : decode cX7_differentMaps 45 = .ok (.iinc 4 1, 3) := by decide +kernel
theorem dX7_differentMaps_48 : decode cX7_differentMaps 48 = .ok (.goto (-33), 3) := by decide +kernel
theorem dX7_differentMaps_51 : decode cX7_differentMaps 51 = .ok (.iload_n 3, 1) := by decide +kernel
theorem dX7_differentMaps_52 : decode cX7_differentMaps 52 = .ok (.ifCond .eq 6, 3) := by decide +kernel
theorem dX7_differentMaps_55 : decode cX7_differentMaps 55 = .ok (.iinc 1 1, 3) := by decide +kernel
theorem dX7_differentMaps_58 : decode cX7_differentMaps 58 = .ok (.iinc 2 1, 3) := by decide +kernel
theorem dX7_differentMaps_61 : decode cX7_differentMaps 61 = .ok (.goto (-57), 3) := by decide +kernel
theorem dX7_differentMaps_64 : decode cX7_differentMaps 64 = .ok (.iload_n 1, 1) := by decide +kernel
theorem dX7_differentMaps_65 : decode cX7_differentMaps 65 = .ok (.ireturn, 1) := by decide +kernel
theorem dX7_ranksAdded_0 : decode cX7_ranksAdded 0 = .ok (.iconst 0, 1) := by decide +kernel
theorem dX7_ranksAdded_1 : decode cX7_ranksAdded 1 = .ok (.istore_n 1, 1) := by decide +kernel
theorem dX7_ranksAdded_2 : decode cX7_ranksAdded 2 = .ok (.iconst 0, 1) := by decide +kernel
theorem dX7_ranksAdded_3 : decode cX7_ranksAdded 3 = .ok (.istore_n 2, 1) := by decide +kernel
theorem dX7_ranksAdded_4 : decode cX7_ranksAdded 4 = .ok (.iload_n 2, 1) := by decide +kernel
theorem dX7_ranksAdded_5 : decode cX7_ranksAdded 5 = .ok (.bipush 6, 2) := by decide +kernel
theorem dX7_ranksAdded_7 : decode cX7_ranksAdded 7 = .ok (.if_icmp .ge 24, 3) := by decide +kernel
theorem dX7_ranksAdded_10 : decode cX7_ranksAdded 10 = .ok (.iload_n 1, 1) := by decide +kernel
theorem dX7_ranksAdded_11 : decode cX7_ranksAdded 11 = .ok (.aload_n 0, 1) := by decide +kernel
theorem dX7_ranksAdded_12 : decode cX7_ranksAdded 12 = .ok (.getfield 10, 3) := by decide +kernel
theorem dX7_ranksAdded_15 : decode cX7_ranksAdded 15 = .ok (.getfield 62, 3) := by decide +kernel
theorem dX7_ranksAdded_18 : decode cX7_ranksAdded 18 = .ok (.iload_n 2, 1) := by decide +kernel
theorem dX7_ranksAdded_19 : decode cX7_ranksAdded 19 = .ok (.iaload, 1) := by decide +kernel
theorem dX7_ranksAdded_20 : decode cX7_ranksAdded 20 = .ok (.invokestatic 65, 3) := by decide +kernel
theorem dX7_ranksAdded_23 : decode cX7_ranksAdded 23 = .ok (.iadd, 1) := by decide +kernel
theorem dX7_ranksAdded_24 : decode cX7_ranksAdded 24 = .ok (.istore_n 1, 1) := by decide +kernel
theorem dX7_ranksAdded_25 : decode cX7_ranksAdded 25 = .ok (.iinc 2 1, 3) := by decide +kernel
theorem dX7_ranksAdded_28 : decode cX7_ranksAdded 28 = .ok (.goto (-24), 3) := by decide +kernel
theorem dX7_ranksAdded_31 : decode cX7_ranksAdded 31 = .ok (.iload_n 1, 1) := by decide +kernel
theorem dX7_ranksAdded_32 : decode cX7_ranksAdded 32 = .ok (.ireturn, 1) := by decide +kernel
theorem dJ6_bitCount_0f7a4_0 : decode cJ6_bitCount_0f7a4 0 = .ok (.iload_n 0, 1) := by decide +kernel
theorem dJ6_bitCount_0f7a4_1 : decode cJ6_bitCount_0f7a4 1 = .ok (.iload_n 0, 1) := by decide +kernel
theorem dJ6_bitCount_0f7a4_2 : decode cJ6_bitCount_0f7a4 2 = .ok (.iconst 1, 1) := by decide +kernel
theorem dJ6_bitCount_0f7a4_3 : decode cJ6_bitCount_0f7a4 3 = .ok (.iushr, 1) := by decide +kernel
theorem dJ6_bitCount_0f7a4_4 : decode cJ6_bitCount_0f7a4 4 = .ok (.ldc_w 265, 3) := by decide +kernel
theorem dJ6_bitCount_0f7a4_7 : decode cJ6_bitCount_0f7a4 7 = .ok (.iand, 1) := by decide +kernel
theorem dJ6_bitCount_0f7a4_8 : decode cJ6_bitCount_0f7a4 8 = .ok (.isub, 1) := by decide +kernel
theorem dJ6_bitCount_0f7a4_9 : decode cJ6_bitCount_0f7a4 9 = .ok (.istore_n 0, 1) := by decide +kernel
theorem dJ6_bitCount_0f7a4_10 : decode cJ6_bitCount_0f7a4 10 = .ok (.iload_n 0, 1) := by decide +kernel
theorem dJ6_bitCount_0f7a4_11 : decode cJ6_bitCount_0f7a4 11 = .ok (.ldc_w 266, 3) := by decide +kernel
theorem dJ6_bitCount_0f7a4_14 : decode cJ6_bitCount_0f7a4 14 = .ok (.iand, 1) := by decide +kernel
theorem dJ6_bitCount_0f7a4_15 : decode cJ6_bitCount_0f7a4 15 = .ok (.iload_n 0, 1) := by decide +kernel
theorem dJ6_bitCount_0f7a4_16 : decode cJ6_bitCount_0f7a4 16 = .ok (.iconst 2, 1) := by decide +kernel
theorem dJ6_bitCount_0f7a4_17 : decode cJ6_bitCount_0f7a4 17 = .ok (.iushr, 1) := by decide +kernel
theorem dJ6_bitCount_0f7a4_18 : decode cJ6_bitCount_0f7a4 18 = .ok (.ldc_w 266, 3) := by decide +kernel
theorem dJ6_bitCount_0f7a4_21 : decode cJ6_bitCount_0f7a4 21 = .ok (.iand, 1) := by decide +kernel
theorem dJ6_bitCount_0f7a4_22 : decode cJ6_bitCount_0f7a4 22 = .ok (.iadd, 1) := by decide +kernel
theorem dJ6_bitCount_0f7a4_23 : decode cJ6_bitCount_0f7a4 23 = .ok (.istore_n 0, 1) := by decide +kernel
theorem dJ6_bitCount_0f7a4_24 : decode cJ6_bitCount_0f7a4 24 = .ok (.iload_n 0, 1) := by decide +kernel
theorem dJ6_bitCount_0f7a4_25 : decode cJ6_bitCount_0f7a4 25 = .ok (.iload_n 0, 1) := by decide +kernel
theorem dJ6_bitCount_0f7a4_26 : decode cJ6_bitCount_0f7a4 26 = .ok (.iconst 4, 1) := by decide +kernel
theorem dJ6_bitCount_0f7a4_27 : decode cJ6_bitCount_0f7a4 27 = .ok (.iushr, 1) := by decide +kernel
theorem dJ6_bitCount_0f7a4_28 : decode cJ6_bitCount_0f7a4 28 = .ok (.iadd, 1) := by decide +kernel
theorem dJ6_bitCount_0f7a4_29 : decode cJ6_bitCount_0f7a4 29 = .ok (.ldc_w 267, 3) := by decide +kernel
theorem dJ6_bitCount_0f7a4_32 : decode cJ6_bitCount_0f7a4 32 = .ok (.iand, 1) := by decide +kernel
theorem dJ6_bitCount_0f7a4_33 : decode cJ6_bitCount_0f7a4 33 = .ok (.istore_n 0, 1) := by decide +kernel
theorem dJ6_bitCount_0f7a4_34 : decode cJ6_bitCount_0f7a4 34 = .ok (.iload_n 0, 1) := by decide +kernel
theorem dJ6_bitCount_0f7a4_35 : decode cJ6_bitCount_0f7a4 35 = .ok (.iload_n 0, 1) := by decide +kernel
theorem dJ6_bitCount_0f7a4_36 : decode cJ6_bitCount_0f7a4 36 = .ok (.bipush 8, 2) := by decide +kernel
theorem dJ6_bitCount_0f7a4_38 : decode cJ6_bitCount_0f7a4 38 = .ok (.iushr, 1) := by decide +kernel
theorem dJ6_bitCount_0f7a4_39 : decode cJ6_bitCount_0f7a4 39 = .ok (.iadd, 1) := by decide +kernel
theorem dJ6_bitCount_0f7a4_40 : decode cJ6_bitCount_0f7a4 40 = .ok (.istore_n 0, 1) := by decide +kernel
theorem dJ6_bitCount_0f7a4_41 : decode cJ6_bitCount_0f7a4 41 = .ok (.iload_n 0, 1) := by decide +kernel
theorem dJ6_bitCount_0f7a4_42 : decode cJ6_bitCount_0f7a4 42 = .ok (.iload_n 0, 1) := by decide +kernel
theorem dJ6_bitCount_0f7a4_43 : decode cJ6_bitCount_0f7a4 43 = .ok (.bipush 16, 2) := by decide +kernel
theorem dJ6_bitCount_0f7a4_45 : decode cJ6_bitCount_0f7a4 45 = .ok (.iushr, 1) := by decide +kernel
theorem dJ6_bitCount_0f7a4_46 : decode cJ6_bitCount_0f7a4 46 = .ok (.iadd, 1) := by decide +kernel
theorem dJ6_bitCount_0f7a4_47 : decode cJ6_bitCount_0f7a4 47 = .ok (.istore_n 0, 1) := by decide +kernel
theorem dJ6_bitCount_0f7a4_48 : decode cJ6_bitCount_0f7a4 48 = .ok (.iload_n 0, 1) := by decide +kernel
theorem dJ6_bitCount_0f7a4_49 : decode cJ6_bitCount_0f7a4 49 = .ok (.bipush 63, 2) := by decide +kernel
theorem dJ6_bitCount_0f7a4_51 : decode cJ6_bitCount_0f7a4 51 = .ok (.iand, 1) := by decide +kernel
theorem dJ6_bitCount_0f7a4_52 : decode cJ6_bitCount_0f7a4 52 = .ok (.ireturn, 1) := by decide +kernel
theorem dJ9_max_7cf53_0 : decode cJ9_max_7cf53 0 = .ok (.iload_n 0, 1) := by decide +kernel
theorem dJ9_max_7cf53_1 : decode cJ9_max_7cf53 1 = .ok (.iload_n 1, 1) := by decide +kernel
theorem dJ9_max_7cf53_2 : decode cJ9_max_7cf53 2 = .ok (.if_icmp .lt 7, 3) := by decide +kernel
theorem dJ9_max_7cf53_5 : decode cJ9_max_7cf53 5 = .ok (.iload_n 0, 1) := by decide +kernel
theorem dJ9_max_7cf53_6 : decode cJ9_max_7cf53 6 = .ok (.goto 4, 3) := by decide +kernel
theorem dJ9_max_7cf53_9 : decode cJ9_max_7cf53 9 = .ok (.iload_n 1, 1) := by decide +kernel
theorem dJ9_max_7cf53_10 : decode cJ9_max_7cf53 10 = .ok (.ireturn, 1) := by decide +kernel
theorem dJ9_min_7cf53_0 : decode cJ9_min_7cf53 0 = .ok (.iload_n 0, 1) := by decide +kernel
theorem dJ9_min_7cf53_1 : decode cJ9_min_7cf53 1 = .ok (.iload_n 1, 1) := by decide +kernel
theorem dJ9_min_7cf53_2 : decode cJ9_min_7cf53 2 = .ok (.if_icmp .gt 7, 3) := by decide +kernel
theorem dJ9_min_7cf53_5 : decode cJ9_min_7cf53 5 = .ok (.iload_n 0, 1) := by decide +kernel
theorem dJ9_min_7cf53_6 : decode cJ9_min_7cf53 6 = .ok (.goto 4, 3) := by decide +kernel
theorem dJ9_min_7cf53_9 : decode cJ9_min_7cf53 9 = .ok (.iload_n 1, 1) := by decide +kernel
theorem dJ9_min_7cf53_10 : decode cJ9_min_7cf53 10 = .ok (.ireturn, 1) := by decide +kernel
theorem dJ7_fill_53178_0 : decode cJ7_fill_53178 0 = .ok (.iconst 0, 1) := by decide +kernel
theorem dJ7_fill_53178_1 : decode cJ7_fill_53178 1 = .ok (.istore_n 2, 1) := by decide +kernel
theorem dJ7_fill_53178_2 : decode cJ7_fill_53178 2 = .ok (.aload_n 0, 1) := by decide +kernel
theorem dJ7_fill_53178_3 : decode cJ7_fill_53178 3 = .ok (.arraylength, 1) := by decide +kernel
theorem dJ7_fill_53178_4 : decode cJ7_fill_53178 4 = .ok (.istore_n 3, 1) := by decide +kernel
theorem dJ7_fill_53178_5 : decode cJ7_fill_53178 5 = .ok (.iload_n 2, 1) := by decide +kernel
theorem dJ7_fill_53178_6 : decode cJ7_fill_53178 6 = .ok (.iload_n 3, 1) := by decide +kernel
theorem dJ7_fill_53178_7 : decode cJ7_fill_53178 7 = .ok (.if_icmp .ge 13, 3) := by decide +kernel
theorem dJ7_fill_53178_10 : decode cJ7_fill_53178 10 = .ok (.aload_n 0, 1) := by decide +kernel
theorem dJ7_fill_53178_11 : decode cJ7_fill_53178 11 = .ok (.iload_n 2, 1) := by decide +kernel
theorem dJ7_fill_53178_12 : decode cJ7_fill_53178 12 = .ok (.iload_n 1, 1) := by decide +kernel
theorem dJ7_fill_53178_13 : decode cJ7_fill_53178 13 = .ok (.iastore, 1) := by decide +kernel
theorem dJ7_fill_53178_14 : decode cJ7_fill_53178 14 = .ok (.iinc 2 1, 3) := by decide +kernel
theorem dJ7_fill_53178_17 : decode cJ7_fill_53178 17 = .ok (.goto (-12), 3) := by decide +kernel
theorem dJ7_fill_53178_20 : decode cJ7_fill_53178 20 = .ok (.return_, 1) := by decide +kernel
