theorem dX0_init_0 : decode cX0_init 0 = .ok (.aload_n 0, 1) := by decide +kernel
theorem dX0_init_1 : decode cX0_init 1 = .ok (.invokespecial 3, 3) := by decide +kernel
theorem dX0_init_4 : decode cX0_init 4 = .ok (.aload_n 0, 1) := by decide +kernel
theorem dX0_init_5 : decode cX0_init 5 = .ok (.iconst (-1), 1) := by decide +kernel
theorem dX0_init_6 : decode cX0_init 6 = .ok (.putfield 9, 3) := by decide +kernel
theorem dX0_init_9 : decode cX0_init 9 = .ok (.aload_n 0, 1) := by decide +kernel
theorem dX0_init_10 : decode cX0_init 10 = .ok (.iconst (-1), 1) := by decide +kernel
theorem dX0_init_11 : decode cX0_init 11 = .ok (.putfield 15, 3) := by decide +kernel
theorem dX0_init_14 : decode cX0_init 14 = .ok (.aload_n 0, 1) := by decide +kernel
theorem dX0_init_15 : decode cX0_init 15 = .ok (.iconst (-1), 1) := by decide +kernel
theorem dX0_init_16 : decode cX0_init 16 = .ok (.putfield 18, 3) := by decide +kernel
theorem dX0_init_19 : decode cX0_init 19 = .ok (.aload_n 0, 1) := by decide +kernel
theorem dX0_init_20 : decode cX0_init 20 = .ok (.sipush 4096, 3) := by decide +kernel
theorem dX0_init_23 : decode cX0_init 23 = .ok (.newarray .int, 2) := by decide +kernel
theorem dX0_init_25 : decode cX0_init 25 = .ok (.putfield 21, 3) := by decide +kernel
theorem dX0_init_28 : decode cX0_init 28 = .ok (.return_, 1) := by decide +kernel
theorem dX0_find_0 : decode cX0_find 0 = .ok (.aload_n 0, 1) := by decide +kernel
theorem dX0_find_1 : decode cX0_find 1 = .ok (.iconst (-1), 1) := by decide +kernel
theorem dX0_find_2 : decode cX0_find 2 = .ok (.putfield 9, 3) := by decide +kernel
theorem dX0_find_5 : decode cX0_find 5 = .ok (.aload_n 0, 1) := by decide +kernel
theorem dX0_find_6 : decode cX0_find 6 = .ok (.iconst (-1), 1) := by decide +kernel
theorem dX0_find_7 : decode cX0_find 7 = .ok (.putfield 15, 3) := by decide +kernel
theorem dX0_find_10 : decode cX0_find 10 = .ok (.aload_n 0, 1) := by decide +kernel
theorem dX0_find_11 : decode cX0_find 11 = .ok (.iconst (-1), 1) := by decide +kernel
theorem dX0_find_12 : decode cX0_find 12 = .ok (.putfield 18, 3) := by decide +kernel
theorem dX0_find_15 : decode cX0_find 15 = .ok (.aload_n 1, 1) := by decide +kernel
theorem dX0_find_16 : decode cX0_find 16 = .ok (.iconst 3, 1) := by decide +kernel
theorem dX0_find_17 : decode cX0_find 17 = .ok (.invokevirtual 25, 3) := by decide +kernel
theorem dX0_find_20 : decode cX0_find 20 = .ok (.istore 4, 2) := by decide +kernel
theorem dX0_find_22 : decode cX0_find 22 = .ok (.iconst 0, 1) := by decide +kernel
theorem dX0_find_23 : decode cX0_find 23 = .ok (.istore 5, 2) := by decide +kernel
theorem dX0_find_25 : decode cX0_find 25 = .ok (.iload 5, 2) := by decide +kernel
theorem dX0_find_27 : decode cX0_find 27 = .ok (.aload_n 1, 1) := by decide +kernel
theorem dX0_find_28 : decode cX0_find 28 = .ok (.getfield 31, 3) := by decide +kernel
theorem dX0_find_31 : decode cX0_find 31 = .ok (.if_icmp .ge 111, 3) := by decide +kernel
theorem dX0_find_34 : decode cX0_find 34 = .ok (.iload 5, 2) := by decide +kernel
theorem dX0_find_36 : decode cX0_find 36 = .ok (.bipush 12, 2) := by decide +kernel
theorem dX0_find_38 : decode cX0_find 38 = .ok (.if_icmp .ge 104, 3) := by decide +kernel
theorem dX0_find_41 : decode cX0_find 41 = .ok (.aload_n 1, 1) := by decide +kernel
theorem dX0_find_42 : decode cX0_find 42 = .ok (.iload 5, 2) := by decide +kernel
theorem dX0_find_44 : decode cX0_find 44 = .ok (.invokevirtual 34, 3) := by decide +kernel
theorem dX0_find_47 : decode cX0_find 47 = .ok (.istore 6, 2) := by decide +kernel
theorem dX0_find_49 : decode cX0_find 49 = .ok (.iconst 0, 1) := by decide +kernel
theorem dX0_find_50 : decode cX0_find 50 = .ok (.istore 7, 2) := by decide +kernel
theorem dX0_find_52 : decode cX0_find 52 = .ok (.iload 7, 2) := by decide +kernel
theorem dX0_find_54 : decode cX0_find 54 = .ok (.iconst 1, 1) := by decide +kernel
theorem dX0_find_55 : decode cX0_find 55 = .ok (.iload 5, 2) := by decide +kernel
theorem dX0_find_57 : decode cX0_find 57 = .ok (.ishl, 1) := by decide +kernel
theorem dX0_find_58 : decode cX0_find 58 = .ok (.if_icmp .ge 78, 3) := by decide +kernel
theorem dX0_find_61 : decode cX0_find 61 = .ok (.iconst 1, 1) := by decide +kernel
theorem dX0_find_62 : decode cX0_find 62 = .ok (.iload 5, 2) := by decide +kernel
theorem dX0_find_64 : decode cX0_find 64 = .ok (.ishl, 1) := by decide +kernel
theorem dX0_find_65 : decode cX0_find 65 = .ok (.iload 7, 2) := by decide +kernel
theorem dX0_find_67 : decode cX0_find 67 = .ok (.ior, 1) := by decide +kernel
theorem dX0_find_68 : decode cX0_find 68 = .ok (.istore 8, 2) := by decide +kernel
theorem dX0_find_70 : decode cX0_find 70 = .ok (.aload_n 0, 1) := by decide +kernel
theorem dX0_find_71 : decode cX0_find 71 = .ok (.getfield 21, 3) := by decide +kernel
theorem dX0_find_74 : decode cX0_find 74 = .ok (.iload 8, 2) := by decide +kernel
theorem dX0_find_76 : decode cX0_find 76 = .ok (.aload_n 0, 1) := by decide +kernel
theorem dX0_find_77 : decode cX0_find 77 = .ok (.getfield 21, 3) := by decide +kernel
theorem dX0_find_80 : decode cX0_find 80 = .ok (.iload 7, 2) := by decide +kernel
theorem dX0_find_82 : decode cX0_find 82 = .ok (.iaload, 1) := by decide +kernel
theorem dX0_find_83 : decode cX0_find 83 = .ok (.iload 6, 2) := by decide +kernel
theorem dX0_find_85 : decode cX0_find 85 = .ok (.iadd, 1) := by decide +kernel
theorem dX0_find_86 : decode cX0_find 86 = .ok (.iastore, 1) := by decide +kernel
theorem dX0_find_87 : decode cX0_find 87 = .ok (.aload_n 0, 1) := by decide +kernel
theorem dX0_find_88 : decode cX0_find 88 = .ok (.getfield 21, 3) := by decide +kernel
theorem dX0_find_91 : decode cX0_find 91 = .ok (.iload 8, 2) := by decide +kernel
theorem dX0_find_93 : decode cX0_find 93 = .ok (.iaload, 1) := by decide +kernel
theorem dX0_find_94 : decode cX0_find 94 = .ok (.iload_n 3, 1) := by decide +kernel
theorem dX0_find_95 : decode cX0_find 95 = .ok (.isub, 1) := by decide +kernel
theorem dX0_find_96 : decode cX0_find 96 = .ok (.istore 9, 2) := by decide +kernel
theorem dX0_find_98 : decode cX0_find 98 = .ok (.iload 8, 2) := by decide +kernel
theorem dX0_find_100 : decode cX0_find 100 = .ok (.iload_n 2, 1) := by decide +kernel
theorem dX0_find_101 : decode cX0_find 101 = .ok (.iconst (-1), 1) := by decide +kernel
theorem dX0_find_102 : decode cX0_find 102 = .ok (.ixor, 1) := by decide +kernel
theorem dX0_find_103 : decode cX0_find 103 = .ok (.iand, 1) := by decide +kernel
theorem dX0_find_104 : decode cX0_find 104 = .ok (.ifCond .ne 26, 3) := by decide +kernel
theorem dX0_find_107 : decode cX0_find 107 = .ok (.iload 9, 2) := by decide +kernel
theorem dX0_find_109 : decode cX0_find 109 = .ok (.ifCond .lt 21, 3) := by decide +kernel
theorem dX0_find_112 : decode cX0_find 112 = .ok (.iload 6, 2) := by decide +kernel
theorem dX0_find_114 : decode cX0_find 114 = .ok (.iload 9, 2) := by decide +kernel
theorem dX0_find_116 : decode cX0_find 116 = .ok (.isub, 1) := by decide +kernel
theorem dX0_find_117 : decode cX0_find 117 = .ok (.iload 4, 2) := by decide +kernel
theorem dX0_find_119 : decode cX0_find 119 = .ok (.if_icmp .lt 11, 3) := by decide +kernel
theorem dX0_find_122 : decode cX0_find 122 = .ok (.aload_n 0, 1) := by decide +kernel
theorem dX0_find_123 : decode cX0_find 123 = .ok (.iload 8, 2) := by decide +kernel
theorem dX0_find_125 : decode cX0_find 125 = .ok (.iload 9, 2) := by decide +kernel
theorem dX0_find_127 : decode cX0_find 127 = .ok (.invokevirtual 37, 3) := by decide +kernel
theorem dX0_find_130 : decode cX0_find 130 = .ok (.iinc 7 1, 3) := by decide +kernel
theorem dX0_find_133 : decode cX0_find 133 = .ok (.goto (-81), 3) := by decide +kernel
theorem dX0_find_136 : decode cX0_find 136 = .ok (.iinc 5 1, 3) := by decide +kernel
theorem dX0_find_139 : decode cX0_find 139 = .ok (.goto (-114), 3) := by decide +kernel
theorem dX0_find_142 : decode cX0_find 142 = .ok (.return_, 1) := by decide +kernel
theorem dX0_compare_0 : decode cX0_compare 0 = .ok (.iload_n 1, 1) := by decide +kernel
theorem dX0_compare_1 : decode cX0_compare 1 = .ok (.invokestatic 41, 3) := by decide +kernel
theorem dX0_compare_4 : decode cX0_compare 4 = .ok (.istore_n 3, 1) := by decide +kernel
theorem dX0_compare_5 : decode cX0_compare 5 = .ok (.aload_n 0, 1) := by decide +kernel
theorem dX0_compare_6 : decode cX0_compare 6 = .ok (.getfield 9, 3) := by decide +kernel
theorem dX0_compare_9 : decode cX0_compare 9 = .ok (.iconst (-1), 1) := by decide +kernel
theorem dX0_compare_10 : decode cX0_compare 10 = .ok (.if_icmp .eq 27, 3) := by decide +kernel
theorem dX0_compare_13 : decode cX0_compare 13 = .ok (.iload_n 2, 1) := by decide +kernel
theorem dX0_compare_14 : decode cX0_compare 14 = .ok (.aload_n 0, 1) := by decide +kernel
theorem dX0_compare_15 : decode cX0_compare 15 = .ok (.getfield 15, 3) := by decide +kernel
theorem dX0_compare_18 : decode cX0_compare 18 = .ok (.if_icmp .lt 19, 3) := by decide +kernel
theorem dX0_compare_21 : decode cX0_compare 21 = .ok (.iload_n 2, 1) := by decide +kernel
theorem dX0_compare_22 : decode cX0_compare 22 = .ok (.aload_n 0, 1) := by decide +kernel
theorem dX0_compare_23 : decode cX0_compare 23 = .ok (.getfield 15, 3) := by decide +kernel
theorem dX0_compare_26 : decode cX0_compare 26 = .ok (.if_icmp .ne 26, 3) := by decide +kernel
theorem dX0_compare_29 : decode cX0_compare 29 = .ok (.iload_n 3, 1) := by decide +kernel
theorem dX0_compare_30 : decode cX0_compare 30 = .ok (.aload_n 0, 1) := by decide +kernel
theorem dX0_compare_31 : decode cX0_compare 31 = .ok (.getfield 18, 3) := by decide +kernel
theorem dX0_compare_34 : decode cX0_compare 34 = .ok (.if_icmp .ge 18, 3) := by decide +kernel
theorem dX0_compare_37 : decode cX0_compare 37 = .ok (.aload_n 0, 1) := by decide +kernel
theorem dX0_compare_38 : decode cX0_compare 38 = .ok (.iload_n 1, 1) := by decide +kernel
theorem dX0_compare_39 : decode cX0_compare 39 = .ok (.putfield 9, 3) := by decide +kernel
theorem dX0_compare_42 : decode cX0_compare 42 = .ok (.aload_n 0, 1) := by decide +kernel
theorem dX0_compare_43 : decode cX0_compare 43 = .ok (.iload_n 2, 1) := by decide +kernel
theorem dX0_compare_44 : decode cX0_compare 44 = .ok (.putfield 15, 3) := by decide +kernel
theorem dX0_compare_47 : decode cX0_compare 47 = .ok (.aload_n 0, 1) := by decide +kernel
theorem dX0_compare_48 : decode cX0_compare 48 = .ok (.iload_n 3, 1) := by decide +kernel
theorem dX0_compare_49 : decode cX0_compare 49 = .ok (.putfield 18, 3) := by decide +kernel
theorem dX0_compare_52 : decode cX0_compare 52 = .ok (.return_, 1) := by decide +kernel
theorem dX1_init_0 : decode cX1_init 0 = .ok (.aload_n 0, 1) := by decide +kernel
theorem dX1_init_1 : decode cX1_init 1 = .ok (.invokespecial 3, 3) := by decide +kernel
theorem dX1_init_4 : decode cX1_init 4 = .ok (.aload_n 0, 1) := by decide +kernel
theorem dX1_init_5 : decode cX1_init 5 = .ok (.iconst 0, 1) := by decide +kernel
theorem dX1_init_6 : decode cX1_init 6 = .ok (.putfield 9, 3) := by decide +kernel
theorem dX1_init_9 : decode cX1_init 9 = .ok (.aload_n 0, 1) := by decide +kernel
theorem dX1_init_10 : decode cX1_init 10 = .ok (.sipush 241, 3) := by decide +kernel
theorem dX1_init_13 : decode cX1_init 13 = .ok (.newarray .int, 2) := by decide +kernel
theorem dX1_init_15 : decode cX1_init 15 = .ok (.putfield 15, 3) := by decide +kernel
theorem dX1_init_18 : decode cX1_init 18 = .ok (.aload_n 0, 1) := by decide +kernel
theorem dX1_init_19 : decode cX1_init 19 = .ok (.sipush 241, 3) := by decide +kernel
theorem dX1_init_22 : decode cX1_init 22 = .ok (.newarray .int, 2) := by decide +kernel
theorem dX1_init_24 : decode cX1_init 24 = .ok (.putfield 19, 3) := by decide +kernel
theorem dX1_init_27 : decode cX1_init 27 = .ok (.return_, 1) := by decide +kernel
theorem dX1_find_0 : decode cX1_find 0 = .ok (.aload_n 0, 1) := by decide +kernel
theorem dX1_find_1 : decode cX1_find 1 = .ok (.iconst 0, 1) := by decide +kernel
theorem dX1_find_2 : decode cX1_find 2 = .ok (.putfield 9, 3) := by decide +kernel
theorem dX1_find_5 : decode cX1_find 5 = .ok (.aload_n 0, 1) := by decide +kernel
theorem dX1_find_6 : decode cX1_find 6 = .ok (.aload_n 2, 1) := by decide +kernel
theorem dX1_find_7 : decode cX1_find 7 = .ok (.aload_n 1, 1) := by decide +kernel
theorem dX1_find_8 : decode cX1_find 8 = .ok (.getfield 22, 3) := by decide +kernel
theorem dX1_find_11 : decode cX1_find 11 = .ok (.invokevirtual 28, 3) := by decide +kernel
theorem dX1_find_14 : decode cX1_find 14 = .ok (.aload_n 0, 1) := by decide +kernel
theorem dX1_find_15 : decode cX1_find 15 = .ok (.aload_n 2, 1) := by decide +kernel
theorem dX1_find_16 : decode cX1_find 16 = .ok (.aload_n 3, 1) := by decide +kernel
theorem dX1_find_17 : decode cX1_find 17 = .ok (.invokevirtual 32, 3) := by decide +kernel
theorem dX1_find_20 : decode cX1_find 20 = .ok (.aload_n 0, 1) := by decide +kernel
theorem dX1_find_21 : decode cX1_find 21 = .ok (.aload_n 2, 1) := by decide +kernel
theorem dX1_find_22 : decode cX1_find 22 = .ok (.aload_n 1, 1) := by decide +kernel
theorem dX1_find_23 : decode cX1_find 23 = .ok (.getfield 22, 3) := by decide +kernel
theorem dX1_find_26 : decode cX1_find 26 = .ok (.iconst 3, 1) := by decide +kernel
theorem dX1_find_27 : decode cX1_find 27 = .ok (.invokevirtual 36, 3) := by decide +kernel
theorem dX1_find_30 : decode cX1_find 30 = .ok (.invokevirtual 42, 3) := by decide +kernel
theorem dX1_find_33 : decode cX1_find 33 = .ok (.aload_n 0, 1) := by decide +kernel
theorem dX1_find_34 : decode cX1_find 34 = .ok (.aload_n 2, 1) := by decide +kernel
theorem dX1_find_35 : decode cX1_find 35 = .ok (.aload_n 1, 1) := by decide +kernel
theorem dX1_find_36 : decode cX1_find 36 = .ok (.getfield 22, 3) := by decide +kernel
theorem dX1_find_39 : decode cX1_find 39 = .ok (.invokevirtual 46, 3) := by decide +kernel
theorem dX1_find_42 : decode cX1_find 42 = .ok (.aload_n 2, 1) := by decide +kernel
theorem dX1_find_43 : decode cX1_find 43 = .ok (.getfield 49, 3) := by decide +kernel
theorem dX1_find_46 : decode cX1_find 46 = .ok (.aload_n 3, 1) := by decide +kernel
theorem dX1_find_47 : decode cX1_find 47 = .ok (.getfield 54, 3) := by decide +kernel
theorem dX1_find_50 : decode cX1_find 50 = .ok (.isub, 1) := by decide +kernel
theorem dX1_find_51 : decode cX1_find 51 = .ok (.invokestatic 57, 3) := by decide +kernel
theorem dX1_find_54 : decode cX1_find 54 = .ok (.aload_n 1, 1) := by decide +kernel
theorem dX1_find_55 : decode cX1_find 55 = .ok (.getfield 22, 3) := by decide +kernel
theorem dX1_find_58 : decode cX1_find 58 = .ok (.iconst 4, 1) := by decide +kernel
theorem dX1_find_59 : decode cX1_find 59 = .ok (.invokevirtual 36, 3) := by decide +kernel
theorem dX1_find_62 : decode cX1_find 62 = .ok (.if_icmp .le 9, 3) := by decide +kernel
theorem dX1_find_65 : decode cX1_find 65 = .ok (.aload_n 0, 1) := by decide +kernel
theorem dX1_find_66 : decode cX1_find 66 = .ok (.iconst 5, 1) := by decide +kernel
theorem dX1_find_67 : decode cX1_find 67 = .ok (.iconst (-1), 1) := by decide +kernel
theorem dX1_find_68 : decode cX1_find 68 = .ok (.invokevirtual 62, 3) := by decide +kernel
theorem dX1_find_71 : decode cX1_find 71 = .ok (.return_, 1) := by decide +kernel
theorem dX1_findBanned_0 : decode cX1_findBanned 0 = .ok (.aload_n 2, 1) := by decide +kernel
theorem dX1_findBanned_1 : decode cX1_findBanned 1 = .ok (.aload_n 2, 1) := by decide +kernel
theorem dX1_findBanned_2 : decode cX1_findBanned 2 = .ok (.iconst 0, 1) := by decide +kernel
theorem dX1_findBanned_3 : decode cX1_findBanned 3 = .ok (.invokevirtual 36, 3) := by decide +kernel
theorem dX1_findBanned_6 : decode cX1_findBanned 6 = .ok (.invokevirtual 66, 3) := by decide +kernel
theorem dX1_findBanned_9 : decode cX1_findBanned 9 = .ok (.istore_n 3, 1) := by decide +kernel
theorem dX1_findBanned_10 : decode cX1_findBanned 10 = .ok (.iconst 0, 1) := by decide +kernel
theorem dX1_findBanned_11 : decode cX1_findBanned 11 = .ok (.istore 4, 2) := by decide +kernel
theorem dX1_findBanned_13 : decode cX1_findBanned 13 = .ok (.iload 4, 2) := by decide +kernel
theorem dX1_findBanned_15 : decode cX1_findBanned 15 = .ok (.aload_n 1, 1) := by decide +kernel
theorem dX1_findBanned_16 : decode cX1_findBanned 16 = .ok (.getfield 69, 3) := by decide +kernel
theorem dX1_findBanned_19 : decode cX1_findBanned 19 = .ok (.if_icmp .ge 40, 3) := by decide +kernel
theorem dX1_findBanned_22 : decode cX1_findBanned 22 = .ok (.aload_n 1, 1) := by decide +kernel
theorem dX1_findBanned_23 : decode cX1_findBanned 23 = .ok (.getfield 70, 3) := by decide +kernel
theorem dX1_findBanned_26 : decode cX1_findBanned 26 = .ok (.iload 4, 2) := by decide +kernel
theorem dX1_findBanned_28 : decode cX1_findBanned 28 = .ok (.iaload, 1) := by decide +kernel
theorem dX1_findBanned_29 : decode cX1_findBanned 29 = .ok (.ifCond .ne 24, 3) := by decide +kernel
theorem dX1_findBanned_32 : decode cX1_findBanned 32 = .ok (.iload_n 3, 1) := by decide +kernel
theorem dX1_findBanned_33 : decode cX1_findBanned 33 = .ok (.aload_n 1, 1) := by decide +kernel
theorem dX1_findBanned_34 : decode cX1_findBanned 34 = .ok (.getfield 71, 3) := by decide +kernel
theorem dX1_findBanned_37 : decode cX1_findBanned 37 = .ok (.iload 4, 2) := by decide +kernel
theorem dX1_findBanned_39 : decode cX1_findBanned 39 = .ok (.iaload, 1) := by decide +kernel
theorem dX1_findBanned_40 : decode cX1_findBanned 40 = .ok (.ishr, 1) := by decide +kernel
theorem dX1_findBanned_41 : decode cX1_findBanned 41 = .ok (.iconst 1, 1) := by decide +kernel
theorem dX1_findBanned_42 : decode cX1_findBanned 42 = .ok (.iand, 1) := by decide +kernel
theorem dX1_findBanned_43 : decode cX1_findBanned 43 = .ok (.ifCond .ne 10, 3) := by decide +kernel
theorem dX1_findBanned_46 : decode cX1_findBanned 46 = .ok (.aload_n 0, 1) := by decide +kernel
theorem dX1_findBanned_47 : decode cX1_findBanned 47 = .ok (.iconst 1, 1) := by decide +kernel
theorem dX1_findBanned_48 : decode cX1_findBanned 48 = .ok (.iload 4, 2) := by decide +kernel
theorem dX1_findBanned_50 : decode cX1_findBanned 50 = .ok (.invokevirtual 62, 3) := by decide +kernel
theorem dX1_findBanned_53 : decode cX1_findBanned 53 = .ok (.iinc 4 1, 3) := by decide +kernel
theorem dX1_findBanned_56 : decode cX1_findBanned 56 = .ok (.goto (-43), 3) := by decide +kernel
theorem dX1_findBanned_59 : decode cX1_findBanned 59 = .ok (.return_, 1) := by decide +kernel
theorem dX1_findUnseenNames_0 : decode cX1_findUnseenNames 0 = .ok (.iconst 0, 1) := by decide +kernel
theorem dX1_findUnseenNames_1 : decode cX1_findUnseenNames 1 = .ok (.istore_n 3, 1) := by decide +kernel
theorem dX1_findUnseenNames_2 : decode cX1_findUnseenNames 2 = .ok (.iload_n 3, 1) := by decide +kernel
theorem dX1_findUnseenNames_3 : decode cX1_findUnseenNames 3 = .ok (.aload_n 2, 1) := by decide +kernel
theorem dX1_findUnseenNames_4 : decode cX1_findUnseenNames 4 = .ok (.getfield 74, 3) := by decide +kernel
theorem dX1_findUnseenNames_7 : decode cX1_findUnseenNames 7 = .ok (.if_icmp .ge 44, 3) := by decide +kernel
theorem dX1_findUnseenNames_10 : decode cX1_findUnseenNames 10 = .ok (.aload_n 2, 1) := by decide +kernel
theorem dX1_findUnseenNames_11 : decode cX1_findUnseenNames 11 = .ok (.getfield 75, 3) := by decide +kernel
theorem dX1_findUnseenNames_14 : decode cX1_findUnseenNames 14 = .ok (.iload_n 3, 1) := by decide +kernel
theorem dX1_findUnseenNames_15 : decode cX1_findUnseenNames 15 = .ok (.iaload, 1) := by decide +kernel
theorem dX1_findUnseenNames_16 : decode cX1_findUnseenNames 16 = .ok (.istore 4, 2) := by decide +kernel
theorem dX1_findUnseenNames_18 : decode cX1_findUnseenNames 18 = .ok (.iload 4, 2) := by decide +kernel
theorem dX1_findUnseenNames_20 : decode cX1_findUnseenNames 20 = .ok (.iconst (-1), 1) := by decide +kernel
theorem dX1_findUnseenNames_21 : decode cX1_findUnseenNames 21 = .ok (.if_icmp .eq 24, 3) := by decide +kernel
theorem dX1_findUnseenNames_24 : decode cX1_findUnseenNames 24 = .ok (.aload_n 1, 1) := by decide +kernel
theorem dX1_findUnseenNames_25 : decode cX1_findUnseenNames 25 = .ok (.iload 4, 2) := by decide +kernel
theorem dX1_findUnseenNames_27 : decode cX1_findUnseenNames 27 = .ok (.aload_n 2, 1) := by decide +kernel
theorem dX1_findUnseenNames_28 : decode cX1_findUnseenNames 28 = .ok (.getfield 78, 3) := by decide +kernel
theorem dX1_findUnseenNames_31 : decode cX1_findUnseenNames 31 = .ok (.iload_n 3, 1) := by decide +kernel
theorem dX1_findUnseenNames_32 : decode cX1_findUnseenNames 32 = .ok (.iaload, 1) := by decide +kernel
theorem dX1_findUnseenNames_33 : decode cX1_findUnseenNames 33 = .ok (.invokevirtual 81, 3) := by decide +kernel
theorem dX1_findUnseenNames_36 : decode cX1_findUnseenNames 36 = .ok (.ifCond .ne 9, 3) := by decide +kernel
theorem dX1_findUnseenNames_39 : decode cX1_findUnseenNames 39 = .ok (.aload_n 0, 1) := by decide +kernel
theorem dX1_findUnseenNames_40 : decode cX1_findUnseenNames 40 = .ok (.iconst 2, 1) := by decide +kernel
theorem dX1_findUnseenNames_41 : decode cX1_findUnseenNames 41 = .ok (.iload_n 3, 1) := by decide +kernel
theorem dX1_findUnseenNames_42 : decode cX1_findUnseenNames 42 = .ok (.invokevirtual 62, 3) := by decide +kernel
theorem dX1_findUnseenNames_45 : decode cX1_findUnseenNames 45 = .ok (.iinc 3 1, 3) := by decide +kernel
theorem dX1_findUnseenNames_48 : decode cX1_findUnseenNames 48 = .ok (.goto (-46), 3) := by decide +kernel
theorem dX1_findUnseenNames_51 : decode cX1_findUnseenNames 51 = .ok (.return_, 1) := by decide +kernel
theorem dX1_findShort_0 : decode cX1_findShort 0 = .ok (.iconst 0, 1) := by decide +kernel
theorem dX1_findShort_1 : decode cX1_findShort 1 = .ok (.istore_n 3, 1) := by decide +kernel
theorem dX1_findShort_2 : decode cX1_findShort 2 = .ok (.iload_n 3, 1) := by decide +kernel
theorem dX1_findShort_3 : decode cX1_findShort 3 = .ok (.aload_n 1, 1) := by decide +kernel
theorem dX1_findShort_4 : decode cX1_findShort 4 = .ok (.getfield 69, 3) := by decide +kernel
theorem dX1_findShort_7 : decode cX1_findShort 7 = .ok (.if_icmp .ge 25, 3) := by decide +kernel
theorem dX1_findShort_10 : decode cX1_findShort 10 = .ok (.aload_n 1, 1) := by decide +kernel
theorem dX1_findShort_11 : decode cX1_findShort 11 = .ok (.getfield 85, 3) := by decide +kernel
theorem dX1_findShort_14 : decode cX1_findShort 14 = .ok (.iload_n 3, 1) := by decide +kernel
theorem dX1_findShort_15 : decode cX1_findShort 15 = .ok (.iaload, 1) := by decide +kernel
theorem dX1_findShort_16 : decode cX1_findShort 16 = .ok (.iload_n 2, 1) := by decide +kernel
theorem dX1_findShort_17 : decode cX1_findShort 17 = .ok (.if_icmp .ge 9, 3) := by decide +kernel
theorem dX1_findShort_20 : decode cX1_findShort 20 = .ok (.aload_n 0, 1) := by decide +kernel
theorem dX1_findShort_21 : decode cX1_findShort 21 = .ok (.iconst 3, 1) := by decide +kernel
theorem dX1_findShort_22 : decode cX1_findShort 22 = .ok (.iload_n 3, 1) := by decide +kernel
theorem dX1_findShort_23 : decode cX1_findShort 23 = .ok (.invokevirtual 62, 3) := by decide +kernel
theorem dX1_findShort_26 : decode cX1_findShort 26 = .ok (.iinc 3 1, 3) := by decide +kernel
theorem dX1_findShort_29 : decode cX1_findShort 29 = .ok (.goto (-27), 3) := by decide +kernel
theorem dX1_findShort_32 : decode cX1_findShort 32 = .ok (.return_, 1) := by decide +kernel
theorem dX1_findSameCamera_0 : decode cX1_findSameCamera 0 = .ok (.iconst 1, 1) := by decide +kernel
theorem dX1_findSameCamera_1 : decode cX1_findSameCamera 1 = .ok (.istore_n 3, 1) := by decide +kernel
theorem dX1_findSameCamera_2 : decode cX1_findSameCamera 2 = .ok (.iload_n 3, 1) := by decide +kernel
theorem dX1_findSameCamera_3 : decode cX1_findSameCamera 3 = .ok (.aload_n 1, 1) := by decide +kernel
theorem dX1_findSameCamera_4 : decode cX1_findSameCamera 4 = .ok (.getfield 69, 3) := by decide +kernel
theorem dX1_findSameCamera_7 : decode cX1_findSameCamera 7 = .ok (.if_icmp .ge 42, 3) := by decide +kernel
theorem dX1_findSameCamera_10 : decode cX1_findSameCamera 10 = .ok (.aload_n 1, 1) := by decide +kernel
theorem dX1_findSameCamera_11 : decode cX1_findSameCamera 11 = .ok (.iload_n 3, 1) := by decide +kernel
theorem dX1_findSameCamera_12 : decode cX1_findSameCamera 12 = .ok (.aload_n 2, 1) := by decide +kernel
theorem dX1_findSameCamera_13 : decode cX1_findSameCamera 13 = .ok (.invokevirtual 88, 3) := by decide +kernel
theorem dX1_findSameCamera_16 : decode cX1_findSameCamera 16 = .ok (.istore 4, 2) := by decide +kernel
theorem dX1_findSameCamera_18 : decode cX1_findSameCamera 18 = .ok (.iload 4, 2) := by decide +kernel
theorem dX1_findSameCamera_20 : decode cX1_findSameCamera 20 = .ok (.iconst (-1), 1) := by decide +kernel
theorem dX1_findSameCamera_21 : decode cX1_findSameCamera 21 = .ok (.if_icmp .eq 22, 3) := by decide +kernel
theorem dX1_findSameCamera_24 : decode cX1_findSameCamera 24 = .ok (.iload 4, 2) := by decide +kernel
theorem dX1_findSameCamera_26 : decode cX1_findSameCamera 26 = .ok (.aload_n 1, 1) := by decide +kernel
theorem dX1_findSameCamera_27 : decode cX1_findSameCamera 27 = .ok (.iload_n 3, 1) := by decide +kernel
theorem dX1_findSameCamera_28 : decode cX1_findSameCamera 28 = .ok (.iconst 1, 1) := by decide +kernel
theorem dX1_findSameCamera_29 : decode cX1_findSameCamera 29 = .ok (.isub, 1) := by decide +kernel
theorem dX1_findSameCamera_30 : decode cX1_findSameCamera 30 = .ok (.aload_n 2, 1) := by decide +kernel
theorem dX1_findSameCamera_31 : decode cX1_findSameCamera 31 = .ok (.invokevirtual 88, 3) := by decide +kernel
theorem dX1_findSameCamera_34 : decode cX1_findSameCamera 34 = .ok (.if_icmp .ne 9, 3) := by decide +kernel
theorem dX1_findSameCamera_37 : decode cX1_findSameCamera 37 = .ok (.aload_n 0, 1) := by decide +kernel
theorem dX1_findSameCamera_38 : decode cX1_findSameCamera 38 = .ok (.iconst 4, 1) := by decide +kernel
theorem dX1_findSameCamera_39 : decode cX1_findSameCamera 39 = .ok (.iload_n 3, 1) := by decide +kernel
theorem dX1_findSameCamera_40 : decode cX1_findSameCamera 40 = .ok (.invokevirtual 62, 3) := by decide +kernel
theorem dX1_findSameCamera_43 : decode cX1_findSameCamera 43 = .ok (.iinc 3 1, 3) := by decide +kernel
theorem dX1_findSameCamera_46 : decode cX1_findSameCamera 46 = .ok (.goto (-44), 3) := by decide +kernel
theorem dX1_findSameCamera_49 : decode cX1_findSameCamera 49 = .ok (.return_, 1) := by decide +kernel
theorem dX1_add_0 : decode cX1_add 0 = .ok (.aload_n 0, 1) := by decide +kernel
theorem dX1_add_1 : decode cX1_add 1 = .ok (.getfield 9, 3) := by decide +kernel
theorem dX1_add_4 : decode cX1_add 4 = .ok (.sipush 241, 3) := by decide +kernel
theorem dX1_add_7 : decode cX1_add 7 = .ok (.if_icmp .ge 33, 3) := by decide +kernel
theorem dX1_add_10 : decode cX1_add 10 = .ok (.aload_n 0, 1) := by decide +kernel
theorem dX1_add_11 : decode cX1_add 11 = .ok (.getfield 15, 3) := by decide +kernel
theorem dX1_add_14 : decode cX1_add 14 = .ok (.aload_n 0, 1) := by decide +kernel
theorem dX1_add_15 : decode cX1_add 15 = .ok (.getfield 9, 3) := by decide +kernel
theorem dX1_add_18 : decode cX1_add 18 = .ok (.iload_n 1, 1) := by decide +kernel
theorem dX1_add_19 : decode cX1_add 19 = .ok (.iastore, 1) := by decide +kernel
theorem dX1_add_20 : decode cX1_add 20 = .ok (.aload_n 0, 1) := by decide +kernel
theorem dX1_add_21 : decode cX1_add 21 = .ok (.getfield 19, 3) := by decide +kernel
theorem dX1_add_24 : decode cX1_add 24 = .ok (.aload_n 0, 1) := by decide +kernel
theorem dX1_add_25 : decode cX1_add 25 = .ok (.getfield 9, 3) := by decide +kernel
theorem dX1_add_28 : decode cX1_add 28 = .ok (.iload_n 2, 1) := by decide +kernel
theorem dX1_add_29 : decode cX1_add 29 = .ok (.iastore, 1) := by decide +kernel
theorem dX1_add_30 : decode cX1_add 30 = .ok (.aload_n 0, 1) := by decide +kernel
theorem dX1_add_31 : decode cX1_add 31 = .ok (.dup, 1) := by decide +kernel
theorem dX1_add_32 : decode cX1_add 32 = .ok (.getfield 9, 3) := by decide +kernel
theorem dX1_add_35 : decode cX1_add 35 = .ok (.iconst 1, 1) := by decide +kernel
theorem dX1_add_36 : decode cX1_add 36 = .ok (.iadd, 1) := by decide +kernel
theorem dX1_add_37 : decode cX1_add 37 = .ok (.putfield 9, 3) := by decide +kernel
theorem dX1_add_40 : decode cX1_add 40 = .ok (.return_, 1) := by decide +kernel
theorem dX1_countOf_0 : decode cX1_countOf 0 = .ok (.iconst 0, 1) := by decide +kernel
theorem dX1_countOf_1 : decode cX1_countOf 1 = .ok (.istore_n 2, 1) := by decide +kernel
theorem dX1_countOf_2 : decode cX1_countOf 2 = .ok (.iconst 0, 1) := by decide +kernel
theorem dX1_countOf_3 : decode cX1_countOf 3 = .ok (.istore_n 3, 1) := by decide +kernel
theorem dX1_countOf_4 : decode cX1_countOf 4 = .ok (.iload_n 3, 1) := by decide +kernel
theorem dX1_countOf_5 : decode cX1_countOf 5 = .ok (.aload_n 0, 1) := by decide +kernel
theorem dX1_countOf_6 : decode cX1_countOf 6 = .ok (.getfield 9, 3) := by decide +kernel
theorem dX1_countOf_9 : decode cX1_countOf 9 = .ok (.if_icmp .ge 22, 3) := by decide +kernel
theorem dX1_countOf_12 : decode cX1_countOf 12 = .ok (.aload_n 0, 1) := by decide +kernel
theorem dX1_countOf_13 : decode cX1_countOf 13 = .ok (.getfield 15, 3) := by decide +kernel
theorem dX1_countOf_16 : decode cX1_countOf 16 = .ok (.iload_n 3, 1) := by decide +kernel
theorem dX1_countOf_17 : decode cX1_countOf 17 = .ok (.iaload, 1) := by decide +kernel
theorem dX1_countOf_18 : decode cX1_countOf 18 = .ok (.iload_n 1, 1) := by decide +kernel
theorem dX1_countOf_19 : decode cX1_countOf 19 = .ok (.if_icmp .ne 6, 3) := by decide +kernel
theorem dX1_countOf_22 : decode cX1_countOf 22 = .ok (.iinc 2 1, 3) := by decide +kernel
theorem dX1_countOf_25 : decode cX1_countOf 25 = .ok (.iinc 3 1, 3) := by decide +kernel
theorem dX1_countOf_28 : decode cX1_countOf 28 = .ok (.goto (-24), 3) := by decide +kernel
theorem dX1_countOf_31 : decode cX1_countOf 31 = .ok (.iload_n 2, 1) := by decide +kernel
theorem dX1_countOf_32 : decode cX1_countOf 32 = .ok (.ireturn, 1) := by decide +kernel
theorem dX2_init_0 : decode cX2_init 0 = .ok (.aload_n 0, 1) := by decide +kernel
theorem dX2_init_1 : decode cX2_init 1 = .ok (.invokespecial 3, 3) := by decide +kernel
theorem dX2_init_4 : decode cX2_init 4 = .ok (.aload_n 0, 1) := by decide +kernel
theorem dX2_init_5 : decode cX2_init 5 = .ok (.iconst 0, 1) := by decide +kernel
theorem dX2_init_6 : decode cX2_init 6 = .ok (.putfield 9, 3) := by decide +kernel
theorem dX2_init_9 : decode cX2_init 9 = .ok (.aload_n 0, 1) := by decide +kernel
theorem dX2_init_10 : decode cX2_init 10 = .ok (.bipush 30, 2) := by decide +kernel
theorem dX2_init_12 : decode cX2_init 12 = .ok (.newarray .int, 2) := by decide +kernel
theorem dX2_init_14 : decode cX2_init 14 = .ok (.putfield 15, 3) := by decide +kernel
theorem dX2_init_17 : decode cX2_init 17 = .ok (.aload_n 0, 1) := by decide +kernel
theorem dX2_init_18 : decode cX2_init 18 = .ok (.bipush 30, 2) := by decide +kernel
theorem dX2_init_20 : decode cX2_init 20 = .ok (.newarray .int, 2) := by decide +kernel
theorem dX2_init_22 : decode cX2_init 22 = .ok (.putfield 19, 3) := by decide +kernel
theorem dX2_init_25 : decode cX2_init 25 = .ok (.aload_n 0, 1) := by decide +kernel
theorem dX2_init_26 : decode cX2_init 26 = .ok (.bipush 30, 2) := by decide +kernel
theorem dX2_init_28 : decode cX2_init 28 = .ok (.newarray .int, 2) := by decide +kernel
theorem dX2_init_30 : decode cX2_init 30 = .ok (.putfield 22, 3) := by decide +kernel
theorem dX2_init_33 : decode cX2_init 33 = .ok (.aload_n 0, 1) := by decide +kernel
theorem dX2_init_34 : decode cX2_init 34 = .ok (.bipush 30, 2) := by decide +kernel
theorem dX2_init_36 : decode cX2_init 36 = .ok (.newarray .int, 2) := by decide +kernel
theorem dX2_init_38 : decode cX2_init 38 = .ok (.putfield 25, 3) := by decide +kernel
theorem dX2_init_41 : decode cX2_init 41 = .ok (.aload_n 0, 1) := by decide +kernel
theorem dX2_init_42 : decode cX2_init 42 = .ok (.bipush 30, 2) := by decide +kernel
theorem dX2_init_44 : decode cX2_init 44 = .ok (.newarray .int, 2) := by decide +kernel
theorem dX2_init_46 : decode cX2_init 46 = .ok (.putfield 28, 3) := by decide +kernel
theorem dX2_init_49 : decode cX2_init 49 = .ok (.aload_n 0, 1) := by decide +kernel
theorem dX2_init_50 : decode cX2_init 50 = .ok (.iconst 5, 1) := by decide +kernel
theorem dX2_init_51 : decode cX2_init 51 = .ok (.newarray .int, 2) := by decide +kernel
theorem dX2_init_53 : decode cX2_init 53 = .ok (.putfield 31, 3) := by decide +kernel
theorem dX2_init_56 : decode cX2_init 56 = .ok (.return_, 1) := by decide +kernel
theorem dX2_clear_0 : decode cX2_clear 0 = .ok (.aload_n 0, 1) := by decide +kernel
theorem dX2_clear_1 : decode cX2_clear 1 = .ok (.iconst 0, 1) := by decide +kernel
theorem dX2_clear_2 : decode cX2_clear 2 = .ok (.putfield 9, 3) := by decide +kernel
theorem dX2_clear_5 : decode cX2_clear 5 = .ok (.return_, 1) := by decide +kernel
theorem dX2_copyFrom_0 : decode cX2_copyFrom 0 = .ok (.aload_n 0, 1) := by decide +kernel
theorem dX2_copyFrom_1 : decode cX2_copyFrom 1 = .ok (.aload_n 1, 1) := by decide +kernel
theorem dX2_copyFrom_2 : decode cX2_copyFrom 2 = .ok (.getfield 9, 3) := by decide +kernel
theorem dX2_copyFrom_5 : decode cX2_copyFrom 5 = .ok (.putfield 9, 3) := by decide +kernel
theorem dX2_copyFrom_8 : decode cX2_copyFrom 8 = .ok (.aload_n 1, 1) := by decide +kernel
theorem dX2_copyFrom_9 : decode cX2_copyFrom 9 = .ok (.getfield 15, 3) := by decide +kernel
theorem dX2_copyFrom_12 : decode cX2_copyFrom 12 = .ok (.iconst 0, 1) := by decide +kernel
theorem dX2_copyFrom_13 : decode cX2_copyFrom 13 = .ok (.aload_n 0, 1) := by decide +kernel
theorem dX2_copyFrom_14 : decode cX2_copyFrom 14 = .ok (.getfield 15, 3) := by decide +kernel
theorem dX2_copyFrom_17 : decode cX2_copyFrom 17 = .ok (.iconst 0, 1) := by decide +kernel
theorem dX2_copyFrom_18 : decode cX2_copyFrom 18 = .ok (.bipush 30, 2) := by decide +kernel
theorem dX2_copyFrom_20 : decode cX2_copyFrom 20 = .ok (.invokestatic 34, 3) := by decide +kernel
theorem dX2_copyFrom_23 : decode cX2_copyFrom 23 = .ok (.aload_n 1, 1) := by decide +kernel
theorem dX2_copyFrom_24 : decode cX2_copyFrom 24 = .ok (.getfield 19, 3) := by decide +kernel
theorem dX2_copyFrom_27 : decode cX2_copyFrom 27 = .ok (.iconst 0, 1) := by decide +kernel
theorem dX2_copyFrom_28 : decode cX2_copyFrom 28 = .ok (.aload_n 0, 1) := by decide +kernel
theorem dX2_copyFrom_29 : decode cX2_copyFrom 29 = .ok (.getfield 19, 3) := by decide +kernel
theorem dX2_copyFrom_32 : decode cX2_copyFrom 32 = .ok (.iconst 0, 1) := by decide +kernel
theorem dX2_copyFrom_33 : decode cX2_copyFrom 33 = .ok (.bipush 30, 2) := by decide +kernel
theorem dX2_copyFrom_35 : decode cX2_copyFrom 35 = .ok (.invokestatic 34, 3) := by decide +kernel
theorem dX2_copyFrom_38 : decode cX2_copyFrom 38 = .ok (.aload_n 1, 1) := by decide +kernel
theorem dX2_copyFrom_39 : decode cX2_copyFrom 39 = .ok (.getfield 22, 3) := by decide +kernel
theorem dX2_copyFrom_42 : decode cX2_copyFrom 42 = .ok (.iconst 0, 1) := by decide +kernel
theorem dX2_copyFrom_43 : decode cX2_copyFrom 43 = .ok (.aload_n 0, 1) := by decide +kernel
theorem dX2_copyFrom_44 : decode cX2_copyFrom 44 = .ok (.getfield 22, 3) := by decide +kernel
theorem dX2_copyFrom_47 : decode cX2_copyFrom 47 = .ok (.iconst 0, 1) := by decide +kernel
theorem dX2_copyFrom_48 : decode cX2_copyFrom 48 = .ok (.bipush 30, 2) := by decide +kernel
theorem dX2_copyFrom_50 : decode cX2_copyFrom 50 = .ok (.invokestatic 34, 3) := by decide +kernel
theorem dX2_copyFrom_53 : decode cX2_copyFrom 53 = .ok (.aload_n 1, 1) := by decide +kernel
theorem dX2_copyFrom_54 : decode cX2_copyFrom 54 = .ok (.getfield 25, 3) := by decide +kernel
theorem dX2_copyFrom_57 : decode cX2_copyFrom 57 = .ok (.iconst 0, 1) := by decide +kernel
theorem dX2_copyFrom_58 : decode cX2_copyFrom 58 = .ok (.aload_n 0, 1) := by decide +kernel
theorem dX2_copyFrom_59 : decode cX2_copyFrom 59 = .ok (.getfield 25, 3) := by decide +kernel
theorem dX2_copyFrom_62 : decode cX2_copyFrom 62 = .ok (.iconst 0, 1) := by decide +kernel
theorem dX2_copyFrom_63 : decode cX2_copyFrom 63 = .ok (.bipush 30, 2) := by decide +kernel
theorem dX2_copyFrom_65 : decode cX2_copyFrom 65 = .ok (.invokestatic 34, 3) := by decide +kernel
theorem dX2_copyFrom_68 : decode cX2_copyFrom 68 = .ok (.aload_n 1, 1) := by decide +kernel
theorem dX2_copyFrom_69 : decode cX2_copyFrom 69 = .ok (.getfield 28, 3) := by decide +kernel
theorem dX2_copyFrom_72 : decode cX2_copyFrom 72 = .ok (.iconst 0, 1) := by decide +kernel
theorem dX2_copyFrom_73 : decode cX2_copyFrom 73 = .ok (.aload_n 0, 1) := by decide +kernel
theorem dX2_copyFrom_74 : decode cX2_copyFrom 74 = .ok (.getfield 28, 3) := by decide +kernel
theorem dX2_copyFrom_77 : decode cX2_copyFrom 77 = .ok (.iconst 0, 1) := by decide +kernel
theorem dX2_copyFrom_78 : decode cX2_copyFrom 78 = .ok (.bipush 30, 2) := by decide +kernel
theorem dX2_copyFrom_80 : decode cX2_copyFrom 80 = .ok (.invokestatic 34, 3) := by decide +kernel
theorem dX2_copyFrom_83 : decode cX2_copyFrom 83 = .ok (.return_, 1) := by decide +kernel
theorem dX2_add_0 : decode cX2_add 0 = .ok (.aload_n 0, 1) := by decide +kernel
theorem dX2_add_1 : decode cX2_add 1 = .ok (.getfield 9, 3) := by decide +kernel
theorem dX2_add_4 : decode cX2_add 4 = .ok (.bipush 30, 2) := by decide +kernel
theorem dX2_add_6 : decode cX2_add 6 = .ok (.if_icmp .lt 4, 3) := by decide +kernel
theorem dX2_add_9 : decode cX2_add 9 = .ok (.return_, 1) := by decide +kernel
theorem dX2_add_10 : decode cX2_add 10 = .ok (.aload_n 0, 1) := by decide +kernel
theorem dX2_add_11 : decode cX2_add 11 = .ok (.getfield 15, 3) := by decide +kernel
theorem dX2_add_14 : decode cX2_add 14 = .ok (.aload_n 0, 1) := by decide +kernel
theorem dX2_add_15 : decode cX2_add 15 = .ok (.getfield 9, 3) := by decide +kernel
theorem dX2_add_18 : decode cX2_add 18 = .ok (.iload_n 1, 1) := by decide +kernel
theorem dX2_add_19 : decode cX2_add 19 = .ok (.iastore, 1) := by decide +kernel
theorem dX2_add_20 : decode cX2_add 20 = .ok (.aload_n 0, 1) := by decide +kernel
theorem dX2_add_21 : decode cX2_add 21 = .ok (.getfield 19, 3) := by decide +kernel
theorem dX2_add_24 : decode cX2_add 24 = .ok (.aload_n 0, 1) := by decide +kernel
theorem dX2_add_25 : decode cX2_add 25 = .ok (.getfield 9, 3) := by decide +kernel
theorem dX2_add_28 : decode cX2_add 28 = .ok (.iload_n 2, 1) := by decide +kernel
theorem dX2_add_29 : decode cX2_add 29 = .ok (.iastore, 1) := by decide +kernel
theorem dX2_add_30 : decode cX2_add 30 = .ok (.aload_n 0, 1) := by decide +kernel
theorem dX2_add_31 : decode cX2_add 31 = .ok (.getfield 22, 3) := by decide +kernel
theorem dX2_add_34 : decode cX2_add 34 = .ok (.aload_n 0, 1) := by decide +kernel
theorem dX2_add_35 : decode cX2_add 35 = .ok (.getfield 9, 3) := by decide +kernel
theorem dX2_add_38 : decode cX2_add 38 = .ok (.iload_n 3, 1) := by decide +kernel
theorem dX2_add_39 : decode cX2_add 39 = .ok (.iastore, 1) := by decide +kernel
theorem dX2_add_40 : decode cX2_add 40 = .ok (.aload_n 0, 1) := by decide +kernel
theorem dX2_add_41 : decode cX2_add 41 = .ok (.getfield 25, 3) := by decide +kernel
theorem dX2_add_44 : decode cX2_add 44 = .ok (.aload_n 0, 1) := by decide +kernel
theorem dX2_add_45 : decode cX2_add 45 = .ok (.getfield 9, 3) := by decide +kernel
theorem dX2_add_48 : decode cX2_add 48 = .ok (.iload 4, 2) := by decide +kernel
theorem dX2_add_50 : decode cX2_add 50 = .ok (.iastore, 1) := by decide +kernel
theorem dX2_add_51 : decode cX2_add 51 = .ok (.aload_n 0, 1) := by decide +kernel
theorem dX2_add_52 : decode cX2_add 52 = .ok (.getfield 28, 3) := by decide +kernel
theorem dX2_add_55 : decode cX2_add 55 = .ok (.aload_n 0, 1) := by decide +kernel
theorem dX2_add_56 : decode cX2_add 56 = .ok (.getfield 9, 3) := by decide +kernel
theorem dX2_add_59 : decode cX2_add 59 = .ok (.iload 5, 2) := by decide +kernel
theorem dX2_add_61 : decode cX2_add 61 = .ok (.iastore, 1) := by decide +kernel
theorem dX2_add_62 : decode cX2_add 62 = .ok (.aload_n 0, 1) := by decide +kernel
theorem dX2_add_63 : decode cX2_add 63 = .ok (.dup, 1) := by decide +kernel
theorem dX2_add_64 : decode cX2_add 64 = .ok (.getfield 9, 3) := by decide +kernel
theorem dX2_add_67 : decode cX2_add 67 = .ok (.iconst 1, 1) := by decide +kernel
theorem dX2_add_68 : decode cX2_add 68 = .ok (.iadd, 1) := by decide +kernel
theorem dX2_add_69 : decode cX2_add 69 = .ok (.putfield 9, 3) := by decide +kernel
theorem dX2_add_72 : decode cX2_add 72 = .ok (.return_, 1) := by decide +kernel
theorem dX2_addTop_0 : decode cX2_addTop 0 = .ok (.aload_n 1, 1) := by decide +kernel
theorem dX2_addTop_1 : decode cX2_addTop 1 = .ok (.iload_n 2, 1) := by decide +kernel
theorem dX2_addTop_2 : decode cX2_addTop 2 = .ok (.iconst 1, 1) := by decide +kernel
theorem dX2_addTop_3 : decode cX2_addTop 3 = .ok (.iadd, 1) := by decide +kernel
theorem dX2_addTop_4 : decode cX2_addTop 4 = .ok (.invokevirtual 40, 3) := by decide +kernel
theorem dX2_addTop_7 : decode cX2_addTop 7 = .ok (.istore_n 3, 1) := by decide +kernel
theorem dX2_addTop_8 : decode cX2_addTop 8 = .ok (.aload_n 1, 1) := by decide +kernel
theorem dX2_addTop_9 : decode cX2_addTop 9 = .ok (.iload_n 2, 1) := by decide +kernel
theorem dX2_addTop_10 : decode cX2_addTop 10 = .ok (.invokevirtual 40, 3) := by decide +kernel
theorem dX2_addTop_13 : decode cX2_addTop 13 = .ok (.istore 4, 2) := by decide +kernel
theorem dX2_addTop_15 : decode cX2_addTop 15 = .ok (.iload 4, 2) := by decide +kernel
theorem dX2_addTop_17 : decode cX2_addTop 17 = .ok (.iload_n 3, 1) := by decide +kernel
theorem dX2_addTop_18 : decode cX2_addTop 18 = .ok (.if_icmp .ge 48, 3) := by decide +kernel
theorem dX2_addTop_21 : decode cX2_addTop 21 = .ok (.aload_n 0, 1) := by decide +kernel
theorem dX2_addTop_22 : decode cX2_addTop 22 = .ok (.aload_n 1, 1) := by decide +kernel
theorem dX2_addTop_23 : decode cX2_addTop 23 = .ok (.getfield 15, 3) := by decide +kernel
theorem dX2_addTop_26 : decode cX2_addTop 26 = .ok (.iload 4, 2) := by decide +kernel
theorem dX2_addTop_28 : decode cX2_addTop 28 = .ok (.iaload, 1) := by decide +kernel
theorem dX2_addTop_29 : decode cX2_addTop 29 = .ok (.aload_n 1, 1) := by decide +kernel
theorem dX2_addTop_30 : decode cX2_addTop 30 = .ok (.getfield 19, 3) := by decide +kernel
theorem dX2_addTop_33 : decode cX2_addTop 33 = .ok (.iload 4, 2) := by decide +kernel
theorem dX2_addTop_35 : decode cX2_addTop 35 = .ok (.iaload, 1) := by decide +kernel
theorem dX2_addTop_36 : decode cX2_addTop 36 = .ok (.aload_n 1, 1) := by decide +kernel
theorem dX2_addTop_37 : decode cX2_addTop 37 = .ok (.getfield 22, 3) := by decide +kernel
theorem dX2_addTop_40 : decode cX2_addTop 40 = .ok (.iload 4, 2) := by decide +kernel
theorem dX2_addTop_42 : decode cX2_addTop 42 = .ok (.iaload, 1) := by decide +kernel
theorem dX2_addTop_43 : decode cX2_addTop 43 = .ok (.aload_n 1, 1) := by decide +kernel
theorem dX2_addTop_44 : decode cX2_addTop 44 = .ok (.getfield 25, 3) := by decide +kernel
theorem dX2_addTop_47 : decode cX2_addTop 47 = .ok (.iload 4, 2) := by decide +kernel
theorem dX2_addTop_49 : decode cX2_addTop 49 = .ok (.iaload, 1) := by decide +kernel
theorem dX2_addTop_50 : decode cX2_addTop 50 = .ok (.aload_n 1, 1) := by decide +kernel
theorem dX2_addTop_51 : decode cX2_addTop 51 = .ok (.getfield 28, 3) := by decide +kernel
theorem dX2_addTop_54 : decode cX2_addTop 54 = .ok (.iload 4, 2) := by decide +kernel
theorem dX2_addTop_56 : decode cX2_addTop 56 = .ok (.iaload, 1) := by decide +kernel
theorem dX2_addTop_57 : decode cX2_addTop 57 = .ok (.invokevirtual 44, 3) := by decide +kernel
theorem dX2_addTop_60 : decode cX2_addTop 60 = .ok (.iinc 4 1, 3) := by decide +kernel
theorem dX2_addTop_63 : decode cX2_addTop 63 = .ok (.goto (-48), 3) := by decide +kernel
theorem dX2_addTop_66 : decode cX2_addTop 66 = .ok (.return_, 1) := by decide +kernel
theorem dX2_topCount_0 : decode cX2_topCount 0 = .ok (.iconst 0, 1) := by decide +kernel
theorem dX2_topCount_1 : decode cX2_topCount 1 = .ok (.istore_n 1, 1) := by decide +kernel
theorem dX2_topCount_2 : decode cX2_topCount 2 = .ok (.iconst 0, 1) := by decide +kernel
theorem dX2_topCount_3 : decode cX2_topCount 3 = .ok (.istore_n 2, 1) := by decide +kernel
theorem dX2_topCount_4 : decode cX2_topCount 4 = .ok (.iload_n 2, 1) := by decide +kernel
theorem dX2_topCount_5 : decode cX2_topCount 5 = .ok (.aload_n 0, 1) := by decide +kernel
theorem dX2_topCount_6 : decode cX2_topCount 6 = .ok (.getfield 9, 3) := by decide +kernel
theorem dX2_topCount_9 : decode cX2_topCount 9 = .ok (.if_icmp .ge 21, 3) := by decide +kernel
theorem dX2_topCount_12 : decode cX2_topCount 12 = .ok (.aload_n 0, 1) := by decide +kernel
theorem dX2_topCount_13 : decode cX2_topCount 13 = .ok (.getfield 28, 3) := by decide +kernel
theorem dX2_topCount_16 : decode cX2_topCount 16 = .ok (.iload_n 2, 1) := by decide +kernel
theorem dX2_topCount_17 : decode cX2_topCount 17 = .ok (.iaload, 1) := by decide +kernel
theorem dX2_topCount_18 : decode cX2_topCount 18 = .ok (.ifCond .ne 6, 3) := by decide +kernel
theorem dX2_topCount_21 : decode cX2_topCount 21 = .ok (.iinc 1 1, 3) := by decide +kernel
theorem dX2_topCount_24 : decode cX2_topCount 24 = .ok (.iinc 2 1, 3) := by decide +kernel
theorem dX2_topCount_27 : decode cX2_topCount 27 = .ok (.goto (-23), 3) := by decide +kernel
theorem dX2_topCount_30 : decode cX2_topCount 30 = .ok (.iload_n 1, 1) := by decide +kernel
theorem dX2_topCount_31 : decode cX2_topCount 31 = .ok (.ireturn, 1) := by decide +kernel
theorem dX2_topIndex_0 : decode cX2_topIndex 0 = .ok (.iconst 0, 1) := by decide +kernel
theorem dX2_topIndex_1 : decode cX2_topIndex 1 = .ok (.istore_n 2, 1) := by decide +kernel
theorem dX2_topIndex_2 : decode cX2_topIndex 2 = .ok (.iconst 0, 1) := by decide +kernel
theorem dX2_topIndex_3 : decode cX2_topIndex 3 = .ok (.istore_n 3, 1) := by decide +kernel
theorem dX2_topIndex_4 : decode cX2_topIndex 4 = .ok (.iload_n 3, 1) := by decide +kernel
theorem dX2_topIndex_5 : decode cX2_topIndex 5 = .ok (.aload_n 0, 1) := by decide +kernel
theorem dX2_topIndex_6 : decode cX2_topIndex 6 = .ok (.getfield 9, 3) := by decide +kernel
theorem dX2_topIndex_9 : decode cX2_topIndex 9 = .ok (.if_icmp .ge 28, 3) := by decide +kernel
theorem dX2_topIndex_12 : decode cX2_topIndex 12 = .ok (.aload_n 0, 1) := by decide +kernel
theorem dX2_topIndex_13 : decode cX2_topIndex 13 = .ok (.getfield 28, 3) := by decide +kernel
theorem dX2_topIndex_16 : decode cX2_topIndex 16 = .ok (.iload_n 3, 1) := by decide +kernel
theorem dX2_topIndex_17 : decode cX2_topIndex 17 = .ok (.iaload, 1) := by decide +kernel
theorem dX2_topIndex_18 : decode cX2_topIndex 18 = .ok (.ifCond .ne 13, 3) := by decide +kernel
theorem dX2_topIndex_21 : decode cX2_topIndex 21 = .ok (.iload_n 2, 1) := by decide +kernel
theorem dX2_topIndex_22 : decode cX2_topIndex 22 = .ok (.iload_n 1, 1) := by decide +kernel
theorem dX2_topIndex_23 : decode cX2_topIndex 23 = .ok (.if_icmp .ne 5, 3) := by decide +kernel
theorem dX2_topIndex_26 : decode cX2_topIndex 26 = .ok (.iload_n 3, 1) := by decide +kernel
theorem dX2_topIndex_27 : decode cX2_topIndex 27 = .ok (.ireturn, 1) := by decide +kernel
theorem dX2_topIndex_28 : decode cX2_topIndex 28 = .ok (.iinc 2 1, 3) := by decide +kernel
theorem dX2_topIndex_31 : decode cX2_topIndex 31 = .ok (.iinc 3 1, 3) := by decide +kernel
theorem dX2_topIndex_34 : decode cX2_topIndex 34 = .ok (.goto (-30), 3) := by decide +kernel
theorem dX2_topIndex_37 : decode cX2_topIndex 37 = .ok (.aload_n 0, 1) := by decide +kernel
theorem dX2_topIndex_38 : decode cX2_topIndex 38 = .ok (.getfield 9, 3) := by decide +kernel
theorem dX2_topIndex_41 : decode cX2_topIndex 41 = .ok (.ireturn, 1) := by decide +kernel
theorem dX2_behind_0 : decode cX2_behind 0 = .ok (.iload_n 1, 1) := by decide +kernel
theorem dX2_behind_1 : decode cX2_behind 1 = .ok (.ifCond .lt 11, 3) := by decide +kernel
theorem dX2_behind_4 : decode cX2_behind 4 = .ok (.iload_n 1, 1) := by decide +kernel
theorem dX2_behind_5 : decode cX2_behind 5 = .ok (.aload_n 0, 1) := by decide +kernel
theorem dX2_behind_6 : decode cX2_behind 6 = .ok (.getfield 9, 3) := by decide +kernel
theorem dX2_behind_9 : decode cX2_behind 9 = .ok (.if_icmp .lt 8, 3) := by decide +kernel
theorem dX2_behind_12 : decode cX2_behind 12 = .ok (.aload_n 0, 1) := by decide +kernel
theorem dX2_behind_13 : decode cX2_behind 13 = .ok (.getfield 9, 3) := by decide +kernel
theorem dX2_behind_16 : decode cX2_behind 16 = .ok (.ireturn, 1) := by decide +kernel
theorem dX2_behind_17 : decode cX2_behind 17 = .ok (.iload_n 1, 1) := by decide +kernel
theorem dX2_behind_18 : decode cX2_behind 18 = .ok (.iconst 1, 1) := by decide +kernel
theorem dX2_behind_19 : decode cX2_behind 19 = .ok (.iadd, 1) := by decide +kernel
theorem dX2_behind_20 : decode cX2_behind 20 = .ok (.istore_n 2, 1) := by decide +kernel
theorem dX2_behind_21 : decode cX2_behind 21 = .ok (.iload_n 2, 1) := by decide +kernel
theorem dX2_behind_22 : decode cX2_behind 22 = .ok (.aload_n 0, 1) := by decide +kernel
theorem dX2_behind_23 : decode cX2_behind 23 = .ok (.getfield 9, 3) := by decide +kernel
theorem dX2_behind_26 : decode cX2_behind 26 = .ok (.if_icmp .ge 26, 3) := by decide +kernel
theorem dX2_behind_29 : decode cX2_behind 29 = .ok (.aload_n 0, 1) := by decide +kernel
theorem dX2_behind_30 : decode cX2_behind 30 = .ok (.getfield 28, 3) := by decide +kernel
theorem dX2_behind_33 : decode cX2_behind 33 = .ok (.iload_n 2, 1) := by decide +kernel
theorem dX2_behind_34 : decode cX2_behind 34 = .ok (.iaload, 1) := by decide +kernel
theorem dX2_behind_35 : decode cX2_behind 35 = .ok (.aload_n 0, 1) := by decide +kernel
theorem dX2_behind_36 : decode cX2_behind 36 = .ok (.getfield 28, 3) := by decide +kernel
theorem dX2_behind_39 : decode cX2_behind 39 = .ok (.iload_n 1, 1) := by decide +kernel
theorem dX2_behind_40 : decode cX2_behind 40 = .ok (.iaload, 1) := by decide +kernel
theorem dX2_behind_41 : decode cX2_behind 41 = .ok (.if_icmp .gt 5, 3) := by decide +kernel
theorem dX2_behind_44 : decode cX2_behind 44 = .ok (.iload_n 2, 1) := by decide +kernel
theorem dX2_behind_45 : decode cX2_behind 45 = .ok (.ireturn, 1) := by decide +kernel
theorem dX2_behind_46 : decode cX2_behind 46 = .ok (.iinc 2 1, 3) := by decide +kernel
theorem dX2_behind_49 : decode cX2_behind 49 = .ok (.goto (-28), 3) := by decide +kernel
theorem dX2_behind_52 : decode cX2_behind 52 = .ok (.aload_n 0, 1) := by decide +kernel
theorem dX2_behind_53 : decode cX2_behind 53 = .ok (.getfield 9, 3) := by decide +kernel
theorem dX2_behind_56 : decode cX2_behind 56 = .ok (.ireturn, 1) := by decide +kernel
theorem dX2_isBlock_0 : decode cX2_isBlock 0 = .ok (.iload_n 1, 1) := by decide +kernel
theorem dX2_isBlock_1 : decode cX2_isBlock 1 = .ok (.ifCond .lt 25, 3) := by decide +kernel
theorem dX2_isBlock_4 : decode cX2_isBlock 4 = .ok (.iload_n 1, 1) := by decide +kernel
theorem dX2_isBlock_5 : decode cX2_isBlock 5 = .ok (.aload_n 0, 1) := by decide +kernel
theorem dX2_isBlock_6 : decode cX2_isBlock 6 = .ok (.getfield 9, 3) := by decide +kernel
theorem dX2_isBlock_9 : decode cX2_isBlock 9 = .ok (.if_icmp .ge 17, 3) := by decide +kernel
theorem dX2_isBlock_12 : decode cX2_isBlock 12 = .ok (.aload_n 0, 1) := by decide +kernel
theorem dX2_isBlock_13 : decode cX2_isBlock 13 = .ok (.getfield 15, 3) := by decide +kernel
theorem dX2_isBlock_16 : decode cX2_isBlock 16 = .ok (.iload_n 1, 1) := by decide +kernel
theorem dX2_isBlock_17 : decode cX2_isBlock 17 = .ok (.iaload, 1) := by decide +kernel
theorem dX2_isBlock_18 : decode cX2_isBlock 18 = .ok (.iconst 2, 1) := by decide +kernel
theorem dX2_isBlock_19 : decode cX2_isBlock 19 = .ok (.if_icmp .lt 7, 3) := by decide +kernel
theorem dX2_isBlock_22 : decode cX2_isBlock 22 = .ok (.iconst 1, 1) := by decide +kernel
theorem dX2_isBlock_23 : decode cX2_isBlock 23 = .ok (.goto 4, 3) := by decide +kernel
theorem dX2_isBlock_26 : decode cX2_isBlock 26 = .ok (.iconst 0, 1) := by decide +kernel
theorem dX2_isBlock_27 : decode cX2_isBlock 27 = .ok (.ireturn, 1) := by decide +kernel
theorem dX2_framesOf_0 : decode cX2_framesOf 0 = .ok (.iload_n 1, 1) := by decide +kernel
theorem dX2_framesOf_1 : decode cX2_framesOf 1 = .ok (.ifCond .lt 29, 3) := by decide +kernel
theorem dX2_framesOf_4 : decode cX2_framesOf 4 = .ok (.iload_n 1, 1) := by decide +kernel
theorem dX2_framesOf_5 : decode cX2_framesOf 5 = .ok (.aload_n 0, 1) := by decide +kernel
theorem dX2_framesOf_6 : decode cX2_framesOf 6 = .ok (.getfield 9, 3) := by decide +kernel
theorem dX2_framesOf_9 : decode cX2_framesOf 9 = .ok (.if_icmp .ge 21, 3) := by decide +kernel
theorem dX2_framesOf_12 : decode cX2_framesOf 12 = .ok (.aload_n 0, 1) := by decide +kernel
theorem dX2_framesOf_13 : decode cX2_framesOf 13 = .ok (.getfield 25, 3) := by decide +kernel
theorem dX2_framesOf_16 : decode cX2_framesOf 16 = .ok (.iload_n 1, 1) := by decide +kernel
theorem dX2_framesOf_17 : decode cX2_framesOf 17 = .ok (.iaload, 1) := by decide +kernel
theorem dX2_framesOf_18 : decode cX2_framesOf 18 = .ok (.aload_n 0, 1) := by decide +kernel
theorem dX2_framesOf_19 : decode cX2_framesOf 19 = .ok (.getfield 22, 3) := by decide +kernel
theorem dX2_framesOf_22 : decode cX2_framesOf 22 = .ok (.iload_n 1, 1) := by decide +kernel
theorem dX2_framesOf_23 : decode cX2_framesOf 23 = .ok (.iaload, 1) := by decide +kernel
theorem dX2_framesOf_24 : decode cX2_framesOf 24 = .ok (.isub, 1) := by decide +kernel
theorem dX2_framesOf_25 : decode cX2_framesOf 25 = .ok (.iconst 1, 1) := by decide +kernel
theorem dX2_framesOf_26 : decode cX2_framesOf 26 = .ok (.iadd, 1) := by decide +kernel
theorem dX2_framesOf_27 : decode cX2_framesOf 27 = .ok (.goto 4, 3) := by decide +kernel
theorem dX2_framesOf_30 : decode cX2_framesOf 30 = .ok (.iconst 0, 1) := by decide +kernel
theorem dX2_framesOf_31 : decode cX2_framesOf 31 = .ok (.ireturn, 1) := by decide +kernel
theorem dX2_shorten_0 : decode cX2_shorten 0 = .ok (.iload_n 1, 1) := by decide +kernel
theorem dX2_shorten_1 : decode cX2_shorten 1 = .ok (.ifCond .lt 21, 3) := by decide +kernel
theorem dX2_shorten_4 : decode cX2_shorten 4 = .ok (.iload_n 1, 1) := by decide +kernel
theorem dX2_shorten_5 : decode cX2_shorten 5 = .ok (.aload_n 0, 1) := by decide +kernel
theorem dX2_shorten_6 : decode cX2_shorten 6 = .ok (.getfield 9, 3) := by decide +kernel
theorem dX2_shorten_9 : decode cX2_shorten 9 = .ok (.if_icmp .ge 13, 3) := by decide +kernel
theorem dX2_shorten_12 : decode cX2_shorten 12 = .ok (.aload_n 0, 1) := by decide +kernel
theorem dX2_shorten_13 : decode cX2_shorten 13 = .ok (.getfield 25, 3) := by decide +kernel
theorem dX2_shorten_16 : decode cX2_shorten 16 = .ok (.iload_n 1, 1) := by decide +kernel
theorem dX2_shorten_17 : decode cX2_shorten 17 = .ok (.dup2, 1) := by decide +kernel
theorem dX2_shorten_18 : decode cX2_shorten 18 = .ok (.iaload, 1) := by decide +kernel
theorem dX2_shorten_19 : decode cX2_shorten 19 = .ok (.iload_n 2, 1) := by decide +kernel
theorem dX2_shorten_20 : decode cX2_shorten 20 = .ok (.isub, 1) := by decide +kernel
theorem dX2_shorten_21 : decode cX2_shorten 21 = .ok (.iastore, 1) := by decide +kernel
theorem dX2_shorten_22 : decode cX2_shorten 22 = .ok (.return_, 1) := by decide +kernel
theorem dX2_deepest_0 : decode cX2_deepest 0 = .ok (.iconst 0, 1) := by decide +kernel
theorem dX2_deepest_1 : decode cX2_deepest 1 = .ok (.istore_n 1, 1) := by decide +kernel
theorem dX2_deepest_2 : decode cX2_deepest 2 = .ok (.iconst 0, 1) := by decide +kernel
theorem dX2_deepest_3 : decode cX2_deepest 3 = .ok (.istore_n 2, 1) := by decide +kernel
theorem dX2_deepest_4 : decode cX2_deepest 4 = .ok (.iload_n 2, 1) := by decide +kernel
theorem dX2_deepest_5 : decode cX2_deepest 5 = .ok (.aload_n 0, 1) := by decide +kernel
theorem dX2_deepest_6 : decode cX2_deepest 6 = .ok (.getfield 9, 3) := by decide +kernel
theorem dX2_deepest_9 : decode cX2_deepest 9 = .ok (.if_icmp .ge 30, 3) := by decide +kernel
theorem dX2_deepest_12 : decode cX2_deepest 12 = .ok (.aload_n 0, 1) := by decide +kernel
theorem dX2_deepest_13 : decode cX2_deepest 13 = .ok (.iload_n 2, 1) := by decide +kernel
theorem dX2_deepest_14 : decode cX2_deepest 14 = .ok (.invokevirtual 48, 3) := by decide +kernel
theorem dX2_deepest_17 : decode cX2_deepest 17 = .ok (.ifCond .eq 16, 3) := by decide +kernel
theorem dX2_deepest_20 : decode cX2_deepest 20 = .ok (.iload_n 1, 1) := by decide +kernel
theorem dX2_deepest_21 : decode cX2_deepest 21 = .ok (.aload_n 0, 1) := by decide +kernel
theorem dX2_deepest_22 : decode cX2_deepest 22 = .ok (.getfield 28, 3) := by decide +kernel
theorem dX2_deepest_25 : decode cX2_deepest 25 = .ok (.iload_n 2, 1) := by decide +kernel
theorem dX2_deepest_26 : decode cX2_deepest 26 = .ok (.iaload, 1) := by decide +kernel
theorem dX2_deepest_27 : decode cX2_deepest 27 = .ok (.iconst 1, 1) := by decide +kernel
theorem dX2_deepest_28 : decode cX2_deepest 28 = .ok (.iadd, 1) := by decide +kernel
theorem dX2_deepest_29 : decode cX2_deepest 29 = .ok (.invokestatic 52, 3) := by decide +kernel
theorem dX2_deepest_32 : decode cX2_deepest 32 = .ok (.istore_n 1, 1) := by decide +kernel
theorem dX2_deepest_33 : decode cX2_deepest 33 = .ok (.iinc 2 1, 3) := by decide +kernel
theorem dX2_deepest_36 : decode cX2_deepest 36 = .ok (.goto (-32), 3) := by decide +kernel
theorem dX2_deepest_39 : decode cX2_deepest 39 = .ok (.iload_n 1, 1) := by decide +kernel
theorem dX2_deepest_40 : decode cX2_deepest 40 = .ok (.ireturn, 1) := by decide +kernel
theorem dX2_pieceCount_0 : decode cX2_pieceCount 0 = .ok (.iconst 0, 1) := by decide +kernel
theorem dX2_pieceCount_1 : decode cX2_pieceCount 1 = .ok (.istore_n 1, 1) := by decide +kernel
theorem dX2_pieceCount_2 : decode cX2_pieceCount 2 = .ok (.aload_n 0, 1) := by decide +kernel
theorem dX2_pieceCount_3 : decode cX2_pieceCount 3 = .ok (.getfield 31, 3) := by decide +kernel
theorem dX2_pieceCount_6 : decode cX2_pieceCount 6 = .ok (.iconst 0, 1) := by decide +kernel
theorem dX2_pieceCount_7 : decode cX2_pieceCount 7 = .ok (.iconst 1, 1) := by decide +kernel
theorem dX2_pieceCount_8 : decode cX2_pieceCount 8 = .ok (.iastore, 1) := by decide +kernel
theorem dX2_pieceCount_9 : decode cX2_pieceCount 9 = .ok (.iconst 0, 1) := by decide +kernel
theorem dX2_pieceCount_10 : decode cX2_pieceCount 10 = .ok (.istore_n 2, 1) := by decide +kernel
theorem dX2_pieceCount_11 : decode cX2_pieceCount 11 = .ok (.iload_n 2, 1) := by decide +kernel
theorem dX2_pieceCount_12 : decode cX2_pieceCount 12 = .ok (.aload_n 0, 1) := by decide +kernel
theorem dX2_pieceCount_13 : decode cX2_pieceCount 13 = .ok (.getfield 9, 3) := by decide +kernel
theorem dX2_pieceCount_16 : decode cX2_pieceCount 16 = .ok (.if_icmp .ge 88, 3) := by decide +kernel
theorem dX2_pieceCount_19 : decode cX2_pieceCount 19 = .ok (.aload_n 0, 1) := by decide +kernel
theorem dX2_pieceCount_20 : decode cX2_pieceCount 20 = .ok (.getfield 28, 3) := by decide +kernel
theorem dX2_pieceCount_23 : decode cX2_pieceCount 23 = .ok (.iload_n 2, 1) := by decide +kernel
theorem dX2_pieceCount_24 : decode cX2_pieceCount 24 = .ok (.iaload, 1) := by decide +kernel
theorem dX2_pieceCount_25 : decode cX2_pieceCount 25 = .ok (.istore_n 3, 1) := by decide +kernel
theorem dX2_pieceCount_26 : decode cX2_pieceCount 26 = .ok (.iload_n 3, 1) := by decide +kernel
theorem dX2_pieceCount_27 : decode cX2_pieceCount 27 = .ok (.ifCond .lt 8, 3) := by decide +kernel
theorem dX2_pieceCount_30 : decode cX2_pieceCount 30 = .ok (.iload_n 3, 1) := by decide +kernel
theorem dX2_pieceCount_31 : decode cX2_pieceCount 31 = .ok (.iconst 4, 1) := by decide +kernel
theorem dX2_pieceCount_32 : decode cX2_pieceCount 32 = .ok (.if_icmp .le 6, 3) := by decide +kernel
theorem dX2_pieceCount_35 : decode cX2_pieceCount 35 = .ok (.bipush 61, 2) := by decide +kernel
theorem dX2_pieceCount_37 : decode cX2_pieceCount 37 = .ok (.ireturn, 1) := by decide +kernel
theorem dX2_pieceCount_38 : decode cX2_pieceCount 38 = .ok (.aload_n 0, 1) := by decide +kernel
theorem dX2_pieceCount_39 : decode cX2_pieceCount 39 = .ok (.iload_n 2, 1) := by decide +kernel
theorem dX2_pieceCount_40 : decode cX2_pieceCount 40 = .ok (.invokevirtual 48, 3) := by decide +kernel
theorem dX2_pieceCount_43 : decode cX2_pieceCount 43 = .ok (.ifCond .ne 15, 3) := by decide +kernel
theorem dX2_pieceCount_46 : decode cX2_pieceCount 46 = .ok (.iload_n 1, 1) := by decide +kernel
theorem dX2_pieceCount_47 : decode cX2_pieceCount 47 = .ok (.aload_n 0, 1) := by decide +kernel
theorem dX2_pieceCount_48 : decode cX2_pieceCount 48 = .ok (.getfield 31, 3) := by decide +kernel
theorem dX2_pieceCount_51 : decode cX2_pieceCount 51 = .ok (.iload_n 3, 1) := by decide +kernel
theorem dX2_pieceCount_52 : decode cX2_pieceCount 52 = .ok (.iaload, 1) := by decide +kernel
theorem dX2_pieceCount_53 : decode cX2_pieceCount 53 = .ok (.iadd, 1) := by decide +kernel
theorem dX2_pieceCount_54 : decode cX2_pieceCount 54 = .ok (.istore_n 1, 1) := by decide +kernel
theorem dX2_pieceCount_55 : decode cX2_pieceCount 55 = .ok (.goto 43, 3) := by decide +kernel
theorem dX2_pieceCount_58 : decode cX2_pieceCount 58 = .ok (.iload_n 3, 1) := by decide +kernel
theorem dX2_pieceCount_59 : decode cX2_pieceCount 59 = .ok (.iconst 4, 1) := by decide +kernel
theorem dX2_pieceCount_60 : decode cX2_pieceCount 60 = .ok (.if_icmp .ge 38, 3) := by decide +kernel
theorem dX2_pieceCount_63 : decode cX2_pieceCount 63 = .ok (.aload_n 0, 1) := by decide +kernel
theorem dX2_pieceCount_64 : decode cX2_pieceCount 64 = .ok (.getfield 31, 3) := by decide +kernel
theorem dX2_pieceCount_67 : decode cX2_pieceCount 67 = .ok (.iload_n 3, 1) := by decide +kernel
theorem dX2_pieceCount_68 : decode cX2_pieceCount 68 = .ok (.iconst 1, 1) := by decide +kernel
theorem dX2_pieceCount_69 : decode cX2_pieceCount 69 = .ok (.iadd, 1) := by decide +kernel
theorem dX2_pieceCount_70 : decode cX2_pieceCount 70 = .ok (.aload_n 0, 1) := by decide +kernel
theorem dX2_pieceCount_71 : decode cX2_pieceCount 71 = .ok (.getfield 31, 3) := by decide +kernel
theorem dX2_pieceCount_74 : decode cX2_pieceCount 74 = .ok (.iload_n 3, 1) := by decide +kernel
theorem dX2_pieceCount_75 : decode cX2_pieceCount 75 = .ok (.iaload, 1) := by decide +kernel
theorem dX2_pieceCount_76 : decode cX2_pieceCount 76 = .ok (.aload_n 0, 1) := by decide +kernel
theorem dX2_pieceCount_77 : decode cX2_pieceCount 77 = .ok (.getfield 15, 3) := by decide +kernel
theorem dX2_pieceCount_80 : decode cX2_pieceCount 80 = .ok (.iload_n 2, 1) := by decide +kernel
theorem dX2_pieceCount_81 : decode cX2_pieceCount 81 = .ok (.iaload, 1) := by decide +kernel
theorem dX2_pieceCount_82 : decode cX2_pieceCount 82 = .ok (.iconst 2, 1) := by decide +kernel
theorem dX2_pieceCount_83 : decode cX2_pieceCount 83 = .ok (.if_icmp .ne 12, 3) := by decide +kernel
theorem dX2_pieceCount_86 : decode cX2_pieceCount 86 = .ok (.aload_n 0, 1) := by decide +kernel
theorem dX2_pieceCount_87 : decode cX2_pieceCount 87 = .ok (.getfield 19, 3) := by decide +kernel
theorem dX2_pieceCount_90 : decode cX2_pieceCount 90 = .ok (.iload_n 2, 1) := by decide +kernel
theorem dX2_pieceCount_91 : decode cX2_pieceCount 91 = .ok (.iaload, 1) := by decide +kernel
theorem dX2_pieceCount_92 : decode cX2_pieceCount 92 = .ok (.goto 4, 3) := by decide +kernel
theorem dX2_pieceCount_95 : decode cX2_pieceCount 95 = .ok (.iconst 1, 1) := by decide +kernel
theorem dX2_pieceCount_96 : decode cX2_pieceCount 96 = .ok (.imul, 1) := by decide +kernel
theorem dX2_pieceCount_97 : decode cX2_pieceCount 97 = .ok (.iastore, 1) := by decide +kernel
theorem dX2_pieceCount_98 : decode cX2_pieceCount 98 = .ok (.iinc 2 1, 3) := by decide +kernel
theorem dX2_pieceCount_101 : decode cX2_pieceCount 101 = .ok (.goto (-90), 3) := by decide +kernel
theorem dX2_pieceCount_104 : decode cX2_pieceCount 104 = .ok (.iload_n 1, 1) := by decide +kernel
theorem dX2_pieceCount_105 : decode cX2_pieceCount 105 = .ok (.ireturn, 1) := by decide +kernel
theorem dX2_readFrom_0 : decode cX2_readFrom 0 = .ok (.aload_n 0, 1) := by decide +kernel
theorem dX2_readFrom_1 : decode cX2_readFrom 1 = .ok (.invokevirtual 58, 3) := by decide +kernel
theorem dX2_readFrom_4 : decode cX2_readFrom 4 = .ok (.aload_n 1, 1) := by decide +kernel
theorem dX2_readFrom_5 : decode cX2_readFrom 5 = .ok (.invokevirtual 61, 3) := by decide +kernel
theorem dX2_readFrom_8 : decode cX2_readFrom 8 = .ok (.aload_n 0, 1) := by decide +kernel
theorem dX2_readFrom_9 : decode cX2_readFrom 9 = .ok (.aload_n 1, 1) := by decide +kernel
theorem dX2_readFrom_10 : decode cX2_readFrom 10 = .ok (.aload_n 2, 1) := by decide +kernel
theorem dX2_readFrom_11 : decode cX2_readFrom 11 = .ok (.iconst 0, 1) := by decide +kernel
theorem dX2_readFrom_12 : decode cX2_readFrom 12 = .ok (.invokevirtual 66, 3) := by decide +kernel
theorem dX2_readFrom_15 : decode cX2_readFrom 15 = .ok (.ifCond .eq 15, 3) := by decide +kernel
theorem dX2_readFrom_18 : decode cX2_readFrom 18 = .ok (.aload_n 1, 1) := by decide +kernel
theorem dX2_readFrom_19 : decode cX2_readFrom 19 = .ok (.iconst 0, 1) := by decide +kernel
theorem dX2_readFrom_20 : decode cX2_readFrom 20 = .ok (.invokevirtual 70, 3) := by decide +kernel
theorem dX2_readFrom_23 : decode cX2_readFrom 23 = .ok (.ifCond .eq 7, 3) := by decide +kernel
theorem dX2_readFrom_26 : decode cX2_readFrom 26 = .ok (.iconst 1, 1) := by decide +kernel
theorem dX2_readFrom_27 : decode cX2_readFrom 27 = .ok (.goto 4, 3) := by decide +kernel
theorem dX2_readFrom_30 : decode cX2_readFrom 30 = .ok (.iconst 0, 1) := by decide +kernel
theorem dX2_readFrom_31 : decode cX2_readFrom 31 = .ok (.ireturn, 1) := by decide +kernel
theorem dX2_readItems_0 : decode cX2_readItems 0 = .ok (.iconst 0, 1) := by decide +kernel
theorem dX2_readItems_1 : decode cX2_readItems 1 = .ok (.istore 4, 2) := by decide +kernel
theorem dX2_readItems_3 : decode cX2_readItems 3 = .ok (.iload 4, 2) := by decide +kernel
theorem dX2_readItems_5 : decode cX2_readItems 5 = .ok (.bipush 30, 2) := by decide +kernel
theorem dX2_readItems_7 : decode cX2_readItems 7 = .ok (.if_icmp .gt 37, 3) := by decide +kernel
theorem dX2_readItems_10 : decode cX2_readItems 10 = .ok (.aload_n 1, 1) := by decide +kernel
theorem dX2_readItems_11 : decode cX2_readItems 11 = .ok (.getfield 73, 3) := by decide +kernel
theorem dX2_readItems_14 : decode cX2_readItems 14 = .ok (.iconst 1, 1) := by decide +kernel
theorem dX2_readItems_15 : decode cX2_readItems 15 = .ok (.if_icmp .ne 29, 3) := by decide +kernel
theorem dX2_readItems_18 : decode cX2_readItems 18 = .ok (.aload_n 0, 1) := by decide +kernel
theorem dX2_readItems_19 : decode cX2_readItems 19 = .ok (.aload_n 1, 1) := by decide +kernel
theorem dX2_readItems_20 : decode cX2_readItems 20 = .ok (.aload_n 2, 1) := by decide +kernel
theorem dX2_readItems_21 : decode cX2_readItems 21 = .ok (.iload_n 3, 1) := by decide +kernel
theorem dX2_readItems_22 : decode cX2_readItems 22 = .ok (.invokevirtual 76, 3) := by decide +kernel
theorem dX2_readItems_25 : decode cX2_readItems 25 = .ok (.ifCond .eq 11, 3) := by decide +kernel
theorem dX2_readItems_28 : decode cX2_readItems 28 = .ok (.aload_n 1, 1) := by decide +kernel
theorem dX2_readItems_29 : decode cX2_readItems 29 = .ok (.iconst 3, 1) := by decide +kernel
theorem dX2_readItems_30 : decode cX2_readItems 30 = .ok (.invokevirtual 70, 3) := by decide +kernel
theorem dX2_readItems_33 : decode cX2_readItems 33 = .ok (.ifCond .ne 5, 3) := by decide +kernel
theorem dX2_readItems_36 : decode cX2_readItems 36 = .ok (.iconst 0, 1) := by decide +kernel
theorem dX2_readItems_37 : decode cX2_readItems 37 = .ok (.ireturn, 1) := by decide +kernel
theorem dX2_readItems_38 : decode cX2_readItems 38 = .ok (.iinc 4 1, 3) := by decide +kernel
theorem dX2_readItems_41 : decode cX2_readItems 41 = .ok (.goto (-38), 3) := by decide +kernel
theorem dX2_readItems_44 : decode cX2_readItems 44 = .ok (.iconst 1, 1) := by decide +kernel
theorem dX2_readItems_45 : decode cX2_readItems 45 = .ok (.ireturn, 1) := by decide +kernel
theorem dX2_readItem_0 : decode cX2_readItem 0 = .ok (.aload_n 1, 1) := by decide +kernel
theorem dX2_readItem_1 : decode cX2_readItem 1 = .ok (.invokestatic 79, 3) := by decide +kernel
theorem dX2_readItem_4 : decode cX2_readItem 4 = .ok (.istore 4, 2) := by decide +kernel
theorem dX2_readItem_6 : decode cX2_readItem 6 = .ok (.iload 4, 2) := by decide +kernel
theorem dX2_readItem_8 : decode cX2_readItem 8 = .ok (.iconst (-1), 1) := by decide +kernel
theorem dX2_readItem_9 : decode cX2_readItem 9 = .ok (.if_icmp .ne 9, 3) := by decide +kernel
theorem dX2_readItem_12 : decode cX2_readItem 12 = .ok (.aload_n 1, 1) := by decide +kernel
theorem dX2_readItem_13 : decode cX2_readItem 13 = .ok (.iconst 1, 1) := by decide +kernel
theorem dX2_readItem_14 : decode cX2_readItem 14 = .ok (.invokevirtual 83, 3) := by decide +kernel
theorem dX2_readItem_17 : decode cX2_readItem 17 = .ok (.ireturn, 1) := by decide +kernel
theorem dX2_readItem_18 : decode cX2_readItem 18 = .ok (.aload_n 0, 1) := by decide +kernel
theorem dX2_readItem_19 : decode cX2_readItem 19 = .ok (.getfield 9, 3) := by decide +kernel
theorem dX2_readItem_22 : decode cX2_readItem 22 = .ok (.bipush 30, 2) := by decide +kernel
theorem dX2_readItem_24 : decode cX2_readItem 24 = .ok (.if_icmp .lt 9, 3) := by decide +kernel
theorem dX2_readItem_27 : decode cX2_readItem 27 = .ok (.aload_n 1, 1) := by decide +kernel
theorem dX2_readItem_28 : decode cX2_readItem 28 = .ok (.iconst 4, 1) := by decide +kernel
theorem dX2_readItem_29 : decode cX2_readItem 29 = .ok (.invokevirtual 83, 3) := by decide +kernel
theorem dX2_readItem_32 : decode cX2_readItem 32 = .ok (.ireturn, 1) := by decide +kernel
theorem dX2_readItem_33 : decode cX2_readItem 33 = .ok (.aload_n 1, 1) := by decide +kernel
theorem dX2_readItem_34 : decode cX2_readItem 34 = .ok (.invokevirtual 86, 3) := by decide +kernel
theorem dX2_readItem_37 : decode cX2_readItem 37 = .ok (.iload 4, 2) := by decide +kernel
theorem dX2_readItem_39 : decode cX2_readItem 39 = .ok (.tableswitch 69 0 2 #[25, 33, 41], 25) := by decide +kernel
theorem dX2_readItem_64 : decode cX2_readItem 64 = .ok (.aload_n 0, 1) := by decide +kernel
theorem dX2_readItem_65 : decode cX2_readItem 65 = .ok (.aload_n 1, 1) := by decide +kernel
theorem dX2_readItem_66 : decode cX2_readItem 66 = .ok (.aload_n 2, 1) := by decide +kernel
theorem dX2_readItem_67 : decode cX2_readItem 67 = .ok (.iload_n 3, 1) := by decide +kernel
theorem dX2_readItem_68 : decode cX2_readItem 68 = .ok (.invokevirtual 89, 3) := by decide +kernel
theorem dX2_readItem_71 : decode cX2_readItem 71 = .ok (.ireturn, 1) := by decide +kernel
theorem dX2_readItem_72 : decode cX2_readItem 72 = .ok (.aload_n 0, 1) := by decide +kernel
theorem dX2_readItem_73 : decode cX2_readItem 73 = .ok (.aload_n 1, 1) := by decide +kernel
theorem dX2_readItem_74 : decode cX2_readItem 74 = .ok (.aload_n 2, 1) := by decide +kernel
theorem dX2_readItem_75 : decode cX2_readItem 75 = .ok (.iload_n 3, 1) := by decide +kernel
theorem dX2_readItem_76 : decode cX2_readItem 76 = .ok (.invokevirtual 92, 3) := by decide +kernel
theorem dX2_readItem_79 : decode cX2_readItem 79 = .ok (.ireturn, 1) := by decide +kernel
theorem dX2_readItem_80 : decode cX2_readItem 80 = .ok (.aload_n 1, 1) := by decide +kernel
theorem dX2_readItem_81 : decode cX2_readItem 81 = .ok (.iconst 1, 1) := by decide +kernel
theorem dX2_readItem_82 : decode cX2_readItem 82 = .ok (.bipush 9, 2) := by decide +kernel
theorem dX2_readItem_84 : decode cX2_readItem 84 = .ok (.invokevirtual 95, 3) := by decide +kernel
theorem dX2_readItem_87 : decode cX2_readItem 87 = .ok (.ifCond .eq 19, 3) := by decide +kernel
theorem dX2_readItem_90 : decode cX2_readItem 90 = .ok (.aload_n 0, 1) := by decide +kernel
theorem dX2_readItem_91 : decode cX2_readItem 91 = .ok (.iload 4, 2) := by decide +kernel
theorem dX2_readItem_93 : decode cX2_readItem 93 = .ok (.aload_n 1, 1) := by decide +kernel
theorem dX2_readItem_94 : decode cX2_readItem 94 = .ok (.aload_n 2, 1) := by decide +kernel
theorem dX2_readItem_95 : decode cX2_readItem 95 = .ok (.iload_n 3, 1) := by decide +kernel
theorem dX2_readItem_96 : decode cX2_readItem 96 = .ok (.invokevirtual 99, 3) := by decide +kernel
theorem dX2_readItem_99 : decode cX2_readItem 99 = .ok (.ifCond .eq 7, 3) := by decide +kernel
theorem dX2_readItem_102 : decode cX2_readItem 102 = .ok (.iconst 1, 1) := by decide +kernel
theorem dX2_readItem_103 : decode cX2_readItem 103 = .ok (.goto 4, 3) := by decide +kernel
theorem dX2_readItem_106 : decode cX2_readItem 106 = .ok (.iconst 0, 1) := by decide +kernel
theorem dX2_readItem_107 : decode cX2_readItem 107 = .ok (.ireturn, 1) := by decide +kernel
theorem dX2_readItem_108 : decode cX2_readItem 108 = .ok (.aload_n 1, 1) := by decide +kernel
theorem dX2_readItem_109 : decode cX2_readItem 109 = .ok (.iconst 0, 1) := by decide +kernel
theorem dX2_readItem_110 : decode cX2_readItem 110 = .ok (.bipush 40, 2) := by decide +kernel
theorem dX2_readItem_112 : decode cX2_readItem 112 = .ok (.invokevirtual 95, 3) := by decide +kernel
theorem dX2_readItem_115 : decode cX2_readItem 115 = .ok (.ifCond .eq 19, 3) := by decide +kernel
theorem dX2_readItem_118 : decode cX2_readItem 118 = .ok (.aload_n 0, 1) := by decide +kernel
theorem dX2_readItem_119 : decode cX2_readItem 119 = .ok (.iload 4, 2) := by decide +kernel
theorem dX2_readItem_121 : decode cX2_readItem 121 = .ok (.aload_n 1, 1) := by decide +kernel
theorem dX2_readItem_122 : decode cX2_readItem 122 = .ok (.aload_n 2, 1) := by decide +kernel
theorem dX2_readItem_123 : decode cX2_readItem 123 = .ok (.iload_n 3, 1) := by decide +kernel
theorem dX2_readItem_124 : decode cX2_readItem 124 = .ok (.invokevirtual 99, 3) := by decide +kernel
theorem dX2_readItem_127 : decode cX2_readItem 127 = .ok (.ifCond .eq 7, 3) := by decide +kernel
theorem dX2_readItem_130 : decode cX2_readItem 130 = .ok (.iconst 1, 1) := by decide +kernel
theorem dX2_readItem_131 : decode cX2_readItem 131 = .ok (.goto 4, 3) := by decide +kernel
theorem dX2_readItem_134 : decode cX2_readItem 134 = .ok (.iconst 0, 1) := by decide +kernel
theorem dX2_readItem_135 : decode cX2_readItem 135 = .ok (.ireturn, 1) := by decide +kernel
theorem dX2_kindTold_0 : decode cX2_kindTold 0 = .ok (.aload_n 0, 1) := by decide +kernel
theorem dX2_kindTold_1 : decode cX2_kindTold 1 = .ok (.ldc 103, 2) := by decide +kernel
theorem dX2_kindTold_3 : decode cX2_kindTold 3 = .ok (.invokevirtual 105, 3) := by decide +kernel
theorem dX2_kindTold_6 : decode cX2_kindTold 6 = .ok (.ifCond .eq 5, 3) := by decide +kernel
theorem dX2_kindTold_9 : decode cX2_kindTold 9 = .ok (.iconst 0, 1) := by decide +kernel
theorem dX2_kindTold_10 : decode cX2_kindTold 10 = .ok (.ireturn, 1) := by decide +kernel
theorem dX2_kindTold_11 : decode cX2_kindTold 11 = .ok (.aload_n 0, 1) := by decide +kernel
theorem dX2_kindTold_12 : decode cX2_kindTold 12 = .ok (.ldc 109, 2) := by decide +kernel
theorem dX2_kindTold_14 : decode cX2_kindTold 14 = .ok (.invokevirtual 105, 3) := by decide +kernel
theorem dX2_kindTold_17 : decode cX2_kindTold 17 = .ok (.ifCond .eq 5, 3) := by decide +kernel
theorem dX2_kindTold_20 : decode cX2_kindTold 20 = .ok (.iconst 1, 1) := by decide +kernel
theorem dX2_kindTold_21 : decode cX2_kindTold 21 = .ok (.ireturn, 1) := by decide +kernel
theorem dX2_kindTold_22 : decode cX2_kindTold 22 = .ok (.aload_n 0, 1) := by decide +kernel
theorem dX2_kindTold_23 : decode cX2_kindTold 23 = .ok (.ldc 111, 2) := by decide +kernel
theorem dX2_kindTold_25 : decode cX2_kindTold 25 = .ok (.invokevirtual 105, 3) := by decide +kernel
theorem dX2_kindTold_28 : decode cX2_kindTold 28 = .ok (.ifCond .eq 5, 3) := by decide +kernel
theorem dX2_kindTold_31 : decode cX2_kindTold 31 = .ok (.iconst 2, 1) := by decide +kernel
theorem dX2_kindTold_32 : decode cX2_kindTold 32 = .ok (.ireturn, 1) := by decide +kernel
theorem dX2_kindTold_33 : decode cX2_kindTold 33 = .ok (.aload_n 0, 1) := by decide +kernel
theorem dX2_kindTold_34 : decode cX2_kindTold 34 = .ok (.ldc 113, 2) := by decide +kernel
theorem dX2_kindTold_36 : decode cX2_kindTold 36 = .ok (.invokevirtual 105, 3) := by decide +kernel
theorem dX2_kindTold_39 : decode cX2_kindTold 39 = .ok (.ifCond .eq 7, 3) := by decide +kernel
theorem dX2_kindTold_42 : decode cX2_kindTold 42 = .ok (.iconst 3, 1) := by decide +kernel
theorem dX2_kindTold_43 : decode cX2_kindTold 43 = .ok (.goto 4, 3) := by decide +kernel
theorem dX2_kindTold_46 : decode cX2_kindTold 46 = .ok (.iconst (-1), 1) := by decide +kernel
theorem dX2_kindTold_47 : decode cX2_kindTold 47 = .ok (.ireturn, 1) := by decide +kernel
theorem dX2_readCut_0 : decode cX2_readCut 0 = .ok (.aload_n 1, 1) := by decide +kernel
theorem dX2_readCut_1 : decode cX2_readCut 1 = .ok (.iconst 0, 1) := by decide +kernel
theorem dX2_readCut_2 : decode cX2_readCut 2 = .ok (.aload_n 2, 1) := by decide +kernel
theorem dX2_readCut_3 : decode cX2_readCut 3 = .ok (.getfield 115, 3) := by decide +kernel
theorem dX2_readCut_6 : decode cX2_readCut 6 = .ok (.iconst 1, 1) := by decide +kernel
theorem dX2_readCut_7 : decode cX2_readCut 7 = .ok (.isub, 1) := by decide +kernel
theorem dX2_readCut_8 : decode cX2_readCut 8 = .ok (.invokevirtual 95, 3) := by decide +kernel
theorem dX2_readCut_11 : decode cX2_readCut 11 = .ok (.ifCond .ne 5, 3) := by decide +kernel
theorem dX2_readCut_14 : decode cX2_readCut 14 = .ok (.iconst 0, 1) := by decide +kernel
theorem dX2_readCut_15 : decode cX2_readCut 15 = .ok (.ireturn, 1) := by decide +kernel
theorem dX2_readCut_16 : decode cX2_readCut 16 = .ok (.aload_n 1, 1) := by decide +kernel
theorem dX2_readCut_17 : decode cX2_readCut 17 = .ok (.getfield 120, 3) := by decide +kernel
theorem dX2_readCut_20 : decode cX2_readCut 20 = .ok (.istore 4, 2) := by decide +kernel
theorem dX2_readCut_22 : decode cX2_readCut 22 = .ok (.iconst 0, 1) := by decide +kernel
theorem dX2_readCut_23 : decode cX2_readCut 23 = .ok (.istore 5, 2) := by decide +kernel
theorem dX2_readCut_25 : decode cX2_readCut 25 = .ok (.aload_n 2, 1) := by decide +kernel
theorem dX2_readCut_26 : decode cX2_readCut 26 = .ok (.iload 4, 2) := by decide +kernel
theorem dX2_readCut_28 : decode cX2_readCut 28 = .ok (.invokevirtual 123, 3) := by decide +kernel
theorem dX2_readCut_31 : decode cX2_readCut 31 = .ok (.iconst 1, 1) := by decide +kernel
theorem dX2_readCut_32 : decode cX2_readCut 32 = .ok (.isub, 1) := by decide +kernel
theorem dX2_readCut_33 : decode cX2_readCut 33 = .ok (.istore 6, 2) := by decide +kernel
theorem dX2_readCut_35 : decode cX2_readCut 35 = .ok (.aload_n 1, 1) := by decide +kernel
theorem dX2_readCut_36 : decode cX2_readCut 36 = .ok (.ldc 126, 2) := by decide +kernel
theorem dX2_readCut_38 : decode cX2_readCut 38 = .ok (.invokevirtual 105, 3) := by decide +kernel
theorem dX2_readCut_41 : decode cX2_readCut 41 = .ok (.ifCond .eq 53, 3) := by decide +kernel
theorem dX2_readCut_44 : decode cX2_readCut 44 = .ok (.aload_n 1, 1) := by decide +kernel
theorem dX2_readCut_45 : decode cX2_readCut 45 = .ok (.invokevirtual 86, 3) := by decide +kernel
theorem dX2_readCut_48 : decode cX2_readCut 48 = .ok (.aload_n 1, 1) := by decide +kernel
theorem dX2_readCut_49 : decode cX2_readCut 49 = .ok (.iconst 0, 1) := by decide +kernel
theorem dX2_readCut_50 : decode cX2_readCut 50 = .ok (.iload 6, 2) := by decide +kernel
theorem dX2_readCut_52 : decode cX2_readCut 52 = .ok (.invokevirtual 95, 3) := by decide +kernel
theorem dX2_readCut_55 : decode cX2_readCut 55 = .ok (.ifCond .ne 5, 3) := by decide +kernel
theorem dX2_readCut_58 : decode cX2_readCut 58 = .ok (.iconst 0, 1) := by decide +kernel
theorem dX2_readCut_59 : decode cX2_readCut 59 = .ok (.ireturn, 1) := by decide +kernel
theorem dX2_readCut_60 : decode cX2_readCut 60 = .ok (.aload_n 1, 1) := by decide +kernel
theorem dX2_readCut_61 : decode cX2_readCut 61 = .ok (.getfield 120, 3) := by decide +kernel
theorem dX2_readCut_64 : decode cX2_readCut 64 = .ok (.istore 5, 2) := by decide +kernel
theorem dX2_readCut_66 : decode cX2_readCut 66 = .ok (.aload_n 1, 1) := by decide +kernel
theorem dX2_readCut_67 : decode cX2_readCut 67 = .ok (.ldc 128, 2) := by decide +kernel
theorem dX2_readCut_69 : decode cX2_readCut 69 = .ok (.invokevirtual 130, 3) := by decide +kernel
theorem dX2_readCut_72 : decode cX2_readCut 72 = .ok (.ifCond .eq 14, 3) := by decide +kernel
theorem dX2_readCut_75 : decode cX2_readCut 75 = .ok (.aload_n 1, 1) := by decide +kernel
theorem dX2_readCut_76 : decode cX2_readCut 76 = .ok (.iload 5, 2) := by decide +kernel
theorem dX2_readCut_78 : decode cX2_readCut 78 = .ok (.iload 6, 2) := by decide +kernel
theorem dX2_readCut_80 : decode cX2_readCut 80 = .ok (.invokevirtual 95, 3) := by decide +kernel
theorem dX2_readCut_83 : decode cX2_readCut 83 = .ok (.ifCond .ne 5, 3) := by decide +kernel
theorem dX2_readCut_86 : decode cX2_readCut 86 = .ok (.iconst 0, 1) := by decide +kernel
theorem dX2_readCut_87 : decode cX2_readCut 87 = .ok (.ireturn, 1) := by decide +kernel
theorem dX2_readCut_88 : decode cX2_readCut 88 = .ok (.aload_n 1, 1) := by decide +kernel
theorem dX2_readCut_89 : decode cX2_readCut 89 = .ok (.getfield 120, 3) := by decide +kernel
theorem dX2_readCut_92 : decode cX2_readCut 92 = .ok (.istore 6, 2) := by decide +kernel
theorem dX2_readCut_94 : decode cX2_readCut 94 = .ok (.aload_n 0, 1) := by decide +kernel
theorem dX2_readCut_95 : decode cX2_readCut 95 = .ok (.iconst 0, 1) := by decide +kernel
theorem dX2_readCut_96 : decode cX2_readCut 96 = .ok (.iload 4, 2) := by decide +kernel
theorem dX2_readCut_98 : decode cX2_readCut 98 = .ok (.iload 5, 2) := by decide +kernel
theorem dX2_readCut_100 : decode cX2_readCut 100 = .ok (.iload 6, 2) := by decide +kernel
theorem dX2_readCut_102 : decode cX2_readCut 102 = .ok (.iload_n 3, 1) := by decide +kernel
theorem dX2_readCut_103 : decode cX2_readCut 103 = .ok (.invokevirtual 44, 3) := by decide +kernel
theorem dX2_readCut_106 : decode cX2_readCut 106 = .ok (.iconst 1, 1) := by decide +kernel
theorem dX2_readCut_107 : decode cX2_readCut 107 = .ok (.ireturn, 1) := by decide +kernel
theorem dX2_readMap_0 : decode cX2_readMap 0 = .ok (.aload_n 1, 1) := by decide +kernel
theorem dX2_readMap_1 : decode cX2_readMap 1 = .ok (.iconst 0, 1) := by decide +kernel
theorem dX2_readMap_2 : decode cX2_readMap 2 = .ok (.aload_n 2, 1) := by decide +kernel
theorem dX2_readMap_3 : decode cX2_readMap 3 = .ok (.getfield 133, 3) := by decide +kernel
theorem dX2_readMap_6 : decode cX2_readMap 6 = .ok (.iconst 1, 1) := by decide +kernel
theorem dX2_readMap_7 : decode cX2_readMap 7 = .ok (.isub, 1) := by decide +kernel
theorem dX2_readMap_8 : decode cX2_readMap 8 = .ok (.invokevirtual 95, 3) := by decide +kernel
theorem dX2_readMap_11 : decode cX2_readMap 11 = .ok (.ifCond .ne 5, 3) := by decide +kernel
theorem dX2_readMap_14 : decode cX2_readMap 14 = .ok (.iconst 0, 1) := by decide +kernel
theorem dX2_readMap_15 : decode cX2_readMap 15 = .ok (.ireturn, 1) := by decide +kernel
theorem dX2_readMap_16 : decode cX2_readMap 16 = .ok (.aload_n 1, 1) := by decide +kernel
theorem dX2_readMap_17 : decode cX2_readMap 17 = .ok (.getfield 120, 3) := by decide +kernel
theorem dX2_readMap_20 : decode cX2_readMap 20 = .ok (.istore 4, 2) := by decide +kernel
theorem dX2_readMap_22 : decode cX2_readMap 22 = .ok (.aload_n 1, 1) := by decide +kernel
theorem dX2_readMap_23 : decode cX2_readMap 23 = .ok (.iconst 1, 1) := by decide +kernel
theorem dX2_readMap_24 : decode cX2_readMap 24 = .ok (.sipush 400, 3) := by decide +kernel
theorem dX2_readMap_27 : decode cX2_readMap 27 = .ok (.invokevirtual 95, 3) := by decide +kernel
theorem dX2_readMap_30 : decode cX2_readMap 30 = .ok (.ifCond .ne 5, 3) := by decide +kernel
theorem dX2_readMap_33 : decode cX2_readMap 33 = .ok (.iconst 0, 1) := by decide +kernel
theorem dX2_readMap_34 : decode cX2_readMap 34 = .ok (.ireturn, 1) := by decide +kernel
theorem dX2_readMap_35 : decode cX2_readMap 35 = .ok (.aload_n 0, 1) := by decide +kernel
theorem dX2_readMap_36 : decode cX2_readMap 36 = .ok (.iconst 1, 1) := by decide +kernel
theorem dX2_readMap_37 : decode cX2_readMap 37 = .ok (.iload 4, 2) := by decide +kernel
theorem dX2_readMap_39 : decode cX2_readMap 39 = .ok (.iconst 0, 1) := by decide +kernel
theorem dX2_readMap_40 : decode cX2_readMap 40 = .ok (.aload_n 1, 1) := by decide +kernel
theorem dX2_readMap_41 : decode cX2_readMap 41 = .ok (.getfield 120, 3) := by decide +kernel
theorem dX2_readMap_44 : decode cX2_readMap 44 = .ok (.iconst 1, 1) := by decide +kernel
theorem dX2_readMap_45 : decode cX2_readMap 45 = .ok (.isub, 1) := by decide +kernel
theorem dX2_readMap_46 : decode cX2_readMap 46 = .ok (.iload_n 3, 1) := by decide +kernel
theorem dX2_readMap_47 : decode cX2_readMap 47 = .ok (.invokevirtual 44, 3) := by decide +kernel
theorem dX2_readMap_50 : decode cX2_readMap 50 = .ok (.iconst 1, 1) := by decide +kernel
theorem dX2_readMap_51 : decode cX2_readMap 51 = .ok (.ireturn, 1) := by decide +kernel
theorem dX2_readBlock_0 : decode cX2_readBlock 0 = .ok (.aload_n 0, 1) := by decide +kernel
theorem dX2_readBlock_1 : decode cX2_readBlock 1 = .ok (.iload_n 1, 1) := by decide +kernel
theorem dX2_readBlock_2 : decode cX2_readBlock 2 = .ok (.aload_n 2, 1) := by decide +kernel
theorem dX2_readBlock_3 : decode cX2_readBlock 3 = .ok (.getfield 120, 3) := by decide +kernel
theorem dX2_readBlock_6 : decode cX2_readBlock 6 = .ok (.iconst 0, 1) := by decide +kernel
theorem dX2_readBlock_7 : decode cX2_readBlock 7 = .ok (.iconst 0, 1) := by decide +kernel
theorem dX2_readBlock_8 : decode cX2_readBlock 8 = .ok (.iload 4, 2) := by decide +kernel
theorem dX2_readBlock_10 : decode cX2_readBlock 10 = .ok (.invokevirtual 44, 3) := by decide +kernel
theorem dX2_readBlock_13 : decode cX2_readBlock 13 = .ok (.aload_n 2, 1) := by decide +kernel
theorem dX2_readBlock_14 : decode cX2_readBlock 14 = .ok (.getfield 73, 3) := by decide +kernel
theorem dX2_readBlock_17 : decode cX2_readBlock 17 = .ok (.iconst 4, 1) := by decide +kernel
theorem dX2_readBlock_18 : decode cX2_readBlock 18 = .ok (.if_icmp .ne 15, 3) := by decide +kernel
theorem dX2_readBlock_21 : decode cX2_readBlock 21 = .ok (.iload 4, 2) := by decide +kernel
theorem dX2_readBlock_23 : decode cX2_readBlock 23 = .ok (.iconst 4, 1) := by decide +kernel
theorem dX2_readBlock_24 : decode cX2_readBlock 24 = .ok (.if_icmp .lt 9, 3) := by decide +kernel
theorem dX2_readBlock_27 : decode cX2_readBlock 27 = .ok (.aload_n 2, 1) := by decide +kernel
theorem dX2_readBlock_28 : decode cX2_readBlock 28 = .ok (.iconst 5, 1) := by decide +kernel
theorem dX2_readBlock_29 : decode cX2_readBlock 29 = .ok (.invokevirtual 83, 3) := by decide +kernel
theorem dX2_readBlock_32 : decode cX2_readBlock 32 = .ok (.ireturn, 1) := by decide +kernel
theorem dX2_readBlock_33 : decode cX2_readBlock 33 = .ok (.aload_n 2, 1) := by decide +kernel
theorem dX2_readBlock_34 : decode cX2_readBlock 34 = .ok (.iconst 4, 1) := by decide +kernel
theorem dX2_readBlock_35 : decode cX2_readBlock 35 = .ok (.invokevirtual 70, 3) := by decide +kernel
theorem dX2_readBlock_38 : decode cX2_readBlock 38 = .ok (.ifCond .eq 28, 3) := by decide +kernel
theorem dX2_readBlock_41 : decode cX2_readBlock 41 = .ok (.aload_n 0, 1) := by decide +kernel
theorem dX2_readBlock_42 : decode cX2_readBlock 42 = .ok (.aload_n 2, 1) := by decide +kernel
theorem dX2_readBlock_43 : decode cX2_readBlock 43 = .ok (.aload_n 3, 1) := by decide +kernel
theorem dX2_readBlock_44 : decode cX2_readBlock 44 = .ok (.iload 4, 2) := by decide +kernel
theorem dX2_readBlock_46 : decode cX2_readBlock 46 = .ok (.iconst 1, 1) := by decide +kernel
theorem dX2_readBlock_47 : decode cX2_readBlock 47 = .ok (.iadd, 1) := by decide +kernel
theorem dX2_readBlock_48 : decode cX2_readBlock 48 = .ok (.invokevirtual 66, 3) := by decide +kernel
theorem dX2_readBlock_51 : decode cX2_readBlock 51 = .ok (.ifCond .eq 15, 3) := by decide +kernel
theorem dX2_readBlock_54 : decode cX2_readBlock 54 = .ok (.aload_n 2, 1) := by decide +kernel
theorem dX2_readBlock_55 : decode cX2_readBlock 55 = .ok (.iconst 5, 1) := by decide +kernel
theorem dX2_readBlock_56 : decode cX2_readBlock 56 = .ok (.invokevirtual 70, 3) := by decide +kernel
theorem dX2_readBlock_59 : decode cX2_readBlock 59 = .ok (.ifCond .eq 7, 3) := by decide +kernel
theorem dX2_readBlock_62 : decode cX2_readBlock 62 = .ok (.iconst 1, 1) := by decide +kernel
theorem dX2_readBlock_63 : decode cX2_readBlock 63 = .ok (.goto 4, 3) := by decide +kernel
theorem dX2_readBlock_66 : decode cX2_readBlock 66 = .ok (.iconst 0, 1) := by decide +kernel
theorem dX2_readBlock_67 : decode cX2_readBlock 67 = .ok (.ireturn, 1) := by decide +kernel
theorem dX3_init_0 : decode cX3_init 0 = .ok (.aload_n 0, 1) := by decide +kernel
theorem dX3_init_1 : decode cX3_init 1 = .ok (.invokespecial 3, 3) := by decide +kernel
theorem dX3_init_4 : decode cX3_init 4 = .ok (.aload_n 0, 1) := by decide +kernel
theorem dX3_init_5 : decode cX3_init 5 = .ok (.iconst 0, 1) := by decide +kernel
theorem dX3_init_6 : decode cX3_init 6 = .ok (.putfield 9, 3) := by decide +kernel
theorem dX3_init_9 : decode cX3_init 9 = .ok (.aload_n 0, 1) := by decide +kernel
theorem dX3_init_10 : decode cX3_init 10 = .ok (.bipush 12, 2) := by decide +kernel
theorem dX3_init_12 : decode cX3_init 12 = .ok (.newarray .int, 2) := by decide +kernel
theorem dX3_init_14 : decode cX3_init 14 = .ok (.putfield 15, 3) := by decide +kernel
theorem dX3_init_17 : decode cX3_init 17 = .ok (.aload_n 0, 1) := by decide +kernel
theorem dX3_init_18 : decode cX3_init 18 = .ok (.bipush 12, 2) := by decide +kernel
theorem dX3_init_20 : decode cX3_init 20 = .ok (.newarray .int, 2) := by decide +kernel
theorem dX3_init_22 : decode cX3_init 22 = .ok (.putfield 19, 3) := by decide +kernel
theorem dX3_init_25 : decode cX3_init 25 = .ok (.aload_n 0, 1) := by decide +kernel
theorem dX3_init_26 : decode cX3_init 26 = .ok (.iconst 0, 1) := by decide +kernel
theorem dX3_init_27 : decode cX3_init 27 = .ok (.putfield 22, 3) := by decide +kernel
theorem dX3_init_30 : decode cX3_init 30 = .ok (.aload_n 0, 1) := by decide +kernel
theorem dX3_init_31 : decode cX3_init 31 = .ok (.bipush 48, 2) := by decide +kernel
theorem dX3_init_33 : decode cX3_init 33 = .ok (.newarray .byte, 2) := by decide +kernel
theorem dX3_init_35 : decode cX3_init 35 = .ok (.putfield 25, 3) := by decide +kernel
theorem dX3_init_38 : decode cX3_init 38 = .ok (.aload_n 0, 1) := by decide +kernel
theorem dX3_init_39 : decode cX3_init 39 = .ok (.bipush 6, 2) := by decide +kernel
theorem dX3_init_41 : decode cX3_init 41 = .ok (.newarray .int, 2) := by decide +kernel
theorem dX3_init_43 : decode cX3_init 43 = .ok (.putfield 29, 3) := by decide +kernel
theorem dX3_init_46 : decode cX3_init 46 = .ok (.aload_n 0, 1) := by decide +kernel
theorem dX3_init_47 : decode cX3_init 47 = .ok (.iconst 0, 1) := by decide +kernel
theorem dX3_init_48 : decode cX3_init 48 = .ok (.putfield 32, 3) := by decide +kernel
theorem dX3_init_51 : decode cX3_init 51 = .ok (.aload_n 0, 1) := by decide +kernel
theorem dX3_init_52 : decode cX3_init 52 = .ok (.bipush 10, 2) := by decide +kernel
theorem dX3_init_54 : decode cX3_init 54 = .ok (.newarray .int, 2) := by decide +kernel
theorem dX3_init_56 : decode cX3_init 56 = .ok (.putfield 35, 3) := by decide +kernel
theorem dX3_init_59 : decode cX3_init 59 = .ok (.aload_n 0, 1) := by decide +kernel
theorem dX3_init_60 : decode cX3_init 60 = .ok (.bipush 10, 2) := by decide +kernel
theorem dX3_init_62 : decode cX3_init 62 = .ok (.newarray .int, 2) := by decide +kernel
theorem dX3_init_64 : decode cX3_init 64 = .ok (.putfield 38, 3) := by decide +kernel
theorem dX3_init_67 : decode cX3_init 67 = .ok (.aload_n 0, 1) := by decide +kernel
theorem dX3_init_68 : decode cX3_init 68 = .ok (.bipush 10, 2) := by decide +kernel
theorem dX3_init_70 : decode cX3_init 70 = .ok (.newarray .int, 2) := by decide +kernel
theorem dX3_init_72 : decode cX3_init 72 = .ok (.putfield 41, 3) := by decide +kernel
theorem dX3_init_75 : decode cX3_init 75 = .ok (.aload_n 0, 1) := by decide +kernel
theorem dX3_init_76 : decode cX3_init 76 = .ok (.iconst 5, 1) := by decide +kernel
theorem dX3_init_77 : decode cX3_init 77 = .ok (.newarray .int, 2) := by decide +kernel
theorem dX3_init_79 : decode cX3_init 79 = .ok (.putfield 44, 3) := by decide +kernel
theorem dX3_init_82 : decode cX3_init 82 = .ok (.aload_n 0, 1) := by decide +kernel
theorem dX3_init_83 : decode cX3_init 83 = .ok (.iconst 5, 1) := by decide +kernel
theorem dX3_init_84 : decode cX3_init 84 = .ok (.newarray .boolean, 2) := by decide +kernel
theorem dX3_init_86 : decode cX3_init 86 = .ok (.putfield 47, 3) := by decide +kernel
theorem dX3_init_89 : decode cX3_init 89 = .ok (.getstatic 51, 3) := by decide +kernel
theorem dX3_init_92 : decode cX3_init 92 = .ok (.iconst 0, 1) := by decide +kernel
theorem dX3_init_93 : decode cX3_init 93 = .ok (.aload_n 0, 1) := by decide +kernel
theorem dX3_init_94 : decode cX3_init 94 = .ok (.getfield 44, 3) := by decide +kernel
theorem dX3_init_97 : decode cX3_init 97 = .ok (.iconst 0, 1) := by decide +kernel
theorem dX3_init_98 : decode cX3_init 98 = .ok (.iconst 5, 1) := by decide +kernel
theorem dX3_init_99 : decode cX3_init 99 = .ok (.invokestatic 54, 3) := by decide +kernel
theorem dX3_init_102 : decode cX3_init 102 = .ok (.return_, 1) := by decide +kernel
theorem dX3_copyFrom_0 : decode cX3_copyFrom 0 = .ok (.aload_n 0, 1) := by decide +kernel
theorem dX3_copyFrom_1 : decode cX3_copyFrom 1 = .ok (.aload_n 1, 1) := by decide +kernel
theorem dX3_copyFrom_2 : decode cX3_copyFrom 2 = .ok (.getfield 9, 3) := by decide +kernel
theorem dX3_copyFrom_5 : decode cX3_copyFrom 5 = .ok (.putfield 9, 3) := by decide +kernel
theorem dX3_copyFrom_8 : decode cX3_copyFrom 8 = .ok (.aload_n 1, 1) := by decide +kernel
theorem dX3_copyFrom_9 : decode cX3_copyFrom 9 = .ok (.getfield 15, 3) := by decide +kernel
theorem dX3_copyFrom_12 : decode cX3_copyFrom 12 = .ok (.iconst 0, 1) := by decide +kernel
theorem dX3_copyFrom_13 : decode cX3_copyFrom 13 = .ok (.aload_n 0, 1) := by decide +kernel
theorem dX3_copyFrom_14 : decode cX3_copyFrom 14 = .ok (.getfield 15, 3) := by decide +kernel
theorem dX3_copyFrom_17 : decode cX3_copyFrom 17 = .ok (.iconst 0, 1) := by decide +kernel
theorem dX3_copyFrom_18 : decode cX3_copyFrom 18 = .ok (.bipush 12, 2) := by decide +kernel
theorem dX3_copyFrom_20 : decode cX3_copyFrom 20 = .ok (.invokestatic 54, 3) := by decide +kernel
theorem dX3_copyFrom_23 : decode cX3_copyFrom 23 = .ok (.aload_n 1, 1) := by decide +kernel
theorem dX3_copyFrom_24 : decode cX3_copyFrom 24 = .ok (.getfield 19, 3) := by decide +kernel
theorem dX3_copyFrom_27 : decode cX3_copyFrom 27 = .ok (.iconst 0, 1) := by decide +kernel
theorem dX3_copyFrom_28 : decode cX3_copyFrom 28 = .ok (.aload_n 0, 1) := by decide +kernel
theorem dX3_copyFrom_29 : decode cX3_copyFrom 29 = .ok (.getfield 19, 3) := by decide +kernel
theorem dX3_copyFrom_32 : decode cX3_copyFrom 32 = .ok (.iconst 0, 1) := by decide +kernel
theorem dX3_copyFrom_33 : decode cX3_copyFrom 33 = .ok (.bipush 12, 2) := by decide +kernel
theorem dX3_copyFrom_35 : decode cX3_copyFrom 35 = .ok (.invokestatic 54, 3) := by decide +kernel
theorem dX3_copyFrom_38 : decode cX3_copyFrom 38 = .ok (.aload_n 0, 1) := by decide +kernel
theorem dX3_copyFrom_39 : decode cX3_copyFrom 39 = .ok (.aload_n 1, 1) := by decide +kernel
theorem dX3_copyFrom_40 : decode cX3_copyFrom 40 = .ok (.getfield 22, 3) := by decide +kernel
theorem dX3_copyFrom_43 : decode cX3_copyFrom 43 = .ok (.putfield 22, 3) := by decide +kernel
theorem dX3_copyFrom_46 : decode cX3_copyFrom 46 = .ok (.aload_n 1, 1) := by decide +kernel
theorem dX3_copyFrom_47 : decode cX3_copyFrom 47 = .ok (.getfield 25, 3) := by decide +kernel
theorem dX3_copyFrom_50 : decode cX3_copyFrom 50 = .ok (.iconst 0, 1) := by decide +kernel
theorem dX3_copyFrom_51 : decode cX3_copyFrom 51 = .ok (.aload_n 0, 1) := by decide +kernel
theorem dX3_copyFrom_52 : decode cX3_copyFrom 52 = .ok (.getfield 25, 3) := by decide +kernel
theorem dX3_copyFrom_55 : decode cX3_copyFrom 55 = .ok (.iconst 0, 1) := by decide +kernel
theorem dX3_copyFrom_56 : decode cX3_copyFrom 56 = .ok (.bipush 48, 2) := by decide +kernel
theorem dX3_copyFrom_58 : decode cX3_copyFrom 58 = .ok (.invokestatic 54, 3) := by decide +kernel
theorem dX3_copyFrom_61 : decode cX3_copyFrom 61 = .ok (.aload_n 1, 1) := by decide +kernel
theorem dX3_copyFrom_62 : decode cX3_copyFrom 62 = .ok (.getfield 29, 3) := by decide +kernel
theorem dX3_copyFrom_65 : decode cX3_copyFrom 65 = .ok (.iconst 0, 1) := by decide +kernel
theorem dX3_copyFrom_66 : decode cX3_copyFrom 66 = .ok (.aload_n 0, 1) := by decide +kernel
theorem dX3_copyFrom_67 : decode cX3_copyFrom 67 = .ok (.getfield 29, 3) := by decide +kernel
theorem dX3_copyFrom_70 : decode cX3_copyFrom 70 = .ok (.iconst 0, 1) := by decide +kernel
theorem dX3_copyFrom_71 : decode cX3_copyFrom 71 = .ok (.bipush 6, 2) := by decide +kernel
theorem dX3_copyFrom_73 : decode cX3_copyFrom 73 = .ok (.invokestatic 54, 3) := by decide +kernel
theorem dX3_copyFrom_76 : decode cX3_copyFrom 76 = .ok (.aload_n 0, 1) := by decide +kernel
theorem dX3_copyFrom_77 : decode cX3_copyFrom 77 = .ok (.aload_n 1, 1) := by decide +kernel
theorem dX3_copyFrom_78 : decode cX3_copyFrom 78 = .ok (.getfield 32, 3) := by decide +kernel
theorem dX3_copyFrom_81 : decode cX3_copyFrom 81 = .ok (.putfield 32, 3) := by decide +kernel
theorem dX3_copyFrom_84 : decode cX3_copyFrom 84 = .ok (.aload_n 1, 1) := by decide +kernel
theorem dX3_copyFrom_85 : decode cX3_copyFrom 85 = .ok (.getfield 35, 3) := by decide +kernel
theorem dX3_copyFrom_88 : decode cX3_copyFrom 88 = .ok (.iconst 0, 1) := by decide +kernel
theorem dX3_copyFrom_89 : decode cX3_copyFrom 89 = .ok (.aload_n 0, 1) := by decide +kernel
theorem dX3_copyFrom_90 : decode cX3_copyFrom 90 = .ok (.getfield 35, 3) := by decide +kernel
theorem dX3_copyFrom_93 : decode cX3_copyFrom 93 = .ok (.iconst 0, 1) := by decide +kernel
theorem dX3_copyFrom_94 : decode cX3_copyFrom 94 = .ok (.bipush 10, 2) := by decide +kernel
theorem dX3_copyFrom_96 : decode cX3_copyFrom 96 = .ok (.invokestatic 54, 3) := by decide +kernel
theorem dX3_copyFrom_99 : decode cX3_copyFrom 99 = .ok (.aload_n 1, 1) := by decide +kernel
theorem dX3_copyFrom_100 : decode cX3_copyFrom 100 = .ok (.getfield 38, 3) := by decide +kernel
theorem dX3_copyFrom_103 : decode cX3_copyFrom 103 = .ok (.iconst 0, 1) := by decide +kernel
theorem dX3_copyFrom_104 : decode cX3_copyFrom 104 = .ok (.aload_n 0, 1) := by decide +kernel
theorem dX3_copyFrom_105 : decode cX3_copyFrom 105 = .ok (.getfield 38, 3) := by decide +kernel
theorem dX3_copyFrom_108 : decode cX3_copyFrom 108 = .ok (.iconst 0, 1) := by decide +kernel
theorem dX3_copyFrom_109 : decode cX3_copyFrom 109 = .ok (.bipush 10, 2) := by decide +kernel
theorem dX3_copyFrom_111 : decode cX3_copyFrom 111 = .ok (.invokestatic 54, 3) := by decide +kernel
theorem dX3_copyFrom_114 : decode cX3_copyFrom 114 = .ok (.aload_n 1, 1) := by decide +kernel
theorem dX3_copyFrom_115 : decode cX3_copyFrom 115 = .ok (.getfield 41, 3) := by decide +kernel
theorem dX3_copyFrom_118 : decode cX3_copyFrom 118 = .ok (.iconst 0, 1) := by decide +kernel
theorem dX3_copyFrom_119 : decode cX3_copyFrom 119 = .ok (.aload_n 0, 1) := by decide +kernel
theorem dX3_copyFrom_120 : decode cX3_copyFrom 120 = .ok (.getfield 41, 3) := by decide +kernel
theorem dX3_copyFrom_123 : decode cX3_copyFrom 123 = .ok (.iconst 0, 1) := by decide +kernel
theorem dX3_copyFrom_124 : decode cX3_copyFrom 124 = .ok (.bipush 10, 2) := by decide +kernel
theorem dX3_copyFrom_126 : decode cX3_copyFrom 126 = .ok (.invokestatic 54, 3) := by decide +kernel
theorem dX3_copyFrom_129 : decode cX3_copyFrom 129 = .ok (.aload_n 1, 1) := by decide +kernel
theorem dX3_copyFrom_130 : decode cX3_copyFrom 130 = .ok (.getfield 44, 3) := by decide +kernel
theorem dX3_copyFrom_133 : decode cX3_copyFrom 133 = .ok (.iconst 0, 1) := by decide +kernel
theorem dX3_copyFrom_134 : decode cX3_copyFrom 134 = .ok (.aload_n 0, 1) := by decide +kernel
theorem dX3_copyFrom_135 : decode cX3_copyFrom 135 = .ok (.getfield 44, 3) := by decide +kernel
theorem dX3_copyFrom_138 : decode cX3_copyFrom 138 = .ok (.iconst 0, 1) := by decide +kernel
theorem dX3_copyFrom_139 : decode cX3_copyFrom 139 = .ok (.iconst 5, 1) := by decide +kernel
theorem dX3_copyFrom_140 : decode cX3_copyFrom 140 = .ok (.invokestatic 54, 3) := by decide +kernel
theorem dX3_copyFrom_143 : decode cX3_copyFrom 143 = .ok (.return_, 1) := by decide +kernel
theorem dX3_cameraOf_0 : decode cX3_cameraOf 0 = .ok (.iload_n 1, 1) := by decide +kernel
theorem dX3_cameraOf_1 : decode cX3_cameraOf 1 = .ok (.ifCond .lt 20, 3) := by decide +kernel
theorem dX3_cameraOf_4 : decode cX3_cameraOf 4 = .ok (.iload_n 1, 1) := by decide +kernel
theorem dX3_cameraOf_5 : decode cX3_cameraOf 5 = .ok (.aload_n 0, 1) := by decide +kernel
theorem dX3_cameraOf_6 : decode cX3_cameraOf 6 = .ok (.getfield 9, 3) := by decide +kernel
theorem dX3_cameraOf_9 : decode cX3_cameraOf 9 = .ok (.if_icmp .ge 12, 3) := by decide +kernel
theorem dX3_cameraOf_12 : decode cX3_cameraOf 12 = .ok (.aload_n 0, 1) := by decide +kernel
theorem dX3_cameraOf_13 : decode cX3_cameraOf 13 = .ok (.getfield 15, 3) := by decide +kernel
theorem dX3_cameraOf_16 : decode cX3_cameraOf 16 = .ok (.iload_n 1, 1) := by decide +kernel
theorem dX3_cameraOf_17 : decode cX3_cameraOf 17 = .ok (.iaload, 1) := by decide +kernel
theorem dX3_cameraOf_18 : decode cX3_cameraOf 18 = .ok (.goto 4, 3) := by decide +kernel
theorem dX3_cameraOf_21 : decode cX3_cameraOf 21 = .ok (.iconst (-1), 1) := by decide +kernel
theorem dX3_cameraOf_22 : decode cX3_cameraOf 22 = .ok (.ireturn, 1) := by decide +kernel
theorem dX3_lengthOf_0 : decode cX3_lengthOf 0 = .ok (.iload_n 1, 1) := by decide +kernel
theorem dX3_lengthOf_1 : decode cX3_lengthOf 1 = .ok (.ifCond .lt 20, 3) := by decide +kernel
theorem dX3_lengthOf_4 : decode cX3_lengthOf 4 = .ok (.iload_n 1, 1) := by decide +kernel
theorem dX3_lengthOf_5 : decode cX3_lengthOf 5 = .ok (.aload_n 0, 1) := by decide +kernel
theorem dX3_lengthOf_6 : decode cX3_lengthOf 6 = .ok (.getfield 9, 3) := by decide +kernel
theorem dX3_lengthOf_9 : decode cX3_lengthOf 9 = .ok (.if_icmp .ge 12, 3) := by decide +kernel
theorem dX3_lengthOf_12 : decode cX3_lengthOf 12 = .ok (.aload_n 0, 1) := by decide +kernel
theorem dX3_lengthOf_13 : decode cX3_lengthOf 13 = .ok (.getfield 19, 3) := by decide +kernel
theorem dX3_lengthOf_16 : decode cX3_lengthOf 16 = .ok (.iload_n 1, 1) := by decide +kernel
theorem dX3_lengthOf_17 : decode cX3_lengthOf 17 = .ok (.iaload, 1) := by decide +kernel
theorem dX3_lengthOf_18 : decode cX3_lengthOf 18 = .ok (.goto 4, 3) := by decide +kernel
theorem dX3_lengthOf_21 : decode cX3_lengthOf 21 = .ok (.iconst 0, 1) := by decide +kernel
theorem dX3_lengthOf_22 : decode cX3_lengthOf 22 = .ok (.ireturn, 1) := by decide +kernel
theorem dX3_nameLengthOf_0 : decode cX3_nameLengthOf 0 = .ok (.iload_n 1, 1) := by decide +kernel
theorem dX3_nameLengthOf_1 : decode cX3_nameLengthOf 1 = .ok (.ifCond .lt 20, 3) := by decide +kernel
theorem dX3_nameLengthOf_4 : decode cX3_nameLengthOf 4 = .ok (.iload_n 1, 1) := by decide +kernel
theorem dX3_nameLengthOf_5 : decode cX3_nameLengthOf 5 = .ok (.aload_n 0, 1) := by decide +kernel
theorem dX3_nameLengthOf_6 : decode cX3_nameLengthOf 6 = .ok (.getfield 22, 3) := by decide +kernel
theorem dX3_nameLengthOf_9 : decode cX3_nameLengthOf 9 = .ok (.if_icmp .ge 12, 3) := by decide +kernel
theorem dX3_nameLengthOf_12 : decode cX3_nameLengthOf 12 = .ok (.aload_n 0, 1) := by decide +kernel
theorem dX3_nameLengthOf_13 : decode cX3_nameLengthOf 13 = .ok (.getfield 29, 3) := by decide +kernel
theorem dX3_nameLengthOf_16 : decode cX3_nameLengthOf 16 = .ok (.iload_n 1, 1) := by decide +kernel
theorem dX3_nameLengthOf_17 : decode cX3_nameLengthOf 17 = .ok (.iaload, 1) := by decide +kernel
theorem dX3_nameLengthOf_18 : decode cX3_nameLengthOf 18 = .ok (.goto 4, 3) := by decide +kernel
theorem dX3_nameLengthOf_21 : decode cX3_nameLengthOf 21 = .ok (.iconst 0, 1) := by decide +kernel
theorem dX3_nameLengthOf_22 : decode cX3_nameLengthOf 22 = .ok (.ireturn, 1) := by decide +kernel
theorem dX3_setting_0 : decode cX3_setting 0 = .ok (.iload_n 1, 1) := by decide +kernel
theorem dX3_setting_1 : decode cX3_setting 1 = .ok (.ifCond .lt 17, 3) := by decide +kernel
theorem dX3_setting_4 : decode cX3_setting 4 = .ok (.iload_n 1, 1) := by decide +kernel
theorem dX3_setting_5 : decode cX3_setting 5 = .ok (.iconst 5, 1) := by decide +kernel
theorem dX3_setting_6 : decode cX3_setting 6 = .ok (.if_icmp .ge 12, 3) := by decide +kernel
theorem dX3_setting_9 : decode cX3_setting 9 = .ok (.aload_n 0, 1) := by decide +kernel
theorem dX3_setting_10 : decode cX3_setting 10 = .ok (.getfield 44, 3) := by decide +kernel
theorem dX3_setting_13 : decode cX3_setting 13 = .ok (.iload_n 1, 1) := by decide +kernel
theorem dX3_setting_14 : decode cX3_setting 14 = .ok (.iaload, 1) := by decide +kernel
theorem dX3_setting_15 : decode cX3_setting 15 = .ok (.goto 4, 3) := by decide +kernel
theorem dX3_setting_18 : decode cX3_setting 18 = .ok (.iconst 0, 1) := by decide +kernel
theorem dX3_setting_19 : decode cX3_setting 19 = .ok (.ireturn, 1) := by decide +kernel
theorem dX3_set_0 : decode cX3_set 0 = .ok (.iload_n 1, 1) := by decide +kernel
theorem dX3_set_1 : decode cX3_set 1 = .ok (.ifCond .lt 15, 3) := by decide +kernel
theorem dX3_set_4 : decode cX3_set 4 = .ok (.iload_n 1, 1) := by decide +kernel
theorem dX3_set_5 : decode cX3_set 5 = .ok (.iconst 5, 1) := by decide +kernel
theorem dX3_set_6 : decode cX3_set 6 = .ok (.if_icmp .ge 10, 3) := by decide +kernel
theorem dX3_set_9 : decode cX3_set 9 = .ok (.aload_n 0, 1) := by decide +kernel
theorem dX3_set_10 : decode cX3_set 10 = .ok (.getfield 44, 3) := by decide +kernel
theorem dX3_set_13 : decode cX3_set 13 = .ok (.iload_n 1, 1) := by decide +kernel
theorem dX3_set_14 : decode cX3_set 14 = .ok (.iload_n 2, 1) := by decide +kernel
theorem dX3_set_15 : decode cX3_set 15 = .ok (.iastore, 1) := by decide +kernel
theorem dX3_set_16 : decode cX3_set 16 = .ok (.return_, 1) := by decide +kernel
theorem dX3_shotsOf_0 : decode cX3_shotsOf 0 = .ok (.iconst 0, 1) := by decide +kernel
theorem dX3_shotsOf_1 : decode cX3_shotsOf 1 = .ok (.istore_n 2, 1) := by decide +kernel
theorem dX3_shotsOf_2 : decode cX3_shotsOf 2 = .ok (.iconst 0, 1) := by decide +kernel
theorem dX3_shotsOf_3 : decode cX3_shotsOf 3 = .ok (.istore_n 3, 1) := by decide +kernel
theorem dX3_shotsOf_4 : decode cX3_shotsOf 4 = .ok (.iload_n 3, 1) := by decide +kernel
theorem dX3_shotsOf_5 : decode cX3_shotsOf 5 = .ok (.aload_n 0, 1) := by decide +kernel
theorem dX3_shotsOf_6 : decode cX3_shotsOf 6 = .ok (.getfield 9, 3) := by decide +kernel
theorem dX3_shotsOf_9 : decode cX3_shotsOf 9 = .ok (.if_icmp .ge 22, 3) := by decide +kernel
theorem dX3_shotsOf_12 : decode cX3_shotsOf 12 = .ok (.aload_n 0, 1) := by decide +kernel
theorem dX3_shotsOf_13 : decode cX3_shotsOf 13 = .ok (.getfield 15, 3) := by decide +kernel
theorem dX3_shotsOf_16 : decode cX3_shotsOf 16 = .ok (.iload_n 3, 1) := by decide +kernel
theorem dX3_shotsOf_17 : decode cX3_shotsOf 17 = .ok (.iaload, 1) := by decide +kernel
theorem dX3_shotsOf_18 : decode cX3_shotsOf 18 = .ok (.iload_n 1, 1) := by decide +kernel
theorem dX3_shotsOf_19 : decode cX3_shotsOf 19 = .ok (.if_icmp .ne 6, 3) := by decide +kernel
theorem dX3_shotsOf_22 : decode cX3_shotsOf 22 = .ok (.iinc 2 1, 3) := by decide +kernel
theorem dX3_shotsOf_25 : decode cX3_shotsOf 25 = .ok (.iinc 3 1, 3) := by decide +kernel
theorem dX3_shotsOf_28 : decode cX3_shotsOf 28 = .ok (.goto (-24), 3) := by decide +kernel
theorem dX3_shotsOf_31 : decode cX3_shotsOf 31 = .ok (.iload_n 2, 1) := by decide +kernel
theorem dX3_shotsOf_32 : decode cX3_shotsOf 32 = .ok (.ireturn, 1) := by decide +kernel
theorem dX3_allowedShots_0 : decode cX3_allowedShots 0 = .ok (.iconst 0, 1) := by decide +kernel
theorem dX3_allowedShots_1 : decode cX3_allowedShots 1 = .ok (.istore_n 2, 1) := by decide +kernel
theorem dX3_allowedShots_2 : decode cX3_allowedShots 2 = .ok (.iconst 0, 1) := by decide +kernel
theorem dX3_allowedShots_3 : decode cX3_allowedShots 3 = .ok (.istore_n 3, 1) := by decide +kernel
theorem dX3_allowedShots_4 : decode cX3_allowedShots 4 = .ok (.iload_n 3, 1) := by decide +kernel
theorem dX3_allowedShots_5 : decode cX3_allowedShots 5 = .ok (.aload_n 0, 1) := by decide +kernel
theorem dX3_allowedShots_6 : decode cX3_allowedShots 6 = .ok (.getfield 9, 3) := by decide +kernel
theorem dX3_allowedShots_9 : decode cX3_allowedShots 9 = .ok (.if_icmp .ge 29, 3) := by decide +kernel
theorem dX3_allowedShots_12 : decode cX3_allowedShots 12 = .ok (.aload_n 0, 1) := by decide +kernel
theorem dX3_allowedShots_13 : decode cX3_allowedShots 13 = .ok (.aload_n 0, 1) := by decide +kernel
theorem dX3_allowedShots_14 : decode cX3_allowedShots 14 = .ok (.getfield 15, 3) := by decide +kernel
theorem dX3_allowedShots_17 : decode cX3_allowedShots 17 = .ok (.iload_n 3, 1) := by decide +kernel
theorem dX3_allowedShots_18 : decode cX3_allowedShots 18 = .ok (.iaload, 1) := by decide +kernel
theorem dX3_allowedShots_19 : decode cX3_allowedShots 19 = .ok (.iload_n 1, 1) := by decide +kernel
theorem dX3_allowedShots_20 : decode cX3_allowedShots 20 = .ok (.invokevirtual 60, 3) := by decide +kernel
theorem dX3_allowedShots_23 : decode cX3_allowedShots 23 = .ok (.ifCond .ne 9, 3) := by decide +kernel
theorem dX3_allowedShots_26 : decode cX3_allowedShots 26 = .ok (.iload_n 2, 1) := by decide +kernel
theorem dX3_allowedShots_27 : decode cX3_allowedShots 27 = .ok (.iconst 1, 1) := by decide +kernel
theorem dX3_allowedShots_28 : decode cX3_allowedShots 28 = .ok (.iload_n 3, 1) := by decide +kernel
theorem dX3_allowedShots_29 : decode cX3_allowedShots 29 = .ok (.ishl, 1) := by decide +kernel
theorem dX3_allowedShots_30 : decode cX3_allowedShots 30 = .ok (.ior, 1) := by decide +kernel
theorem dX3_allowedShots_31 : decode cX3_allowedShots 31 = .ok (.istore_n 2, 1) := by decide +kernel
theorem dX3_allowedShots_32 : decode cX3_allowedShots 32 = .ok (.iinc 3 1, 3) := by decide +kernel
theorem dX3_allowedShots_35 : decode cX3_allowedShots 35 = .ok (.goto (-31), 3) := by decide +kernel
theorem dX3_allowedShots_38 : decode cX3_allowedShots 38 = .ok (.iload_n 2, 1) := by decide +kernel
theorem dX3_allowedShots_39 : decode cX3_allowedShots 39 = .ok (.ireturn, 1) := by decide +kernel
theorem dX3_isBanned_0 : decode cX3_isBanned 0 = .ok (.iconst 0, 1) := by decide +kernel
theorem dX3_isBanned_1 : decode cX3_isBanned 1 = .ok (.istore_n 3, 1) := by decide +kernel
theorem dX3_isBanned_2 : decode cX3_isBanned 2 = .ok (.iload_n 3, 1) := by decide +kernel
theorem dX3_isBanned_3 : decode cX3_isBanned 3 = .ok (.aload_n 0, 1) := by decide +kernel
theorem dX3_isBanned_4 : decode cX3_isBanned 4 = .ok (.getfield 32, 3) := by decide +kernel
theorem dX3_isBanned_7 : decode cX3_isBanned 7 = .ok (.if_icmp .ge 41, 3) := by decide +kernel
theorem dX3_isBanned_10 : decode cX3_isBanned 10 = .ok (.aload_n 0, 1) := by decide +kernel
theorem dX3_isBanned_11 : decode cX3_isBanned 11 = .ok (.getfield 35, 3) := by decide +kernel
theorem dX3_isBanned_14 : decode cX3_isBanned 14 = .ok (.iload_n 3, 1) := by decide +kernel
theorem dX3_isBanned_15 : decode cX3_isBanned 15 = .ok (.iaload, 1) := by decide +kernel
theorem dX3_isBanned_16 : decode cX3_isBanned 16 = .ok (.iload_n 1, 1) := by decide +kernel
theorem dX3_isBanned_17 : decode cX3_isBanned 17 = .ok (.if_icmp .ne 25, 3) := by decide +kernel
theorem dX3_isBanned_20 : decode cX3_isBanned 20 = .ok (.aload_n 0, 1) := by decide +kernel
theorem dX3_isBanned_21 : decode cX3_isBanned 21 = .ok (.getfield 38, 3) := by decide +kernel
theorem dX3_isBanned_24 : decode cX3_isBanned 24 = .ok (.iload_n 3, 1) := by decide +kernel
theorem dX3_isBanned_25 : decode cX3_isBanned 25 = .ok (.iaload, 1) := by decide +kernel
theorem dX3_isBanned_26 : decode cX3_isBanned 26 = .ok (.iload_n 2, 1) := by decide +kernel
theorem dX3_isBanned_27 : decode cX3_isBanned 27 = .ok (.if_icmp .gt 15, 3) := by decide +kernel
theorem dX3_isBanned_30 : decode cX3_isBanned 30 = .ok (.iload_n 2, 1) := by decide +kernel
theorem dX3_isBanned_31 : decode cX3_isBanned 31 = .ok (.aload_n 0, 1) := by decide +kernel
theorem dX3_isBanned_32 : decode cX3_isBanned 32 = .ok (.getfield 41, 3) := by decide +kernel
theorem dX3_isBanned_35 : decode cX3_isBanned 35 = .ok (.iload_n 3, 1) := by decide +kernel
theorem dX3_isBanned_36 : decode cX3_isBanned 36 = .ok (.iaload, 1) := by decide +kernel
theorem dX3_isBanned_37 : decode cX3_isBanned 37 = .ok (.if_icmp .gt 5, 3) := by decide +kernel
theorem dX3_isBanned_40 : decode cX3_isBanned 40 = .ok (.iconst 1, 1) := by decide +kernel
theorem dX3_isBanned_41 : decode cX3_isBanned 41 = .ok (.ireturn, 1) := by decide +kernel
theorem dX3_isBanned_42 : decode cX3_isBanned 42 = .ok (.iinc 3 1, 3) := by decide +kernel
theorem dX3_isBanned_45 : decode cX3_isBanned 45 = .ok (.goto (-43), 3) := by decide +kernel
theorem dX3_isBanned_48 : decode cX3_isBanned 48 = .ok (.iconst 0, 1) := by decide +kernel
theorem dX3_isBanned_49 : decode cX3_isBanned 49 = .ok (.ireturn, 1) := by decide +kernel
theorem dX3_mapNamed_0 : decode cX3_mapNamed 0 = .ok (.iconst 0, 1) := by decide +kernel
theorem dX3_mapNamed_1 : decode cX3_mapNamed 1 = .ok (.istore 4, 2) := by decide +kernel
theorem dX3_mapNamed_3 : decode cX3_mapNamed 3 = .ok (.iload 4, 2) := by decide +kernel
theorem dX3_mapNamed_5 : decode cX3_mapNamed 5 = .ok (.aload_n 0, 1) := by decide +kernel
theorem dX3_mapNamed_6 : decode cX3_mapNamed 6 = .ok (.getfield 22, 3) := by decide +kernel
theorem dX3_mapNamed_9 : decode cX3_mapNamed 9 = .ok (.if_icmp .ge 24, 3) := by decide +kernel
theorem dX3_mapNamed_12 : decode cX3_mapNamed 12 = .ok (.aload_n 0, 1) := by decide +kernel
theorem dX3_mapNamed_13 : decode cX3_mapNamed 13 = .ok (.iload 4, 2) := by decide +kernel
theorem dX3_mapNamed_15 : decode cX3_mapNamed 15 = .ok (.aload_n 1, 1) := by decide +kernel
theorem dX3_mapNamed_16 : decode cX3_mapNamed 16 = .ok (.iload_n 2, 1) := by decide +kernel
theorem dX3_mapNamed_17 : decode cX3_mapNamed 17 = .ok (.iload_n 3, 1) := by decide +kernel
theorem dX3_mapNamed_18 : decode cX3_mapNamed 18 = .ok (.invokevirtual 64, 3) := by decide +kernel
theorem dX3_mapNamed_21 : decode cX3_mapNamed 21 = .ok (.ifCond .eq 6, 3) := by decide +kernel
theorem dX3_mapNamed_24 : decode cX3_mapNamed 24 = .ok (.iload 4, 2) := by decide +kernel
theorem dX3_mapNamed_26 : decode cX3_mapNamed 26 = .ok (.ireturn, 1) := by decide +kernel
theorem dX3_mapNamed_27 : decode cX3_mapNamed 27 = .ok (.iinc 4 1, 3) := by decide +kernel
theorem dX3_mapNamed_30 : decode cX3_mapNamed 30 = .ok (.goto (-27), 3) := by decide +kernel
theorem dX3_mapNamed_33 : decode cX3_mapNamed 33 = .ok (.iconst (-1), 1) := by decide +kernel
theorem dX3_mapNamed_34 : decode cX3_mapNamed 34 = .ok (.ireturn, 1) := by decide +kernel
theorem dX3_isName_0 : decode cX3_isName 0 = .ok (.iload 4, 2) := by decide +kernel
theorem dX3_isName_2 : decode cX3_isName 2 = .ok (.aload_n 0, 1) := by decide +kernel
theorem dX3_isName_3 : decode cX3_isName 3 = .ok (.getfield 29, 3) := by decide +kernel
theorem dX3_isName_6 : decode cX3_isName 6 = .ok (.iload_n 1, 1) := by decide +kernel
theorem dX3_isName_7 : decode cX3_isName 7 = .ok (.iaload, 1) := by decide +kernel
theorem dX3_isName_8 : decode cX3_isName 8 = .ok (.if_icmp .ne 16, 3) := by decide +kernel
theorem dX3_isName_11 : decode cX3_isName 11 = .ok (.iload_n 3, 1) := by decide +kernel
theorem dX3_isName_12 : decode cX3_isName 12 = .ok (.ifCond .lt 12, 3) := by decide +kernel
theorem dX3_isName_15 : decode cX3_isName 15 = .ok (.iload 4, 2) := by decide +kernel
theorem dX3_isName_17 : decode cX3_isName 17 = .ok (.aload_n 2, 1) := by decide +kernel
theorem dX3_isName_18 : decode cX3_isName 18 = .ok (.arraylength, 1) := by decide +kernel
theorem dX3_isName_19 : decode cX3_isName 19 = .ok (.iload_n 3, 1) := by decide +kernel
theorem dX3_isName_20 : decode cX3_isName 20 = .ok (.isub, 1) := by decide +kernel
theorem dX3_isName_21 : decode cX3_isName 21 = .ok (.if_icmp .le 5, 3) := by decide +kernel
theorem dX3_isName_24 : decode cX3_isName 24 = .ok (.iconst 0, 1) := by decide +kernel
theorem dX3_isName_25 : decode cX3_isName 25 = .ok (.ireturn, 1) := by decide +kernel
theorem dX3_isName_26 : decode cX3_isName 26 = .ok (.iconst 0, 1) := by decide +kernel
theorem dX3_isName_27 : decode cX3_isName 27 = .ok (.istore 5, 2) := by decide +kernel
theorem dX3_isName_29 : decode cX3_isName 29 = .ok (.iload 5, 2) := by decide +kernel
theorem dX3_isName_31 : decode cX3_isName 31 = .ok (.iload 4, 2) := by decide +kernel
theorem dX3_isName_33 : decode cX3_isName 33 = .ok (.if_icmp .ge 32, 3) := by decide +kernel
theorem dX3_isName_36 : decode cX3_isName 36 = .ok (.aload_n 2, 1) := by decide +kernel
theorem dX3_isName_37 : decode cX3_isName 37 = .ok (.iload_n 3, 1) := by decide +kernel
theorem dX3_isName_38 : decode cX3_isName 38 = .ok (.iload 5, 2) := by decide +kernel
theorem dX3_isName_40 : decode cX3_isName 40 = .ok (.iadd, 1) := by decide +kernel
theorem dX3_isName_41 : decode cX3_isName 41 = .ok (.baload, 1) := by decide +kernel
theorem dX3_isName_42 : decode cX3_isName 42 = .ok (.aload_n 0, 1) := by decide +kernel
theorem dX3_isName_43 : decode cX3_isName 43 = .ok (.getfield 25, 3) := by decide +kernel
theorem dX3_isName_46 : decode cX3_isName 46 = .ok (.iload_n 1, 1) := by decide +kernel
theorem dX3_isName_47 : decode cX3_isName 47 = .ok (.bipush 8, 2) := by decide +kernel
theorem dX3_isName_49 : decode cX3_isName 49 = .ok (.imul, 1) := by decide +kernel
theorem dX3_isName_50 : decode cX3_isName 50 = .ok (.iload 5, 2) := by decide +kernel
theorem dX3_isName_52 : decode cX3_isName 52 = .ok (.iadd, 1) := by decide +kernel
theorem dX3_isName_53 : decode cX3_isName 53 = .ok (.baload, 1) := by decide +kernel
theorem dX3_isName_54 : decode cX3_isName 54 = .ok (.if_icmp .eq 5, 3) := by decide +kernel
theorem dX3_isName_57 : decode cX3_isName 57 = .ok (.iconst 0, 1) := by decide +kernel
theorem dX3_isName_58 : decode cX3_isName 58 = .ok (.ireturn, 1) := by decide +kernel
theorem dX3_isName_59 : decode cX3_isName 59 = .ok (.iinc 5 1, 3) := by decide +kernel
theorem dX3_isName_62 : decode cX3_isName 62 = .ok (.goto (-33), 3) := by decide +kernel
theorem dX3_isName_65 : decode cX3_isName 65 = .ok (.iconst 1, 1) := by decide +kernel
theorem dX3_isName_66 : decode cX3_isName 66 = .ok (.ireturn, 1) := by decide +kernel
theorem dX3_readFrom_0 : decode cX3_readFrom 0 = .ok (.aload_n 0, 1) := by decide +kernel
theorem dX3_readFrom_1 : decode cX3_readFrom 1 = .ok (.iconst 0, 1) := by decide +kernel
theorem dX3_readFrom_2 : decode cX3_readFrom 2 = .ok (.putfield 9, 3) := by decide +kernel
theorem dX3_readFrom_5 : decode cX3_readFrom 5 = .ok (.aload_n 0, 1) := by decide +kernel
theorem dX3_readFrom_6 : decode cX3_readFrom 6 = .ok (.iconst 0, 1) := by decide +kernel
theorem dX3_readFrom_7 : decode cX3_readFrom 7 = .ok (.putfield 22, 3) := by decide +kernel
theorem dX3_readFrom_10 : decode cX3_readFrom 10 = .ok (.aload_n 0, 1) := by decide +kernel
theorem dX3_readFrom_11 : decode cX3_readFrom 11 = .ok (.iconst 0, 1) := by decide +kernel
theorem dX3_readFrom_12 : decode cX3_readFrom 12 = .ok (.putfield 32, 3) := by decide +kernel
theorem dX3_readFrom_15 : decode cX3_readFrom 15 = .ok (.iconst 0, 1) := by decide +kernel
theorem dX3_readFrom_16 : decode cX3_readFrom 16 = .ok (.istore_n 2, 1) := by decide +kernel
theorem dX3_readFrom_17 : decode cX3_readFrom 17 = .ok (.iload_n 2, 1) := by decide +kernel
theorem dX3_readFrom_18 : decode cX3_readFrom 18 = .ok (.iconst 5, 1) := by decide +kernel
theorem dX3_readFrom_19 : decode cX3_readFrom 19 = .ok (.if_icmp .ge 27, 3) := by decide +kernel
theorem dX3_readFrom_22 : decode cX3_readFrom 22 = .ok (.aload_n 0, 1) := by decide +kernel
theorem dX3_readFrom_23 : decode cX3_readFrom 23 = .ok (.getfield 44, 3) := by decide +kernel
theorem dX3_readFrom_26 : decode cX3_readFrom 26 = .ok (.iload_n 2, 1) := by decide +kernel
theorem dX3_readFrom_27 : decode cX3_readFrom 27 = .ok (.getstatic 51, 3) := by decide +kernel
theorem dX3_readFrom_30 : decode cX3_readFrom 30 = .ok (.iload_n 2, 1) := by decide +kernel
theorem dX3_readFrom_31 : decode cX3_readFrom 31 = .ok (.iaload, 1) := by decide +kernel
theorem dX3_readFrom_32 : decode cX3_readFrom 32 = .ok (.iastore, 1) := by decide +kernel
theorem dX3_readFrom_33 : decode cX3_readFrom 33 = .ok (.aload_n 0, 1) := by decide +kernel
theorem dX3_readFrom_34 : decode cX3_readFrom 34 = .ok (.getfield 47, 3) := by decide +kernel
theorem dX3_readFrom_37 : decode cX3_readFrom 37 = .ok (.iload_n 2, 1) := by decide +kernel
theorem dX3_readFrom_38 : decode cX3_readFrom 38 = .ok (.iconst 0, 1) := by decide +kernel
theorem dX3_readFrom_39 : decode cX3_readFrom 39 = .ok (.bastore, 1) := by decide +kernel
theorem dX3_readFrom_40 : decode cX3_readFrom 40 = .ok (.iinc 2 1, 3) := by decide +kernel
theorem dX3_readFrom_43 : decode cX3_readFrom 43 = .ok (.goto (-26), 3) := by decide +kernel
theorem dX3_readFrom_46 : decode cX3_readFrom 46 = .ok (.aload_n 1, 1) := by decide +kernel
theorem dX3_readFrom_47 : decode cX3_readFrom 47 = .ok (.invokevirtual 68, 3) := by decide +kernel
theorem dX3_readFrom_50 : decode cX3_readFrom 50 = .ok (.iconst 0, 1) := by decide +kernel
theorem dX3_readFrom_51 : decode cX3_readFrom 51 = .ok (.istore_n 2, 1) := by decide +kernel
theorem dX3_readFrom_52 : decode cX3_readFrom 52 = .ok (.iload_n 2, 1) := by decide +kernel
theorem dX3_readFrom_53 : decode cX3_readFrom 53 = .ok (.sipush 500, 3) := by decide +kernel
theorem dX3_readFrom_56 : decode cX3_readFrom 56 = .ok (.if_icmp .ge 34, 3) := by decide +kernel
theorem dX3_readFrom_59 : decode cX3_readFrom 59 = .ok (.aload_n 1, 1) := by decide +kernel
theorem dX3_readFrom_60 : decode cX3_readFrom 60 = .ok (.getfield 73, 3) := by decide +kernel
theorem dX3_readFrom_63 : decode cX3_readFrom 63 = .ok (.ifCond .eq 27, 3) := by decide +kernel
theorem dX3_readFrom_66 : decode cX3_readFrom 66 = .ok (.aload_n 0, 1) := by decide +kernel
theorem dX3_readFrom_67 : decode cX3_readFrom 67 = .ok (.aload_n 1, 1) := by decide +kernel
theorem dX3_readFrom_68 : decode cX3_readFrom 68 = .ok (.invokevirtual 76, 3) := by decide +kernel
theorem dX3_readFrom_71 : decode cX3_readFrom 71 = .ok (.ifCond .eq 11, 3) := by decide +kernel
theorem dX3_readFrom_74 : decode cX3_readFrom 74 = .ok (.aload_n 1, 1) := by decide +kernel
theorem dX3_readFrom_75 : decode cX3_readFrom 75 = .ok (.iconst 3, 1) := by decide +kernel
theorem dX3_readFrom_76 : decode cX3_readFrom 76 = .ok (.invokevirtual 80, 3) := by decide +kernel
theorem dX3_readFrom_79 : decode cX3_readFrom 79 = .ok (.ifCond .ne 5, 3) := by decide +kernel
theorem dX3_readFrom_82 : decode cX3_readFrom 82 = .ok (.iconst 0, 1) := by decide +kernel
theorem dX3_readFrom_83 : decode cX3_readFrom 83 = .ok (.ireturn, 1) := by decide +kernel
theorem dX3_readFrom_84 : decode cX3_readFrom 84 = .ok (.iinc 2 1, 3) := by decide +kernel
theorem dX3_readFrom_87 : decode cX3_readFrom 87 = .ok (.goto (-35), 3) := by decide +kernel
theorem dX3_readFrom_90 : decode cX3_readFrom 90 = .ok (.iconst 1, 1) := by decide +kernel
theorem dX3_readFrom_91 : decode cX3_readFrom 91 = .ok (.ireturn, 1) := by decide +kernel
theorem dX3_readStatement_0 : decode cX3_readStatement 0 = .ok (.aload_n 1, 1) := by decide +kernel
theorem dX3_readStatement_1 : decode cX3_readStatement 1 = .ok (.ldc 84, 2) := by decide +kernel
theorem dX3_readStatement_3 : decode cX3_readStatement 3 = .ok (.invokevirtual 86, 3) := by decide +kernel
theorem dX3_readStatement_6 : decode cX3_readStatement 6 = .ok (.ifCond .eq 9, 3) := by decide +kernel
theorem dX3_readStatement_9 : decode cX3_readStatement 9 = .ok (.aload_n 0, 1) := by decide +kernel
theorem dX3_readStatement_10 : decode cX3_readStatement 10 = .ok (.aload_n 1, 1) := by decide +kernel
theorem dX3_readStatement_11 : decode cX3_readStatement 11 = .ok (.invokevirtual 90, 3) := by decide +kernel
theorem dX3_readStatement_14 : decode cX3_readStatement 14 = .ok (.ireturn, 1) := by decide +kernel
theorem dX3_readStatement_15 : decode cX3_readStatement 15 = .ok (.aload_n 1, 1) := by decide +kernel
theorem dX3_readStatement_16 : decode cX3_readStatement 16 = .ok (.ldc 93, 2) := by decide +kernel
theorem dX3_readStatement_18 : decode cX3_readStatement 18 = .ok (.invokevirtual 86, 3) := by decide +kernel
theorem dX3_readStatement_21 : decode cX3_readStatement 21 = .ok (.ifCond .eq 9, 3) := by decide +kernel
theorem dX3_readStatement_24 : decode cX3_readStatement 24 = .ok (.aload_n 0, 1) := by decide +kernel
theorem dX3_readStatement_25 : decode cX3_readStatement 25 = .ok (.aload_n 1, 1) := by decide +kernel
theorem dX3_readStatement_26 : decode cX3_readStatement 26 = .ok (.invokevirtual 95, 3) := by decide +kernel
theorem dX3_readStatement_29 : decode cX3_readStatement 29 = .ok (.ireturn, 1) := by decide +kernel
theorem dX3_readStatement_30 : decode cX3_readStatement 30 = .ok (.aload_n 1, 1) := by decide +kernel
theorem dX3_readStatement_31 : decode cX3_readStatement 31 = .ok (.ldc 98, 2) := by decide +kernel
theorem dX3_readStatement_33 : decode cX3_readStatement 33 = .ok (.invokevirtual 86, 3) := by decide +kernel
theorem dX3_readStatement_36 : decode cX3_readStatement 36 = .ok (.ifCond .eq 9, 3) := by decide +kernel
theorem dX3_readStatement_39 : decode cX3_readStatement 39 = .ok (.aload_n 0, 1) := by decide +kernel
theorem dX3_readStatement_40 : decode cX3_readStatement 40 = .ok (.aload_n 1, 1) := by decide +kernel
theorem dX3_readStatement_41 : decode cX3_readStatement 41 = .ok (.invokevirtual 100, 3) := by decide +kernel
theorem dX3_readStatement_44 : decode cX3_readStatement 44 = .ok (.ireturn, 1) := by decide +kernel
theorem dX3_readStatement_45 : decode cX3_readStatement 45 = .ok (.aload_n 1, 1) := by decide +kernel
theorem dX3_readStatement_46 : decode cX3_readStatement 46 = .ok (.invokestatic 103, 3) := by decide +kernel
theorem dX3_readStatement_49 : decode cX3_readStatement 49 = .ok (.istore_n 2, 1) := by decide +kernel
theorem dX3_readStatement_50 : decode cX3_readStatement 50 = .ok (.iload_n 2, 1) := by decide +kernel
theorem dX3_readStatement_51 : decode cX3_readStatement 51 = .ok (.iconst (-1), 1) := by decide +kernel
theorem dX3_readStatement_52 : decode cX3_readStatement 52 = .ok (.if_icmp .ne 11, 3) := by decide +kernel
theorem dX3_readStatement_55 : decode cX3_readStatement 55 = .ok (.aload_n 1, 1) := by decide +kernel
theorem dX3_readStatement_56 : decode cX3_readStatement 56 = .ok (.iconst 1, 1) := by decide +kernel
theorem dX3_readStatement_57 : decode cX3_readStatement 57 = .ok (.invokevirtual 107, 3) := by decide +kernel
theorem dX3_readStatement_60 : decode cX3_readStatement 60 = .ok (.goto 9, 3) := by decide +kernel
theorem dX3_readStatement_63 : decode cX3_readStatement 63 = .ok (.aload_n 0, 1) := by decide +kernel
theorem dX3_readStatement_64 : decode cX3_readStatement 64 = .ok (.aload_n 1, 1) := by decide +kernel
theorem dX3_readStatement_65 : decode cX3_readStatement 65 = .ok (.iload_n 2, 1) := by decide +kernel
theorem dX3_readStatement_66 : decode cX3_readStatement 66 = .ok (.invokevirtual 110, 3) := by decide +kernel
theorem dX3_readStatement_69 : decode cX3_readStatement 69 = .ok (.ireturn, 1) := by decide +kernel
theorem dX3_settingTold_0 : decode cX3_settingTold 0 = .ok (.aload_n 0, 1) := by decide +kernel
theorem dX3_settingTold_1 : decode cX3_settingTold 1 = .ok (.ldc 114, 2) := by decide +kernel
theorem dX3_settingTold_3 : decode cX3_settingTold 3 = .ok (.invokevirtual 86, 3) := by decide +kernel
theorem dX3_settingTold_6 : decode cX3_settingTold 6 = .ok (.ifCond .eq 5, 3) := by decide +kernel
theorem dX3_settingTold_9 : decode cX3_settingTold 9 = .ok (.iconst 0, 1) := by decide +kernel
theorem dX3_settingTold_10 : decode cX3_settingTold 10 = .ok (.ireturn, 1) := by decide +kernel
theorem dX3_settingTold_11 : decode cX3_settingTold 11 = .ok (.aload_n 0, 1) := by decide +kernel
theorem dX3_settingTold_12 : decode cX3_settingTold 12 = .ok (.ldc 116, 2) := by decide +kernel
theorem dX3_settingTold_14 : decode cX3_settingTold 14 = .ok (.invokevirtual 86, 3) := by decide +kernel
theorem dX3_settingTold_17 : decode cX3_settingTold 17 = .ok (.ifCond .eq 5, 3) := by decide +kernel
theorem dX3_settingTold_20 : decode cX3_settingTold 20 = .ok (.iconst 1, 1) := by decide +kernel
theorem dX3_settingTold_21 : decode cX3_settingTold 21 = .ok (.ireturn, 1) := by decide +kernel
theorem dX3_settingTold_22 : decode cX3_settingTold 22 = .ok (.aload_n 0, 1) := by decide +kernel
theorem dX3_settingTold_23 : decode cX3_settingTold 23 = .ok (.ldc 118, 2) := by decide +kernel
theorem dX3_settingTold_25 : decode cX3_settingTold 25 = .ok (.invokevirtual 86, 3) := by decide +kernel
theorem dX3_settingTold_28 : decode cX3_settingTold 28 = .ok (.ifCond .eq 5, 3) := by decide +kernel
theorem dX3_settingTold_31 : decode cX3_settingTold 31 = .ok (.iconst 2, 1) := by decide +kernel
theorem dX3_settingTold_32 : decode cX3_settingTold 32 = .ok (.ireturn, 1) := by decide +kernel
theorem dX3_settingTold_33 : decode cX3_settingTold 33 = .ok (.aload_n 0, 1) := by decide +kernel
theorem dX3_settingTold_34 : decode cX3_settingTold 34 = .ok (.ldc 120, 2) := by decide +kernel
theorem dX3_settingTold_36 : decode cX3_settingTold 36 = .ok (.invokevirtual 86, 3) := by decide +kernel
theorem dX3_settingTold_39 : decode cX3_settingTold 39 = .ok (.ifCond .eq 5, 3) := by decide +kernel
theorem dX3_settingTold_42 : decode cX3_settingTold 42 = .ok (.iconst 3, 1) := by decide +kernel
theorem dX3_settingTold_43 : decode cX3_settingTold 43 = .ok (.ireturn, 1) := by decide +kernel
theorem dX3_settingTold_44 : decode cX3_settingTold 44 = .ok (.aload_n 0, 1) := by decide +kernel
theorem dX3_settingTold_45 : decode cX3_settingTold 45 = .ok (.ldc 122, 2) := by decide +kernel
theorem dX3_settingTold_47 : decode cX3_settingTold 47 = .ok (.invokevirtual 86, 3) := by decide +kernel
theorem dX3_settingTold_50 : decode cX3_settingTold 50 = .ok (.ifCond .eq 7, 3) := by decide +kernel
theorem dX3_settingTold_53 : decode cX3_settingTold 53 = .ok (.iconst 4, 1) := by decide +kernel
theorem dX3_settingTold_54 : decode cX3_settingTold 54 = .ok (.goto 4, 3) := by decide +kernel
theorem dX3_settingTold_57 : decode cX3_settingTold 57 = .ok (.iconst (-1), 1) := by decide +kernel
theorem dX3_settingTold_58 : decode cX3_settingTold 58 = .ok (.ireturn, 1) := by decide +kernel
theorem dX3_readShot_0 : decode cX3_readShot 0 = .ok (.aload_n 0, 1) := by decide +kernel
theorem dX3_readShot_1 : decode cX3_readShot 1 = .ok (.getfield 9, 3) := by decide +kernel
theorem dX3_readShot_4 : decode cX3_readShot 4 = .ok (.bipush 12, 2) := by decide +kernel
theorem dX3_readShot_6 : decode cX3_readShot 6 = .ok (.if_icmp .lt 9, 3) := by decide +kernel
theorem dX3_readShot_9 : decode cX3_readShot 9 = .ok (.aload_n 1, 1) := by decide +kernel
theorem dX3_readShot_10 : decode cX3_readShot 10 = .ok (.iconst 4, 1) := by decide +kernel
theorem dX3_readShot_11 : decode cX3_readShot 11 = .ok (.invokevirtual 107, 3) := by decide +kernel
theorem dX3_readShot_14 : decode cX3_readShot 14 = .ok (.ireturn, 1) := by decide +kernel
theorem dX3_readShot_15 : decode cX3_readShot 15 = .ok (.aload_n 1, 1) := by decide +kernel
theorem dX3_readShot_16 : decode cX3_readShot 16 = .ok (.invokevirtual 124, 3) := by decide +kernel
theorem dX3_readShot_19 : decode cX3_readShot 19 = .ok (.aload_n 1, 1) := by decide +kernel
theorem dX3_readShot_20 : decode cX3_readShot 20 = .ok (.iconst 0, 1) := by decide +kernel
theorem dX3_readShot_21 : decode cX3_readShot 21 = .ok (.iconst 5, 1) := by decide +kernel
theorem dX3_readShot_22 : decode cX3_readShot 22 = .ok (.invokevirtual 127, 3) := by decide +kernel
theorem dX3_readShot_25 : decode cX3_readShot 25 = .ok (.ifCond .ne 5, 3) := by decide +kernel
theorem dX3_readShot_28 : decode cX3_readShot 28 = .ok (.iconst 0, 1) := by decide +kernel
theorem dX3_readShot_29 : decode cX3_readShot 29 = .ok (.ireturn, 1) := by decide +kernel
theorem dX3_readShot_30 : decode cX3_readShot 30 = .ok (.aload_n 0, 1) := by decide +kernel
theorem dX3_readShot_31 : decode cX3_readShot 31 = .ok (.getfield 15, 3) := by decide +kernel
theorem dX3_readShot_34 : decode cX3_readShot 34 = .ok (.aload_n 0, 1) := by decide +kernel
theorem dX3_readShot_35 : decode cX3_readShot 35 = .ok (.getfield 9, 3) := by decide +kernel
theorem dX3_readShot_38 : decode cX3_readShot 38 = .ok (.aload_n 1, 1) := by decide +kernel
theorem dX3_readShot_39 : decode cX3_readShot 39 = .ok (.getfield 130, 3) := by decide +kernel
theorem dX3_readShot_42 : decode cX3_readShot 42 = .ok (.iastore, 1) := by decide +kernel
theorem dX3_readShot_43 : decode cX3_readShot 43 = .ok (.aload_n 1, 1) := by decide +kernel
theorem dX3_readShot_44 : decode cX3_readShot 44 = .ok (.iconst 1, 1) := by decide +kernel
theorem dX3_readShot_45 : decode cX3_readShot 45 = .ok (.sipush 400, 3) := by decide +kernel
theorem dX3_readShot_48 : decode cX3_readShot 48 = .ok (.invokevirtual 127, 3) := by decide +kernel
theorem dX3_readShot_51 : decode cX3_readShot 51 = .ok (.ifCond .ne 5, 3) := by decide +kernel
theorem dX3_readShot_54 : decode cX3_readShot 54 = .ok (.iconst 0, 1) := by decide +kernel
theorem dX3_readShot_55 : decode cX3_readShot 55 = .ok (.ireturn, 1) := by decide +kernel
theorem dX3_readShot_56 : decode cX3_readShot 56 = .ok (.aload_n 0, 1) := by decide +kernel
theorem dX3_readShot_57 : decode cX3_readShot 57 = .ok (.getfield 19, 3) := by decide +kernel
theorem dX3_readShot_60 : decode cX3_readShot 60 = .ok (.aload_n 0, 1) := by decide +kernel
theorem dX3_readShot_61 : decode cX3_readShot 61 = .ok (.getfield 9, 3) := by decide +kernel
theorem dX3_readShot_64 : decode cX3_readShot 64 = .ok (.aload_n 1, 1) := by decide +kernel
theorem dX3_readShot_65 : decode cX3_readShot 65 = .ok (.getfield 130, 3) := by decide +kernel
theorem dX3_readShot_68 : decode cX3_readShot 68 = .ok (.iastore, 1) := by decide +kernel
theorem dX3_readShot_69 : decode cX3_readShot 69 = .ok (.aload_n 0, 1) := by decide +kernel
theorem dX3_readShot_70 : decode cX3_readShot 70 = .ok (.dup, 1) := by decide +kernel
theorem dX3_readShot_71 : decode cX3_readShot 71 = .ok (.getfield 9, 3) := by decide +kernel
theorem dX3_readShot_74 : decode cX3_readShot 74 = .ok (.iconst 1, 1) := by decide +kernel
theorem dX3_readShot_75 : decode cX3_readShot 75 = .ok (.iadd, 1) := by decide +kernel
theorem dX3_readShot_76 : decode cX3_readShot 76 = .ok (.putfield 9, 3) := by decide +kernel
theorem dX3_readShot_79 : decode cX3_readShot 79 = .ok (.iconst 1, 1) := by decide +kernel
theorem dX3_readShot_80 : decode cX3_readShot 80 = .ok (.ireturn, 1) := by decide +kernel
theorem dX3_readName_0 : decode cX3_readName 0 = .ok (.aload_n 0, 1) := by decide +kernel
theorem dX3_readName_1 : decode cX3_readName 1 = .ok (.getfield 22, 3) := by decide +kernel
theorem dX3_readName_4 : decode cX3_readName 4 = .ok (.bipush 6, 2) := by decide +kernel
theorem dX3_readName_6 : decode cX3_readName 6 = .ok (.if_icmp .lt 9, 3) := by decide +kernel
theorem dX3_readName_9 : decode cX3_readName 9 = .ok (.aload_n 1, 1) := by decide +kernel
theorem dX3_readName_10 : decode cX3_readName 10 = .ok (.iconst 4, 1) := by decide +kernel
theorem dX3_readName_11 : decode cX3_readName 11 = .ok (.invokevirtual 107, 3) := by decide +kernel
theorem dX3_readName_14 : decode cX3_readName 14 = .ok (.ireturn, 1) := by decide +kernel
theorem dX3_readName_15 : decode cX3_readName 15 = .ok (.aload_n 1, 1) := by decide +kernel
theorem dX3_readName_16 : decode cX3_readName 16 = .ok (.invokevirtual 124, 3) := by decide +kernel
theorem dX3_readName_19 : decode cX3_readName 19 = .ok (.aload_n 1, 1) := by decide +kernel
theorem dX3_readName_20 : decode cX3_readName 20 = .ok (.getfield 73, 3) := by decide +kernel
theorem dX3_readName_23 : decode cX3_readName 23 = .ok (.iconst 1, 1) := by decide +kernel
theorem dX3_readName_24 : decode cX3_readName 24 = .ok (.if_icmp .eq 9, 3) := by decide +kernel
theorem dX3_readName_27 : decode cX3_readName 27 = .ok (.aload_n 1, 1) := by decide +kernel
theorem dX3_readName_28 : decode cX3_readName 28 = .ok (.iconst 1, 1) := by decide +kernel
theorem dX3_readName_29 : decode cX3_readName 29 = .ok (.invokevirtual 107, 3) := by decide +kernel
theorem dX3_readName_32 : decode cX3_readName 32 = .ok (.ireturn, 1) := by decide +kernel
theorem dX3_readName_33 : decode cX3_readName 33 = .ok (.aload_n 1, 1) := by decide +kernel
theorem dX3_readName_34 : decode cX3_readName 34 = .ok (.invokevirtual 133, 3) := by decide +kernel
theorem dX3_readName_37 : decode cX3_readName 37 = .ok (.istore_n 2, 1) := by decide +kernel
theorem dX3_readName_38 : decode cX3_readName 38 = .ok (.iload_n 2, 1) := by decide +kernel
theorem dX3_readName_39 : decode cX3_readName 39 = .ok (.bipush 8, 2) := by decide +kernel
theorem dX3_readName_41 : decode cX3_readName 41 = .ok (.if_icmp .le 9, 3) := by decide +kernel
theorem dX3_readName_44 : decode cX3_readName 44 = .ok (.aload_n 1, 1) := by decide +kernel
theorem dX3_readName_45 : decode cX3_readName 45 = .ok (.iconst 2, 1) := by decide +kernel
theorem dX3_readName_46 : decode cX3_readName 46 = .ok (.invokevirtual 107, 3) := by decide +kernel
theorem dX3_readName_49 : decode cX3_readName 49 = .ok (.ireturn, 1) := by decide +kernel
theorem dX3_readName_50 : decode cX3_readName 50 = .ok (.aload_n 0, 1) := by decide +kernel
theorem dX3_readName_51 : decode cX3_readName 51 = .ok (.aload_n 1, 1) := by decide +kernel
theorem dX3_readName_52 : decode cX3_readName 52 = .ok (.getfield 137, 3) := by decide +kernel
theorem dX3_readName_55 : decode cX3_readName 55 = .ok (.aload_n 1, 1) := by decide +kernel
theorem dX3_readName_56 : decode cX3_readName 56 = .ok (.getfield 140, 3) := by decide +kernel
theorem dX3_readName_59 : decode cX3_readName 59 = .ok (.iload_n 2, 1) := by decide +kernel
theorem dX3_readName_60 : decode cX3_readName 60 = .ok (.invokevirtual 143, 3) := by decide +kernel
theorem dX3_readName_63 : decode cX3_readName 63 = .ok (.iconst (-1), 1) := by decide +kernel
theorem dX3_readName_64 : decode cX3_readName 64 = .ok (.if_icmp .eq 9, 3) := by decide +kernel
theorem dX3_readName_67 : decode cX3_readName 67 = .ok (.aload_n 1, 1) := by decide +kernel
theorem dX3_readName_68 : decode cX3_readName 68 = .ok (.iconst 3, 1) := by decide +kernel
theorem dX3_readName_69 : decode cX3_readName 69 = .ok (.invokevirtual 107, 3) := by decide +kernel
theorem dX3_readName_72 : decode cX3_readName 72 = .ok (.ireturn, 1) := by decide +kernel
theorem dX3_readName_73 : decode cX3_readName 73 = .ok (.aload_n 1, 1) := by decide +kernel
theorem dX3_readName_74 : decode cX3_readName 74 = .ok (.getfield 137, 3) := by decide +kernel
theorem dX3_readName_77 : decode cX3_readName 77 = .ok (.aload_n 1, 1) := by decide +kernel
theorem dX3_readName_78 : decode cX3_readName 78 = .ok (.getfield 140, 3) := by decide +kernel
theorem dX3_readName_81 : decode cX3_readName 81 = .ok (.aload_n 0, 1) := by decide +kernel
theorem dX3_readName_82 : decode cX3_readName 82 = .ok (.getfield 25, 3) := by decide +kernel
theorem dX3_readName_85 : decode cX3_readName 85 = .ok (.aload_n 0, 1) := by decide +kernel
theorem dX3_readName_86 : decode cX3_readName 86 = .ok (.getfield 22, 3) := by decide +kernel
theorem dX3_readName_89 : decode cX3_readName 89 = .ok (.bipush 8, 2) := by decide +kernel
theorem dX3_readName_91 : decode cX3_readName 91 = .ok (.imul, 1) := by decide +kernel
theorem dX3_readName_92 : decode cX3_readName 92 = .ok (.iload_n 2, 1) := by decide +kernel
theorem dX3_readName_93 : decode cX3_readName 93 = .ok (.invokestatic 54, 3) := by decide +kernel
theorem dX3_readName_96 : decode cX3_readName 96 = .ok (.aload_n 0, 1) := by decide +kernel
theorem dX3_readName_97 : decode cX3_readName 97 = .ok (.getfield 29, 3) := by decide +kernel
theorem dX3_readName_100 : decode cX3_readName 100 = .ok (.aload_n 0, 1) := by decide +kernel
theorem dX3_readName_101 : decode cX3_readName 101 = .ok (.getfield 22, 3) := by decide +kernel
theorem dX3_readName_104 : decode cX3_readName 104 = .ok (.iload_n 2, 1) := by decide +kernel
theorem dX3_readName_105 : decode cX3_readName 105 = .ok (.iastore, 1) := by decide +kernel
theorem dX3_readName_106 : decode cX3_readName 106 = .ok (.aload_n 0, 1) := by decide +kernel
theorem dX3_readName_107 : decode cX3_readName 107 = .ok (.dup, 1) := by decide +kernel
theorem dX3_readName_108 : decode cX3_readName 108 = .ok (.getfield 22, 3) := by decide +kernel
theorem dX3_readName_111 : decode cX3_readName 111 = .ok (.iconst 1, 1) := by decide +kernel
theorem dX3_readName_112 : decode cX3_readName 112 = .ok (.iadd, 1) := by decide +kernel
theorem dX3_readName_113 : decode cX3_readName 113 = .ok (.putfield 22, 3) := by decide +kernel
theorem dX3_readName_116 : decode cX3_readName 116 = .ok (.aload_n 1, 1) := by decide +kernel
theorem dX3_readName_117 : decode cX3_readName 117 = .ok (.invokevirtual 124, 3) := by decide +kernel
theorem dX3_readName_120 : decode cX3_readName 120 = .ok (.iconst 1, 1) := by decide +kernel
theorem dX3_readName_121 : decode cX3_readName 121 = .ok (.ireturn, 1) := by decide +kernel
theorem dX3_readBan_0 : decode cX3_readBan 0 = .ok (.aload_n 0, 1) := by decide +kernel
theorem dX3_readBan_1 : decode cX3_readBan 1 = .ok (.getfield 32, 3) := by decide +kernel
theorem dX3_readBan_4 : decode cX3_readBan 4 = .ok (.bipush 10, 2) := by decide +kernel
theorem dX3_readBan_6 : decode cX3_readBan 6 = .ok (.if_icmp .lt 9, 3) := by decide +kernel
theorem dX3_readBan_9 : decode cX3_readBan 9 = .ok (.aload_n 1, 1) := by decide +kernel
theorem dX3_readBan_10 : decode cX3_readBan 10 = .ok (.iconst 4, 1) := by decide +kernel
theorem dX3_readBan_11 : decode cX3_readBan 11 = .ok (.invokevirtual 107, 3) := by decide +kernel
theorem dX3_readBan_14 : decode cX3_readBan 14 = .ok (.ireturn, 1) := by decide +kernel
theorem dX3_readBan_15 : decode cX3_readBan 15 = .ok (.aload_n 1, 1) := by decide +kernel
theorem dX3_readBan_16 : decode cX3_readBan 16 = .ok (.invokevirtual 124, 3) := by decide +kernel
theorem dX3_readBan_19 : decode cX3_readBan 19 = .ok (.aload_n 1, 1) := by decide +kernel
theorem dX3_readBan_20 : decode cX3_readBan 20 = .ok (.iconst 0, 1) := by decide +kernel
theorem dX3_readBan_21 : decode cX3_readBan 21 = .ok (.iconst 5, 1) := by decide +kernel
theorem dX3_readBan_22 : decode cX3_readBan 22 = .ok (.invokevirtual 127, 3) := by decide +kernel
theorem dX3_readBan_25 : decode cX3_readBan 25 = .ok (.ifCond .ne 5, 3) := by decide +kernel
theorem dX3_readBan_28 : decode cX3_readBan 28 = .ok (.iconst 0, 1) := by decide +kernel
theorem dX3_readBan_29 : decode cX3_readBan 29 = .ok (.ireturn, 1) := by decide +kernel
theorem dX3_readBan_30 : decode cX3_readBan 30 = .ok (.aload_n 0, 1) := by decide +kernel
theorem dX3_readBan_31 : decode cX3_readBan 31 = .ok (.getfield 35, 3) := by decide +kernel
theorem dX3_readBan_34 : decode cX3_readBan 34 = .ok (.aload_n 0, 1) := by decide +kernel
theorem dX3_readBan_35 : decode cX3_readBan 35 = .ok (.getfield 32, 3) := by decide +kernel
theorem dX3_readBan_38 : decode cX3_readBan 38 = .ok (.aload_n 1, 1) := by decide +kernel
theorem dX3_readBan_39 : decode cX3_readBan 39 = .ok (.getfield 130, 3) := by decide +kernel
theorem dX3_readBan_42 : decode cX3_readBan 42 = .ok (.iastore, 1) := by decide +kernel
theorem dX3_readBan_43 : decode cX3_readBan 43 = .ok (.aload_n 1, 1) := by decide +kernel
theorem dX3_readBan_44 : decode cX3_readBan 44 = .ok (.iconst 0, 1) := by decide +kernel
theorem dX3_readBan_45 : decode cX3_readBan 45 = .ok (.bipush 99, 2) := by decide +kernel
theorem dX3_readBan_47 : decode cX3_readBan 47 = .ok (.invokevirtual 127, 3) := by decide +kernel
theorem dX3_readBan_50 : decode cX3_readBan 50 = .ok (.ifCond .ne 5, 3) := by decide +kernel
theorem dX3_readBan_53 : decode cX3_readBan 53 = .ok (.iconst 0, 1) := by decide +kernel
theorem dX3_readBan_54 : decode cX3_readBan 54 = .ok (.ireturn, 1) := by decide +kernel
theorem dX3_readBan_55 : decode cX3_readBan 55 = .ok (.aload_n 0, 1) := by decide +kernel
theorem dX3_readBan_56 : decode cX3_readBan 56 = .ok (.getfield 38, 3) := by decide +kernel
theorem dX3_readBan_59 : decode cX3_readBan 59 = .ok (.aload_n 0, 1) := by decide +kernel
theorem dX3_readBan_60 : decode cX3_readBan 60 = .ok (.getfield 32, 3) := by decide +kernel
theorem dX3_readBan_63 : decode cX3_readBan 63 = .ok (.aload_n 1, 1) := by decide +kernel
theorem dX3_readBan_64 : decode cX3_readBan 64 = .ok (.getfield 130, 3) := by decide +kernel
theorem dX3_readBan_67 : decode cX3_readBan 67 = .ok (.iastore, 1) := by decide +kernel
theorem dX3_readBan_68 : decode cX3_readBan 68 = .ok (.aload_n 1, 1) := by decide +kernel
theorem dX3_readBan_69 : decode cX3_readBan 69 = .ok (.aload_n 0, 1) := by decide +kernel
theorem dX3_readBan_70 : decode cX3_readBan 70 = .ok (.getfield 38, 3) := by decide +kernel
theorem dX3_readBan_73 : decode cX3_readBan 73 = .ok (.aload_n 0, 1) := by decide +kernel
theorem dX3_readBan_74 : decode cX3_readBan 74 = .ok (.getfield 32, 3) := by decide +kernel
theorem dX3_readBan_77 : decode cX3_readBan 77 = .ok (.iaload, 1) := by decide +kernel
theorem dX3_readBan_78 : decode cX3_readBan 78 = .ok (.bipush 99, 2) := by decide +kernel
theorem dX3_readBan_80 : decode cX3_readBan 80 = .ok (.invokevirtual 127, 3) := by decide +kernel
theorem dX3_readBan_83 : decode cX3_readBan 83 = .ok (.ifCond .ne 5, 3) := by decide +kernel
theorem dX3_readBan_86 : decode cX3_readBan 86 = .ok (.iconst 0, 1) := by decide +kernel
theorem dX3_readBan_87 : decode cX3_readBan 87 = .ok (.ireturn, 1) := by decide +kernel
theorem dX3_readBan_88 : decode cX3_readBan 88 = .ok (.aload_n 0, 1) := by decide +kernel
theorem dX3_readBan_89 : decode cX3_readBan 89 = .ok (.getfield 41, 3) := by decide +kernel
theorem dX3_readBan_92 : decode cX3_readBan 92 = .ok (.aload_n 0, 1) := by decide +kernel
theorem dX3_readBan_93 : decode cX3_readBan 93 = .ok (.getfield 32, 3) := by decide +kernel
theorem dX3_readBan_96 : decode cX3_readBan 96 = .ok (.aload_n 1, 1) := by decide +kernel
theorem dX3_readBan_97 : decode cX3_readBan 97 = .ok (.getfield 130, 3) := by decide +kernel
theorem dX3_readBan_100 : decode cX3_readBan 100 = .ok (.iastore, 1) := by decide +kernel
theorem dX3_readBan_101 : decode cX3_readBan 101 = .ok (.aload_n 0, 1) := by decide +kernel
theorem dX3_readBan_102 : decode cX3_readBan 102 = .ok (.dup, 1) := by decide +kernel
theorem dX3_readBan_103 : decode cX3_readBan 103 = .ok (.getfield 32, 3) := by decide +kernel
theorem dX3_readBan_106 : decode cX3_readBan 106 = .ok (.iconst 1, 1) := by decide +kernel
theorem dX3_readBan_107 : decode cX3_readBan 107 = .ok (.iadd, 1) := by decide +kernel
theorem dX3_readBan_108 : decode cX3_readBan 108 = .ok (.putfield 32, 3) := by decide +kernel
theorem dX3_readBan_111 : decode cX3_readBan 111 = .ok (.iconst 1, 1) := by decide +kernel
theorem dX3_readBan_112 : decode cX3_readBan 112 = .ok (.ireturn, 1) := by decide +kernel
theorem dX3_readSetting_0 : decode cX3_readSetting 0 = .ok (.aload_n 0, 1) := by decide +kernel
theorem dX3_readSetting_1 : decode cX3_readSetting 1 = .ok (.getfield 47, 3) := by decide +kernel
theorem dX3_readSetting_4 : decode cX3_readSetting 4 = .ok (.iload_n 2, 1) := by decide +kernel
theorem dX3_readSetting_5 : decode cX3_readSetting 5 = .ok (.baload, 1) := by decide +kernel
theorem dX3_readSetting_6 : decode cX3_readSetting 6 = .ok (.ifCond .eq 9, 3) := by decide +kernel
theorem dX3_readSetting_9 : decode cX3_readSetting 9 = .ok (.aload_n 1, 1) := by decide +kernel
theorem dX3_readSetting_10 : decode cX3_readSetting 10 = .ok (.iconst 3, 1) := by decide +kernel
theorem dX3_readSetting_11 : decode cX3_readSetting 11 = .ok (.invokevirtual 107, 3) := by decide +kernel
theorem dX3_readSetting_14 : decode cX3_readSetting 14 = .ok (.ireturn, 1) := by decide +kernel
theorem dX3_readSetting_15 : decode cX3_readSetting 15 = .ok (.aload_n 0, 1) := by decide +kernel
theorem dX3_readSetting_16 : decode cX3_readSetting 16 = .ok (.getfield 47, 3) := by decide +kernel
theorem dX3_readSetting_19 : decode cX3_readSetting 19 = .ok (.iload_n 2, 1) := by decide +kernel
theorem dX3_readSetting_20 : decode cX3_readSetting 20 = .ok (.iconst 1, 1) := by decide +kernel
theorem dX3_readSetting_21 : decode cX3_readSetting 21 = .ok (.bastore, 1) := by decide +kernel
theorem dX3_readSetting_22 : decode cX3_readSetting 22 = .ok (.aload_n 1, 1) := by decide +kernel
theorem dX3_readSetting_23 : decode cX3_readSetting 23 = .ok (.invokevirtual 124, 3) := by decide +kernel
theorem dX3_readSetting_26 : decode cX3_readSetting 26 = .ok (.aload_n 1, 1) := by decide +kernel
theorem dX3_readSetting_27 : decode cX3_readSetting 27 = .ok (.getstatic 147, 3) := by decide +kernel
theorem dX3_readSetting_30 : decode cX3_readSetting 30 = .ok (.iload_n 2, 1) := by decide +kernel
theorem dX3_readSetting_31 : decode cX3_readSetting 31 = .ok (.iaload, 1) := by decide +kernel
theorem dX3_readSetting_32 : decode cX3_readSetting 32 = .ok (.getstatic 150, 3) := by decide +kernel
theorem dX3_readSetting_35 : decode cX3_readSetting 35 = .ok (.iload_n 2, 1) := by decide +kernel
theorem dX3_readSetting_36 : decode cX3_readSetting 36 = .ok (.iaload, 1) := by decide +kernel
theorem dX3_readSetting_37 : decode cX3_readSetting 37 = .ok (.invokevirtual 127, 3) := by decide +kernel
theorem dX3_readSetting_40 : decode cX3_readSetting 40 = .ok (.ifCond .ne 5, 3) := by decide +kernel
theorem dX3_readSetting_43 : decode cX3_readSetting 43 = .ok (.iconst 0, 1) := by decide +kernel
theorem dX3_readSetting_44 : decode cX3_readSetting 44 = .ok (.ireturn, 1) := by decide +kernel
theorem dX3_readSetting_45 : decode cX3_readSetting 45 = .ok (.aload_n 0, 1) := by decide +kernel
theorem dX3_readSetting_46 : decode cX3_readSetting 46 = .ok (.getfield 44, 3) := by decide +kernel
theorem dX3_readSetting_49 : decode cX3_readSetting 49 = .ok (.iload_n 2, 1) := by decide +kernel
theorem dX3_readSetting_50 : decode cX3_readSetting 50 = .ok (.aload_n 1, 1) := by decide +kernel
theorem dX3_readSetting_51 : decode cX3_readSetting 51 = .ok (.getfield 130, 3) := by decide +kernel
theorem dX3_readSetting_54 : decode cX3_readSetting 54 = .ok (.iastore, 1) := by decide +kernel
theorem dX3_readSetting_55 : decode cX3_readSetting 55 = .ok (.iconst 1, 1) := by decide +kernel
theorem dX3_readSetting_56 : decode cX3_readSetting 56 = .ok (.ireturn, 1) := by decide +kernel
theorem dX4_init_0 : decode cX4_init 0 = .ok (.aload_n 0, 1) := by decide +kernel
theorem dX4_init_1 : decode cX4_init 1 = .ok (.invokespecial 3, 3) := by decide +kernel
theorem dX4_init_4 : decode cX4_init 4 = .ok (.aload_n 0, 1) := by decide +kernel
theorem dX4_init_5 : decode cX4_init 5 = .ok (.sipush 1000, 3) := by decide +kernel
theorem dX4_init_8 : decode cX4_init 8 = .ok (.newarray .byte, 2) := by decide +kernel
theorem dX4_init_10 : decode cX4_init 10 = .ok (.putfield 9, 3) := by decide +kernel
theorem dX4_init_13 : decode cX4_init 13 = .ok (.aload_n 0, 1) := by decide +kernel
theorem dX4_init_14 : decode cX4_init 14 = .ok (.iconst 0, 1) := by decide +kernel
theorem dX4_init_15 : decode cX4_init 15 = .ok (.putfield 15, 3) := by decide +kernel
theorem dX4_init_18 : decode cX4_init 18 = .ok (.return_, 1) := by decide +kernel
theorem dX4_byteAt_0 : decode cX4_byteAt 0 = .ok (.iload_n 1, 1) := by decide +kernel
theorem dX4_byteAt_1 : decode cX4_byteAt 1 = .ok (.ifCond .lt 20, 3) := by decide +kernel
theorem dX4_byteAt_4 : decode cX4_byteAt 4 = .ok (.iload_n 1, 1) := by decide +kernel
theorem dX4_byteAt_5 : decode cX4_byteAt 5 = .ok (.aload_n 0, 1) := by decide +kernel
theorem dX4_byteAt_6 : decode cX4_byteAt 6 = .ok (.getfield 15, 3) := by decide +kernel
theorem dX4_byteAt_9 : decode cX4_byteAt 9 = .ok (.if_icmp .ge 12, 3) := by decide +kernel
theorem dX4_byteAt_12 : decode cX4_byteAt 12 = .ok (.aload_n 0, 1) := by decide +kernel
theorem dX4_byteAt_13 : decode cX4_byteAt 13 = .ok (.getfield 9, 3) := by decide +kernel
theorem dX4_byteAt_16 : decode cX4_byteAt 16 = .ok (.iload_n 1, 1) := by decide +kernel
theorem dX4_byteAt_17 : decode cX4_byteAt 17 = .ok (.baload, 1) := by decide +kernel
theorem dX4_byteAt_18 : decode cX4_byteAt 18 = .ok (.goto 4, 3) := by decide +kernel
theorem dX4_byteAt_21 : decode cX4_byteAt 21 = .ok (.iconst (-1), 1) := by decide +kernel
theorem dX4_byteAt_22 : decode cX4_byteAt 22 = .ok (.ireturn, 1) := by decide +kernel
theorem dX4_writeItems_0 : decode cX4_writeItems 0 = .ok (.aload_n 0, 1) := by decide +kernel
theorem dX4_writeItems_1 : decode cX4_writeItems 1 = .ok (.iconst 0, 1) := by decide +kernel
theorem dX4_writeItems_2 : decode cX4_writeItems 2 = .ok (.putfield 15, 3) := by decide +kernel
theorem dX4_writeItems_5 : decode cX4_writeItems 5 = .ok (.iconst 0, 1) := by decide +kernel
theorem dX4_writeItems_6 : decode cX4_writeItems 6 = .ok (.istore_n 3, 1) := by decide +kernel
theorem dX4_writeItems_7 : decode cX4_writeItems 7 = .ok (.iconst 0, 1) := by decide +kernel
theorem dX4_writeItems_8 : decode cX4_writeItems 8 = .ok (.istore 4, 2) := by decide +kernel
theorem dX4_writeItems_10 : decode cX4_writeItems 10 = .ok (.iload 4, 2) := by decide +kernel
theorem dX4_writeItems_12 : decode cX4_writeItems 12 = .ok (.aload_n 1, 1) := by decide +kernel
theorem dX4_writeItems_13 : decode cX4_writeItems 13 = .ok (.getfield 19, 3) := by decide +kernel
theorem dX4_writeItems_16 : decode cX4_writeItems 16 = .ok (.if_icmp .ge 72, 3) := by decide +kernel
theorem dX4_writeItems_19 : decode cX4_writeItems 19 = .ok (.aload_n 0, 1) := by decide +kernel
theorem dX4_writeItems_20 : decode cX4_writeItems 20 = .ok (.iload_n 3, 1) := by decide +kernel
theorem dX4_writeItems_21 : decode cX4_writeItems 21 = .ok (.aload_n 1, 1) := by decide +kernel
theorem dX4_writeItems_22 : decode cX4_writeItems 22 = .ok (.getfield 24, 3) := by decide +kernel
theorem dX4_writeItems_25 : decode cX4_writeItems 25 = .ok (.iload 4, 2) := by decide +kernel
theorem dX4_writeItems_27 : decode cX4_writeItems 27 = .ok (.iaload, 1) := by decide +kernel
theorem dX4_writeItems_28 : decode cX4_writeItems 28 = .ok (.isub, 1) := by decide +kernel
theorem dX4_writeItems_29 : decode cX4_writeItems 29 = .ok (.invokevirtual 28, 3) := by decide +kernel
theorem dX4_writeItems_32 : decode cX4_writeItems 32 = .ok (.aload_n 1, 1) := by decide +kernel
theorem dX4_writeItems_33 : decode cX4_writeItems 33 = .ok (.getfield 24, 3) := by decide +kernel
theorem dX4_writeItems_36 : decode cX4_writeItems 36 = .ok (.iload 4, 2) := by decide +kernel
theorem dX4_writeItems_38 : decode cX4_writeItems 38 = .ok (.iaload, 1) := by decide +kernel
theorem dX4_writeItems_39 : decode cX4_writeItems 39 = .ok (.istore_n 3, 1) := by decide +kernel
theorem dX4_writeItems_40 : decode cX4_writeItems 40 = .ok (.aload_n 0, 1) := by decide +kernel
theorem dX4_writeItems_41 : decode cX4_writeItems 41 = .ok (.aload_n 1, 1) := by decide +kernel
theorem dX4_writeItems_42 : decode cX4_writeItems 42 = .ok (.iload 4, 2) := by decide +kernel
theorem dX4_writeItems_44 : decode cX4_writeItems 44 = .ok (.invokevirtual 32, 3) := by decide +kernel
theorem dX4_writeItems_47 : decode cX4_writeItems 47 = .ok (.aload_n 1, 1) := by decide +kernel
theorem dX4_writeItems_48 : decode cX4_writeItems 48 = .ok (.iload 4, 2) := by decide +kernel
theorem dX4_writeItems_50 : decode cX4_writeItems 50 = .ok (.invokevirtual 36, 3) := by decide +kernel
theorem dX4_writeItems_53 : decode cX4_writeItems 53 = .ok (.ifCond .eq 15, 3) := by decide +kernel
theorem dX4_writeItems_56 : decode cX4_writeItems 56 = .ok (.aload_n 0, 1) := by decide +kernel
theorem dX4_writeItems_57 : decode cX4_writeItems 57 = .ok (.bipush 123, 2) := by decide +kernel
theorem dX4_writeItems_59 : decode cX4_writeItems 59 = .ok (.invokevirtual 40, 3) := by decide +kernel
theorem dX4_writeItems_62 : decode cX4_writeItems 62 = .ok (.iinc 3 1, 3) := by decide +kernel
theorem dX4_writeItems_65 : decode cX4_writeItems 65 = .ok (.goto 17, 3) := by decide +kernel
theorem dX4_writeItems_68 : decode cX4_writeItems 68 = .ok (.aload_n 0, 1) := by decide +kernel
theorem dX4_writeItems_69 : decode cX4_writeItems 69 = .ok (.aload_n 1, 1) := by decide +kernel
theorem dX4_writeItems_70 : decode cX4_writeItems 70 = .ok (.iload 4, 2) := by decide +kernel
theorem dX4_writeItems_72 : decode cX4_writeItems 72 = .ok (.aload_n 2, 1) := by decide +kernel
theorem dX4_writeItems_73 : decode cX4_writeItems 73 = .ok (.invokevirtual 43, 3) := by decide +kernel
theorem dX4_writeItems_76 : decode cX4_writeItems 76 = .ok (.aload_n 0, 1) := by decide +kernel
theorem dX4_writeItems_77 : decode cX4_writeItems 77 = .ok (.bipush 59, 2) := by decide +kernel
theorem dX4_writeItems_79 : decode cX4_writeItems 79 = .ok (.invokevirtual 40, 3) := by decide +kernel
theorem dX4_writeItems_82 : decode cX4_writeItems 82 = .ok (.iinc 4 1, 3) := by decide +kernel
theorem dX4_writeItems_85 : decode cX4_writeItems 85 = .ok (.goto (-75), 3) := by decide +kernel
theorem dX4_writeItems_88 : decode cX4_writeItems 88 = .ok (.aload_n 0, 1) := by decide +kernel
theorem dX4_writeItems_89 : decode cX4_writeItems 89 = .ok (.iload_n 3, 1) := by decide +kernel
theorem dX4_writeItems_90 : decode cX4_writeItems 90 = .ok (.invokevirtual 28, 3) := by decide +kernel
theorem dX4_writeItems_93 : decode cX4_writeItems 93 = .ok (.return_, 1) := by decide +kernel
theorem dX4_closeBlocks_0 : decode cX4_closeBlocks 0 = .ok (.iconst 0, 1) := by decide +kernel
theorem dX4_closeBlocks_1 : decode cX4_closeBlocks 1 = .ok (.istore_n 2, 1) := by decide +kernel
theorem dX4_closeBlocks_2 : decode cX4_closeBlocks 2 = .ok (.iload_n 2, 1) := by decide +kernel
theorem dX4_closeBlocks_3 : decode cX4_closeBlocks 3 = .ok (.iload_n 1, 1) := by decide +kernel
theorem dX4_closeBlocks_4 : decode cX4_closeBlocks 4 = .ok (.if_icmp .ge 21, 3) := by decide +kernel
theorem dX4_closeBlocks_7 : decode cX4_closeBlocks 7 = .ok (.aload_n 0, 1) := by decide +kernel
theorem dX4_closeBlocks_8 : decode cX4_closeBlocks 8 = .ok (.bipush 125, 2) := by decide +kernel
theorem dX4_closeBlocks_10 : decode cX4_closeBlocks 10 = .ok (.invokevirtual 40, 3) := by decide +kernel
theorem dX4_closeBlocks_13 : decode cX4_closeBlocks 13 = .ok (.aload_n 0, 1) := by decide +kernel
theorem dX4_closeBlocks_14 : decode cX4_closeBlocks 14 = .ok (.bipush 59, 2) := by decide +kernel
theorem dX4_closeBlocks_16 : decode cX4_closeBlocks 16 = .ok (.invokevirtual 40, 3) := by decide +kernel
theorem dX4_closeBlocks_19 : decode cX4_closeBlocks 19 = .ok (.iinc 2 1, 3) := by decide +kernel
theorem dX4_closeBlocks_22 : decode cX4_closeBlocks 22 = .ok (.goto (-20), 3) := by decide +kernel
theorem dX4_closeBlocks_25 : decode cX4_closeBlocks 25 = .ok (.return_, 1) := by decide +kernel
theorem dX4_writeHead_0 : decode cX4_writeHead 0 = .ok (.aload_n 1, 1) := by decide +kernel
theorem dX4_writeHead_1 : decode cX4_writeHead 1 = .ok (.getfield 47, 3) := by decide +kernel
theorem dX4_writeHead_4 : decode cX4_writeHead 4 = .ok (.iload_n 2, 1) := by decide +kernel
theorem dX4_writeHead_5 : decode cX4_writeHead 5 = .ok (.iaload, 1) := by decide +kernel
theorem dX4_writeHead_6 : decode cX4_writeHead 6 = .ok (.tableswitch 53 0 2 #[26, 35, 44], 26) := by decide +kernel
theorem dX4_writeHead_32 : decode cX4_writeHead 32 = .ok (.aload_n 0, 1) := by decide +kernel
theorem dX4_writeHead_33 : decode cX4_writeHead 33 = .ok (.ldc 50, 2) := by decide +kernel
theorem dX4_writeHead_35 : decode cX4_writeHead 35 = .ok (.invokevirtual 52, 3) := by decide +kernel
theorem dX4_writeHead_38 : decode cX4_writeHead 38 = .ok (.goto 27, 3) := by decide +kernel
theorem dX4_writeHead_41 : decode cX4_writeHead 41 = .ok (.aload_n 0, 1) := by decide +kernel
theorem dX4_writeHead_42 : decode cX4_writeHead 42 = .ok (.ldc 56, 2) := by decide +kernel
theorem dX4_writeHead_44 : decode cX4_writeHead 44 = .ok (.invokevirtual 52, 3) := by decide +kernel
theorem dX4_writeHead_47 : decode cX4_writeHead 47 = .ok (.goto 18, 3) := by decide +kernel
theorem dX4_writeHead_50 : decode cX4_writeHead 50 = .ok (.aload_n 0, 1) := by decide +kernel
theorem dX4_writeHead_51 : decode cX4_writeHead 51 = .ok (.ldc 58, 2) := by decide +kernel
theorem dX4_writeHead_53 : decode cX4_writeHead 53 = .ok (.invokevirtual 52, 3) := by decide +kernel
theorem dX4_writeHead_56 : decode cX4_writeHead 56 = .ok (.goto 9, 3) := by decide +kernel
theorem dX4_writeHead_59 : decode cX4_writeHead 59 = .ok (.aload_n 0, 1) := by decide +kernel
theorem dX4_writeHead_60 : decode cX4_writeHead 60 = .ok (.ldc 60, 2) := by decide +kernel
theorem dX4_writeHead_62 : decode cX4_writeHead 62 = .ok (.invokevirtual 52, 3) := by decide +kernel
theorem dX4_writeHead_65 : decode cX4_writeHead 65 = .ok (.aload_n 0, 1) := by decide +kernel
theorem dX4_writeHead_66 : decode cX4_writeHead 66 = .ok (.aload_n 1, 1) := by decide +kernel
theorem dX4_writeHead_67 : decode cX4_writeHead 67 = .ok (.getfield 62, 3) := by decide +kernel
theorem dX4_writeHead_70 : decode cX4_writeHead 70 = .ok (.iload_n 2, 1) := by decide +kernel
theorem dX4_writeHead_71 : decode cX4_writeHead 71 = .ok (.iaload, 1) := by decide +kernel
theorem dX4_writeHead_72 : decode cX4_writeHead 72 = .ok (.invokevirtual 65, 3) := by decide +kernel
theorem dX4_writeHead_75 : decode cX4_writeHead 75 = .ok (.return_, 1) := by decide +kernel
theorem dX4_writeFrames_0 : decode cX4_writeFrames 0 = .ok (.aload_n 1, 1) := by decide +kernel
theorem dX4_writeFrames_1 : decode cX4_writeFrames 1 = .ok (.getfield 47, 3) := by decide +kernel
theorem dX4_writeFrames_4 : decode cX4_writeFrames 4 = .ok (.iload_n 2, 1) := by decide +kernel
theorem dX4_writeFrames_5 : decode cX4_writeFrames 5 = .ok (.iaload, 1) := by decide +kernel
theorem dX4_writeFrames_6 : decode cX4_writeFrames 6 = .ok (.iconst 1, 1) := by decide +kernel
theorem dX4_writeFrames_7 : decode cX4_writeFrames 7 = .ok (.if_icmp .ne 21, 3) := by decide +kernel
theorem dX4_writeFrames_10 : decode cX4_writeFrames 10 = .ok (.aload_n 0, 1) := by decide +kernel
theorem dX4_writeFrames_11 : decode cX4_writeFrames 11 = .ok (.bipush 32, 2) := by decide +kernel
theorem dX4_writeFrames_13 : decode cX4_writeFrames 13 = .ok (.invokevirtual 40, 3) := by decide +kernel
theorem dX4_writeFrames_16 : decode cX4_writeFrames 16 = .ok (.aload_n 0, 1) := by decide +kernel
theorem dX4_writeFrames_17 : decode cX4_writeFrames 17 = .ok (.aload_n 1, 1) := by decide +kernel
theorem dX4_writeFrames_18 : decode cX4_writeFrames 18 = .ok (.iload_n 2, 1) := by decide +kernel
theorem dX4_writeFrames_19 : decode cX4_writeFrames 19 = .ok (.invokevirtual 68, 3) := by decide +kernel
theorem dX4_writeFrames_22 : decode cX4_writeFrames 22 = .ok (.invokevirtual 65, 3) := by decide +kernel
theorem dX4_writeFrames_25 : decode cX4_writeFrames 25 = .ok (.goto 53, 3) := by decide +kernel
theorem dX4_writeFrames_28 : decode cX4_writeFrames 28 = .ok (.aload_n 1, 1) := by decide +kernel
theorem dX4_writeFrames_29 : decode cX4_writeFrames 29 = .ok (.iload_n 2, 1) := by decide +kernel
theorem dX4_writeFrames_30 : decode cX4_writeFrames 30 = .ok (.invokevirtual 68, 3) := by decide +kernel
theorem dX4_writeFrames_33 : decode cX4_writeFrames 33 = .ok (.aload_n 3, 1) := by decide +kernel
theorem dX4_writeFrames_34 : decode cX4_writeFrames 34 = .ok (.aload_n 1, 1) := by decide +kernel
theorem dX4_writeFrames_35 : decode cX4_writeFrames 35 = .ok (.getfield 62, 3) := by decide +kernel
theorem dX4_writeFrames_38 : decode cX4_writeFrames 38 = .ok (.iload_n 2, 1) := by decide +kernel
theorem dX4_writeFrames_39 : decode cX4_writeFrames 39 = .ok (.iaload, 1) := by decide +kernel
theorem dX4_writeFrames_40 : decode cX4_writeFrames 40 = .ok (.invokevirtual 72, 3) := by decide +kernel
theorem dX4_writeFrames_43 : decode cX4_writeFrames 43 = .ok (.if_icmp .eq 35, 3) := by decide +kernel
theorem dX4_writeFrames_46 : decode cX4_writeFrames 46 = .ok (.aload_n 0, 1) := by decide +kernel
theorem dX4_writeFrames_47 : decode cX4_writeFrames 47 = .ok (.ldc 77, 2) := by decide +kernel
theorem dX4_writeFrames_49 : decode cX4_writeFrames 49 = .ok (.invokevirtual 52, 3) := by decide +kernel
theorem dX4_writeFrames_52 : decode cX4_writeFrames 52 = .ok (.aload_n 0, 1) := by decide +kernel
theorem dX4_writeFrames_53 : decode cX4_writeFrames 53 = .ok (.aload_n 1, 1) := by decide +kernel
theorem dX4_writeFrames_54 : decode cX4_writeFrames 54 = .ok (.getfield 79, 3) := by decide +kernel
theorem dX4_writeFrames_57 : decode cX4_writeFrames 57 = .ok (.iload_n 2, 1) := by decide +kernel
theorem dX4_writeFrames_58 : decode cX4_writeFrames 58 = .ok (.iaload, 1) := by decide +kernel
theorem dX4_writeFrames_59 : decode cX4_writeFrames 59 = .ok (.invokevirtual 65, 3) := by decide +kernel
theorem dX4_writeFrames_62 : decode cX4_writeFrames 62 = .ok (.aload_n 0, 1) := by decide +kernel
theorem dX4_writeFrames_63 : decode cX4_writeFrames 63 = .ok (.ldc 82, 2) := by decide +kernel
theorem dX4_writeFrames_65 : decode cX4_writeFrames 65 = .ok (.invokevirtual 52, 3) := by decide +kernel
theorem dX4_writeFrames_68 : decode cX4_writeFrames 68 = .ok (.aload_n 0, 1) := by decide +kernel
theorem dX4_writeFrames_69 : decode cX4_writeFrames 69 = .ok (.aload_n 1, 1) := by decide +kernel
theorem dX4_writeFrames_70 : decode cX4_writeFrames 70 = .ok (.getfield 84, 3) := by decide +kernel
theorem dX4_writeFrames_73 : decode cX4_writeFrames 73 = .ok (.iload_n 2, 1) := by decide +kernel
theorem dX4_writeFrames_74 : decode cX4_writeFrames 74 = .ok (.iaload, 1) := by decide +kernel
theorem dX4_writeFrames_75 : decode cX4_writeFrames 75 = .ok (.invokevirtual 65, 3) := by decide +kernel
theorem dX4_writeFrames_78 : decode cX4_writeFrames 78 = .ok (.return_, 1) := by decide +kernel
theorem dX4_writeWords_0 : decode cX4_writeWords 0 = .ok (.aload_n 0, 1) := by decide +kernel
theorem dX4_writeWords_1 : decode cX4_writeWords 1 = .ok (.iconst 0, 1) := by decide +kernel
theorem dX4_writeWords_2 : decode cX4_writeWords 2 = .ok (.putfield 15, 3) := by decide +kernel
theorem dX4_writeWords_5 : decode cX4_writeWords 5 = .ok (.iconst 0, 1) := by decide +kernel
theorem dX4_writeWords_6 : decode cX4_writeWords 6 = .ok (.istore_n 2, 1) := by decide +kernel
theorem dX4_writeWords_7 : decode cX4_writeWords 7 = .ok (.iload_n 2, 1) := by decide +kernel
theorem dX4_writeWords_8 : decode cX4_writeWords 8 = .ok (.aload_n 1, 1) := by decide +kernel
theorem dX4_writeWords_9 : decode cX4_writeWords 9 = .ok (.getfield 87, 3) := by decide +kernel
theorem dX4_writeWords_12 : decode cX4_writeWords 12 = .ok (.if_icmp .ge 74, 3) := by decide +kernel
theorem dX4_writeWords_15 : decode cX4_writeWords 15 = .ok (.iload_n 2, 1) := by decide +kernel
theorem dX4_writeWords_16 : decode cX4_writeWords 16 = .ok (.ifCond .le 9, 3) := by decide +kernel
theorem dX4_writeWords_19 : decode cX4_writeWords 19 = .ok (.aload_n 0, 1) := by decide +kernel
theorem dX4_writeWords_20 : decode cX4_writeWords 20 = .ok (.bipush 32, 2) := by decide +kernel
theorem dX4_writeWords_22 : decode cX4_writeWords 22 = .ok (.invokevirtual 40, 3) := by decide +kernel
theorem dX4_writeWords_25 : decode cX4_writeWords 25 = .ok (.aload_n 1, 1) := by decide +kernel
theorem dX4_writeWords_26 : decode cX4_writeWords 26 = .ok (.getfield 92, 3) := by decide +kernel
theorem dX4_writeWords_29 : decode cX4_writeWords 29 = .ok (.iload_n 2, 1) := by decide +kernel
theorem dX4_writeWords_30 : decode cX4_writeWords 30 = .ok (.iaload, 1) := by decide +kernel
theorem dX4_writeWords_31 : decode cX4_writeWords 31 = .ok (.istore_n 3, 1) := by decide +kernel
theorem dX4_writeWords_32 : decode cX4_writeWords 32 = .ok (.iload_n 3, 1) := by decide +kernel
theorem dX4_writeWords_33 : decode cX4_writeWords 33 = .ok (.istore 4, 2) := by decide +kernel
theorem dX4_writeWords_35 : decode cX4_writeWords 35 = .ok (.iload 4, 2) := by decide +kernel
theorem dX4_writeWords_37 : decode cX4_writeWords 37 = .ok (.iload_n 3, 1) := by decide +kernel
theorem dX4_writeWords_38 : decode cX4_writeWords 38 = .ok (.aload_n 1, 1) := by decide +kernel
theorem dX4_writeWords_39 : decode cX4_writeWords 39 = .ok (.getfield 95, 3) := by decide +kernel
theorem dX4_writeWords_42 : decode cX4_writeWords 42 = .ok (.iload_n 2, 1) := by decide +kernel
theorem dX4_writeWords_43 : decode cX4_writeWords 43 = .ok (.iaload, 1) := by decide +kernel
theorem dX4_writeWords_44 : decode cX4_writeWords 44 = .ok (.iadd, 1) := by decide +kernel
theorem dX4_writeWords_45 : decode cX4_writeWords 45 = .ok (.if_icmp .ge 20, 3) := by decide +kernel
theorem dX4_writeWords_48 : decode cX4_writeWords 48 = .ok (.aload_n 0, 1) := by decide +kernel
theorem dX4_writeWords_49 : decode cX4_writeWords 49 = .ok (.aload_n 1, 1) := by decide +kernel
theorem dX4_writeWords_50 : decode cX4_writeWords 50 = .ok (.getfield 98, 3) := by decide +kernel
theorem dX4_writeWords_53 : decode cX4_writeWords 53 = .ok (.iload 4, 2) := by decide +kernel
theorem dX4_writeWords_55 : decode cX4_writeWords 55 = .ok (.baload, 1) := by decide +kernel
theorem dX4_writeWords_56 : decode cX4_writeWords 56 = .ok (.invokevirtual 40, 3) := by decide +kernel
theorem dX4_writeWords_59 : decode cX4_writeWords 59 = .ok (.iinc 4 1, 3) := by decide +kernel
theorem dX4_writeWords_62 : decode cX4_writeWords 62 = .ok (.goto (-27), 3) := by decide +kernel
theorem dX4_writeWords_65 : decode cX4_writeWords 65 = .ok (.aload_n 1, 1) := by decide +kernel
theorem dX4_writeWords_66 : decode cX4_writeWords 66 = .ok (.getfield 101, 3) := by decide +kernel
theorem dX4_writeWords_69 : decode cX4_writeWords 69 = .ok (.iload_n 2, 1) := by decide +kernel
theorem dX4_writeWords_70 : decode cX4_writeWords 70 = .ok (.baload, 1) := by decide +kernel
theorem dX4_writeWords_71 : decode cX4_writeWords 71 = .ok (.ifCond .eq 9, 3) := by decide +kernel
theorem dX4_writeWords_74 : decode cX4_writeWords 74 = .ok (.aload_n 0, 1) := by decide +kernel
theorem dX4_writeWords_75 : decode cX4_writeWords 75 = .ok (.bipush 46, 2) := by decide +kernel
theorem dX4_writeWords_77 : decode cX4_writeWords 77 = .ok (.invokevirtual 40, 3) := by decide +kernel
theorem dX4_writeWords_80 : decode cX4_writeWords 80 = .ok (.iinc 2 1, 3) := by decide +kernel
theorem dX4_writeWords_83 : decode cX4_writeWords 83 = .ok (.goto (-76), 3) := by decide +kernel
theorem dX4_writeWords_86 : decode cX4_writeWords 86 = .ok (.return_, 1) := by decide +kernel
theorem dX4_putText_0 : decode cX4_putText 0 = .ok (.iconst 0, 1) := by decide +kernel
theorem dX4_putText_1 : decode cX4_putText 1 = .ok (.istore_n 2, 1) := by decide +kernel
theorem dX4_putText_2 : decode cX4_putText 2 = .ok (.iload_n 2, 1) := by decide +kernel
theorem dX4_putText_3 : decode cX4_putText 3 = .ok (.aload_n 1, 1) := by decide +kernel
theorem dX4_putText_4 : decode cX4_putText 4 = .ok (.invokevirtual 105, 3) := by decide +kernel
theorem dX4_putText_7 : decode cX4_putText 7 = .ok (.if_icmp .ge 18, 3) := by decide +kernel
theorem dX4_putText_10 : decode cX4_putText 10 = .ok (.aload_n 0, 1) := by decide +kernel
theorem dX4_putText_11 : decode cX4_putText 11 = .ok (.aload_n 1, 1) := by decide +kernel
theorem dX4_putText_12 : decode cX4_putText 12 = .ok (.iload_n 2, 1) := by decide +kernel
theorem dX4_putText_13 : decode cX4_putText 13 = .ok (.invokevirtual 110, 3) := by decide +kernel
theorem dX4_putText_16 : decode cX4_putText 16 = .ok (.invokevirtual 40, 3) := by decide +kernel
theorem dX4_putText_19 : decode cX4_putText 19 = .ok (.iinc 2 1, 3) := by decide +kernel
theorem dX4_putText_22 : decode cX4_putText 22 = .ok (.goto (-20), 3) := by decide +kernel
theorem dX4_putText_25 : decode cX4_putText 25 = .ok (.return_, 1) := by decide +kernel
theorem dX4_putNumber_0 : decode cX4_putNumber 0 = .ok (.iload_n 1, 1) := by decide +kernel
theorem dX4_putNumber_1 : decode cX4_putNumber 1 = .ok (.bipush 100, 2) := by decide +kernel
theorem dX4_putNumber_3 : decode cX4_putNumber 3 = .ok (.if_icmp .lt 17, 3) := by decide +kernel
theorem dX4_putNumber_6 : decode cX4_putNumber 6 = .ok (.aload_n 0, 1) := by decide +kernel
theorem dX4_putNumber_7 : decode cX4_putNumber 7 = .ok (.bipush 48, 2) := by decide +kernel
theorem dX4_putNumber_9 : decode cX4_putNumber 9 = .ok (.iload_n 1, 1) := by decide +kernel
theorem dX4_putNumber_10 : decode cX4_putNumber 10 = .ok (.bipush 100, 2) := by decide +kernel
theorem dX4_putNumber_12 : decode cX4_putNumber 12 = .ok (.idiv, 1) := by decide +kernel
theorem dX4_putNumber_13 : decode cX4_putNumber 13 = .ok (.bipush 10, 2) := by decide +kernel
theorem dX4_putNumber_15 : decode cX4_putNumber 15 = .ok (.irem, 1) := by decide +kernel
theorem dX4_putNumber_16 : decode cX4_putNumber 16 = .ok (.iadd, 1) := by decide +kernel
theorem dX4_putNumber_17 : decode cX4_putNumber 17 = .ok (.invokevirtual 40, 3) := by decide +kernel
theorem dX4_putNumber_20 : decode cX4_putNumber 20 = .ok (.iload_n 1, 1) := by decide +kernel
theorem dX4_putNumber_21 : decode cX4_putNumber 21 = .ok (.bipush 10, 2) := by decide +kernel
theorem dX4_putNumber_23 : decode cX4_putNumber 23 = .ok (.if_icmp .lt 17, 3) := by decide +kernel
theorem dX4_putNumber_26 : decode cX4_putNumber 26 = .ok (.aload_n 0, 1) := by decide +kernel
theorem dX4_putNumber_27 : decode cX4_putNumber 27 = .ok (.bipush 48, 2) := by decide +kernel
theorem dX4_putNumber_29 : decode cX4_putNumber 29 = .ok (.iload_n 1, 1) := by decide +kernel
theorem dX4_putNumber_30 : decode cX4_putNumber 30 = .ok (.bipush 10, 2) := by decide +kernel
theorem dX4_putNumber_32 : decode cX4_putNumber 32 = .ok (.idiv, 1) := by decide +kernel
theorem dX4_putNumber_33 : decode cX4_putNumber 33 = .ok (.bipush 10, 2) := by decide +kernel
theorem dX4_putNumber_35 : decode cX4_putNumber 35 = .ok (.irem, 1) := by decide +kernel
theorem dX4_putNumber_36 : decode cX4_putNumber 36 = .ok (.iadd, 1) := by decide +kernel
theorem dX4_putNumber_37 : decode cX4_putNumber 37 = .ok (.invokevirtual 40, 3) := by decide +kernel
theorem dX4_putNumber_40 : decode cX4_putNumber 40 = .ok (.aload_n 0, 1) := by decide +kernel
theorem dX4_putNumber_41 : decode cX4_putNumber 41 = .ok (.bipush 48, 2) := by decide +kernel
theorem dX4_putNumber_43 : decode cX4_putNumber 43 = .ok (.iload_n 1, 1) := by decide +kernel
theorem dX4_putNumber_44 : decode cX4_putNumber 44 = .ok (.bipush 10, 2) := by decide +kernel
theorem dX4_putNumber_46 : decode cX4_putNumber 46 = .ok (.irem, 1) := by decide +kernel
theorem dX4_putNumber_47 : decode cX4_putNumber 47 = .ok (.iadd, 1) := by decide +kernel
theorem dX4_putNumber_48 : decode cX4_putNumber 48 = .ok (.invokevirtual 40, 3) := by decide +kernel
theorem dX4_putNumber_51 : decode cX4_putNumber 51 = .ok (.return_, 1) := by decide +kernel
theorem dX4_put_0 : decode cX4_put 0 = .ok (.aload_n 0, 1) := by decide +kernel
theorem dX4_put_1 : decode cX4_put 1 = .ok (.getfield 15, 3) := by decide +kernel
theorem dX4_put_4 : decode cX4_put 4 = .ok (.sipush 1000, 3) := by decide +kernel
theorem dX4_put_7 : decode cX4_put 7 = .ok (.if_icmp .ge 24, 3) := by decide +kernel
theorem dX4_put_10 : decode cX4_put 10 = .ok (.aload_n 0, 1) := by decide +kernel
theorem dX4_put_11 : decode cX4_put 11 = .ok (.getfield 9, 3) := by decide +kernel
theorem dX4_put_14 : decode cX4_put 14 = .ok (.aload_n 0, 1) := by decide +kernel
theorem dX4_put_15 : decode cX4_put 15 = .ok (.getfield 15, 3) := by decide +kernel
theorem dX4_put_18 : decode cX4_put 18 = .ok (.iload_n 1, 1) := by decide +kernel
theorem dX4_put_19 : decode cX4_put 19 = .ok (.i2b, 1) := by decide +kernel
theorem dX4_put_20 : decode cX4_put 20 = .ok (.bastore, 1) := by decide +kernel
theorem dX4_put_21 : decode cX4_put 21 = .ok (.aload_n 0, 1) := by decide +kernel
theorem dX4_put_22 : decode cX4_put 22 = .ok (.dup, 1) := by decide +kernel
theorem dX4_put_23 : decode cX4_put 23 = .ok (.getfield 15, 3) := by decide +kernel
theorem dX4_put_26 : decode cX4_put 26 = .ok (.iconst 1, 1) := by decide +kernel
theorem dX4_put_27 : decode cX4_put 27 = .ok (.iadd, 1) := by decide +kernel
theorem dX4_put_28 : decode cX4_put 28 = .ok (.putfield 15, 3) := by decide +kernel
theorem dX4_put_31 : decode cX4_put 31 = .ok (.return_, 1) := by decide +kernel
theorem dX5_init_0 : decode cX5_init 0 = .ok (.aload_n 0, 1) := by decide +kernel
theorem dX5_init_1 : decode cX5_init 1 = .ok (.invokespecial 3, 3) := by decide +kernel
theorem dX5_init_4 : decode cX5_init 4 = .ok (.aload_n 0, 1) := by decide +kernel
theorem dX5_init_5 : decode cX5_init 5 = .ok (.iconst 0, 1) := by decide +kernel
theorem dX5_init_6 : decode cX5_init 6 = .ok (.putfield 9, 3) := by decide +kernel
theorem dX5_init_9 : decode cX5_init 9 = .ok (.aload_n 0, 1) := by decide +kernel
theorem dX5_init_10 : decode cX5_init 10 = .ok (.iconst 0, 1) := by decide +kernel
theorem dX5_init_11 : decode cX5_init 11 = .ok (.putfield 15, 3) := by decide +kernel
theorem dX5_init_14 : decode cX5_init 14 = .ok (.aload_n 0, 1) := by decide +kernel
theorem dX5_init_15 : decode cX5_init 15 = .ok (.bipush 60, 2) := by decide +kernel
theorem dX5_init_17 : decode cX5_init 17 = .ok (.newarray .int, 2) := by decide +kernel
theorem dX5_init_19 : decode cX5_init 19 = .ok (.putfield 18, 3) := by decide +kernel
theorem dX5_init_22 : decode cX5_init 22 = .ok (.aload_n 0, 1) := by decide +kernel
theorem dX5_init_23 : decode cX5_init 23 = .ok (.bipush 60, 2) := by decide +kernel
theorem dX5_init_25 : decode cX5_init 25 = .ok (.newarray .int, 2) := by decide +kernel
theorem dX5_init_27 : decode cX5_init 27 = .ok (.putfield 22, 3) := by decide +kernel
theorem dX5_init_30 : decode cX5_init 30 = .ok (.aload_n 0, 1) := by decide +kernel
theorem dX5_init_31 : decode cX5_init 31 = .ok (.bipush 60, 2) := by decide +kernel
theorem dX5_init_33 : decode cX5_init 33 = .ok (.newarray .int, 2) := by decide +kernel
theorem dX5_init_35 : decode cX5_init 35 = .ok (.putfield 25, 3) := by decide +kernel
theorem dX5_init_38 : decode cX5_init 38 = .ok (.aload_n 0, 1) := by decide +kernel
theorem dX5_init_39 : decode cX5_init 39 = .ok (.bipush 60, 2) := by decide +kernel
theorem dX5_init_41 : decode cX5_init 41 = .ok (.newarray .int, 2) := by decide +kernel
theorem dX5_init_43 : decode cX5_init 43 = .ok (.putfield 28, 3) := by decide +kernel
theorem dX5_init_46 : decode cX5_init 46 = .ok (.aload_n 0, 1) := by decide +kernel
theorem dX5_init_47 : decode cX5_init 47 = .ok (.bipush 60, 2) := by decide +kernel
theorem dX5_init_49 : decode cX5_init 49 = .ok (.newarray .int, 2) := by decide +kernel
theorem dX5_init_51 : decode cX5_init 51 = .ok (.putfield 31, 3) := by decide +kernel
theorem dX5_init_54 : decode cX5_init 54 = .ok (.aload_n 0, 1) := by decide +kernel
theorem dX5_init_55 : decode cX5_init 55 = .ok (.bipush 60, 2) := by decide +kernel
theorem dX5_init_57 : decode cX5_init 57 = .ok (.newarray .int, 2) := by decide +kernel
theorem dX5_init_59 : decode cX5_init 59 = .ok (.putfield 34, 3) := by decide +kernel
theorem dX5_init_62 : decode cX5_init 62 = .ok (.aload_n 0, 1) := by decide +kernel
theorem dX5_init_63 : decode cX5_init 63 = .ok (.iconst 5, 1) := by decide +kernel
theorem dX5_init_64 : decode cX5_init 64 = .ok (.newarray .int, 2) := by decide +kernel
theorem dX5_init_66 : decode cX5_init 66 = .ok (.putfield 37, 3) := by decide +kernel
theorem dX5_init_69 : decode cX5_init 69 = .ok (.aload_n 0, 1) := by decide +kernel
theorem dX5_init_70 : decode cX5_init 70 = .ok (.iconst 0, 1) := by decide +kernel
theorem dX5_init_71 : decode cX5_init 71 = .ok (.putfield 40, 3) := by decide +kernel
theorem dX5_init_74 : decode cX5_init 74 = .ok (.return_, 1) := by decide +kernel
theorem dX5_cutFrom_0 : decode cX5_cutFrom 0 = .ok (.aload_n 0, 1) := by decide +kernel
theorem dX5_cutFrom_1 : decode cX5_cutFrom 1 = .ok (.iconst 0, 1) := by decide +kernel
theorem dX5_cutFrom_2 : decode cX5_cutFrom 2 = .ok (.putfield 9, 3) := by decide +kernel
theorem dX5_cutFrom_5 : decode cX5_cutFrom 5 = .ok (.aload_n 0, 1) := by decide +kernel
theorem dX5_cutFrom_6 : decode cX5_cutFrom 6 = .ok (.iconst 0, 1) := by decide +kernel
theorem dX5_cutFrom_7 : decode cX5_cutFrom 7 = .ok (.putfield 15, 3) := by decide +kernel
theorem dX5_cutFrom_10 : decode cX5_cutFrom 10 = .ok (.aload_n 0, 1) := by decide +kernel
theorem dX5_cutFrom_11 : decode cX5_cutFrom 11 = .ok (.iconst 0, 1) := by decide +kernel
theorem dX5_cutFrom_12 : decode cX5_cutFrom 12 = .ok (.putfield 40, 3) := by decide +kernel
theorem dX5_cutFrom_15 : decode cX5_cutFrom 15 = .ok (.aload_n 0, 1) := by decide +kernel
theorem dX5_cutFrom_16 : decode cX5_cutFrom 16 = .ok (.aload_n 1, 1) := by decide +kernel
theorem dX5_cutFrom_17 : decode cX5_cutFrom 17 = .ok (.iconst 0, 1) := by decide +kernel
theorem dX5_cutFrom_18 : decode cX5_cutFrom 18 = .ok (.aload_n 1, 1) := by decide +kernel
theorem dX5_cutFrom_19 : decode cX5_cutFrom 19 = .ok (.getfield 43, 3) := by decide +kernel
theorem dX5_cutFrom_22 : decode cX5_cutFrom 22 = .ok (.iconst 0, 1) := by decide +kernel
theorem dX5_cutFrom_23 : decode cX5_cutFrom 23 = .ok (.iconst 0, 1) := by decide +kernel
theorem dX5_cutFrom_24 : decode cX5_cutFrom 24 = .ok (.invokevirtual 46, 3) := by decide +kernel
theorem dX5_cutFrom_27 : decode cX5_cutFrom 27 = .ok (.return_, 1) := by decide +kernel
theorem dX5_addItems_0 : decode cX5_addItems 0 = .ok (.iload_n 2, 1) := by decide +kernel
theorem dX5_addItems_1 : decode cX5_addItems 1 = .ok (.istore 6, 2) := by decide +kernel
theorem dX5_addItems_3 : decode cX5_addItems 3 = .ok (.iload 6, 2) := by decide +kernel
theorem dX5_addItems_5 : decode cX5_addItems 5 = .ok (.iload_n 3, 1) := by decide +kernel
theorem dX5_addItems_6 : decode cX5_addItems 6 = .ok (.if_icmp .ge 39, 3) := by decide +kernel
theorem dX5_addItems_9 : decode cX5_addItems 9 = .ok (.iload 6, 2) := by decide +kernel
theorem dX5_addItems_11 : decode cX5_addItems 11 = .ok (.bipush 30, 2) := by decide +kernel
theorem dX5_addItems_13 : decode cX5_addItems 13 = .ok (.if_icmp .ge 32, 3) := by decide +kernel
theorem dX5_addItems_16 : decode cX5_addItems 16 = .ok (.aload_n 1, 1) := by decide +kernel
theorem dX5_addItems_17 : decode cX5_addItems 17 = .ok (.getfield 50, 3) := by decide +kernel
theorem dX5_addItems_20 : decode cX5_addItems 20 = .ok (.iload 6, 2) := by decide +kernel
theorem dX5_addItems_22 : decode cX5_addItems 22 = .ok (.iaload, 1) := by decide +kernel
theorem dX5_addItems_23 : decode cX5_addItems 23 = .ok (.iload 4, 2) := by decide +kernel
theorem dX5_addItems_25 : decode cX5_addItems 25 = .ok (.if_icmp .ne 14, 3) := by decide +kernel
theorem dX5_addItems_28 : decode cX5_addItems 28 = .ok (.aload_n 0, 1) := by decide +kernel
theorem dX5_addItems_29 : decode cX5_addItems 29 = .ok (.aload_n 1, 1) := by decide +kernel
theorem dX5_addItems_30 : decode cX5_addItems 30 = .ok (.iload 6, 2) := by decide +kernel
theorem dX5_addItems_32 : decode cX5_addItems 32 = .ok (.iload 4, 2) := by decide +kernel
theorem dX5_addItems_34 : decode cX5_addItems 34 = .ok (.iload 5, 2) := by decide +kernel
theorem dX5_addItems_36 : decode cX5_addItems 36 = .ok (.invokevirtual 53, 3) := by decide +kernel
theorem dX5_addItems_39 : decode cX5_addItems 39 = .ok (.iinc 6 1, 3) := by decide +kernel
theorem dX5_addItems_42 : decode cX5_addItems 42 = .ok (.goto (-39), 3) := by decide +kernel
theorem dX5_addItems_45 : decode cX5_addItems 45 = .ok (.return_, 1) := by decide +kernel
theorem dX5_addItem_0 : decode cX5_addItem 0 = .ok (.aload_n 1, 1) := by decide +kernel
theorem dX5_addItem_1 : decode cX5_addItem 1 = .ok (.iload_n 2, 1) := by decide +kernel
theorem dX5_addItem_2 : decode cX5_addItem 2 = .ok (.invokevirtual 57, 3) := by decide +kernel
theorem dX5_addItem_5 : decode cX5_addItem 5 = .ok (.ifCond .ne 12, 3) := by decide +kernel
theorem dX5_addItem_8 : decode cX5_addItem 8 = .ok (.aload_n 0, 1) := by decide +kernel
theorem dX5_addItem_9 : decode cX5_addItem 9 = .ok (.aload_n 1, 1) := by decide +kernel
theorem dX5_addItem_10 : decode cX5_addItem 10 = .ok (.iload_n 2, 1) := by decide +kernel
theorem dX5_addItem_11 : decode cX5_addItem 11 = .ok (.iload 4, 2) := by decide +kernel
theorem dX5_addItem_13 : decode cX5_addItem 13 = .ok (.invokevirtual 61, 3) := by decide +kernel
theorem dX5_addItem_16 : decode cX5_addItem 16 = .ok (.return_, 1) := by decide +kernel
theorem dX5_addItem_17 : decode cX5_addItem 17 = .ok (.aload_n 1, 1) := by decide +kernel
theorem dX5_addItem_18 : decode cX5_addItem 18 = .ok (.iload_n 2, 1) := by decide +kernel
theorem dX5_addItem_19 : decode cX5_addItem 19 = .ok (.invokevirtual 65, 3) := by decide +kernel
theorem dX5_addItem_22 : decode cX5_addItem 22 = .ok (.istore 5, 2) := by decide +kernel
theorem dX5_addItem_24 : decode cX5_addItem 24 = .ok (.iload_n 3, 1) := by decide +kernel
theorem dX5_addItem_25 : decode cX5_addItem 25 = .ok (.iconst 4, 1) := by decide +kernel
theorem dX5_addItem_26 : decode cX5_addItem 26 = .ok (.if_icmp .ge 21, 3) := by decide +kernel
theorem dX5_addItem_29 : decode cX5_addItem 29 = .ok (.iload 4, 2) := by decide +kernel
theorem dX5_addItem_31 : decode cX5_addItem 31 = .ok (.iconst 4, 1) := by decide +kernel
theorem dX5_addItem_32 : decode cX5_addItem 32 = .ok (.if_icmp .ge 15, 3) := by decide +kernel
theorem dX5_addItem_35 : decode cX5_addItem 35 = .ok (.aload_n 1, 1) := by decide +kernel
theorem dX5_addItem_36 : decode cX5_addItem 36 = .ok (.iload_n 2, 1) := by decide +kernel
theorem dX5_addItem_37 : decode cX5_addItem 37 = .ok (.iconst 1, 1) := by decide +kernel
theorem dX5_addItem_38 : decode cX5_addItem 38 = .ok (.iadd, 1) := by decide +kernel
theorem dX5_addItem_39 : decode cX5_addItem 39 = .ok (.iload 5, 2) := by decide +kernel
theorem dX5_addItem_41 : decode cX5_addItem 41 = .ok (.invokestatic 69, 3) := by decide +kernel
theorem dX5_addItem_44 : decode cX5_addItem 44 = .ok (.ifCond .ne 4, 3) := by decide +kernel
theorem dX5_addItem_47 : decode cX5_addItem 47 = .ok (.return_, 1) := by decide +kernel
theorem dX5_addItem_48 : decode cX5_addItem 48 = .ok (.aload_n 1, 1) := by decide +kernel
theorem dX5_addItem_49 : decode cX5_addItem 49 = .ok (.getfield 73, 3) := by decide +kernel
theorem dX5_addItem_52 : decode cX5_addItem 52 = .ok (.iload_n 2, 1) := by decide +kernel
theorem dX5_addItem_53 : decode cX5_addItem 53 = .ok (.iaload, 1) := by decide +kernel
theorem dX5_addItem_54 : decode cX5_addItem 54 = .ok (.iconst 3, 1) := by decide +kernel
theorem dX5_addItem_55 : decode cX5_addItem 55 = .ok (.if_icmp .ne 49, 3) := by decide +kernel
theorem dX5_addItem_58 : decode cX5_addItem 58 = .ok (.aload_n 0, 1) := by decide +kernel
theorem dX5_addItem_59 : decode cX5_addItem 59 = .ok (.getfield 37, 3) := by decide +kernel
theorem dX5_addItem_62 : decode cX5_addItem 62 = .ok (.iload 4, 2) := by decide +kernel
theorem dX5_addItem_64 : decode cX5_addItem 64 = .ok (.iconst 1, 1) := by decide +kernel
theorem dX5_addItem_65 : decode cX5_addItem 65 = .ok (.iadd, 1) := by decide +kernel
theorem dX5_addItem_66 : decode cX5_addItem 66 = .ok (.aload_n 1, 1) := by decide +kernel
theorem dX5_addItem_67 : decode cX5_addItem 67 = .ok (.getfield 74, 3) := by decide +kernel
theorem dX5_addItem_70 : decode cX5_addItem 70 = .ok (.iload_n 2, 1) := by decide +kernel
theorem dX5_addItem_71 : decode cX5_addItem 71 = .ok (.iaload, 1) := by decide +kernel
theorem dX5_addItem_72 : decode cX5_addItem 72 = .ok (.iastore, 1) := by decide +kernel
theorem dX5_addItem_73 : decode cX5_addItem 73 = .ok (.aload_n 0, 1) := by decide +kernel
theorem dX5_addItem_74 : decode cX5_addItem 74 = .ok (.aload_n 1, 1) := by decide +kernel
theorem dX5_addItem_75 : decode cX5_addItem 75 = .ok (.iload_n 2, 1) := by decide +kernel
theorem dX5_addItem_76 : decode cX5_addItem 76 = .ok (.iconst 1, 1) := by decide +kernel
theorem dX5_addItem_77 : decode cX5_addItem 77 = .ok (.iadd, 1) := by decide +kernel
theorem dX5_addItem_78 : decode cX5_addItem 78 = .ok (.iload 5, 2) := by decide +kernel
theorem dX5_addItem_80 : decode cX5_addItem 80 = .ok (.iload_n 3, 1) := by decide +kernel
theorem dX5_addItem_81 : decode cX5_addItem 81 = .ok (.iconst 1, 1) := by decide +kernel
theorem dX5_addItem_82 : decode cX5_addItem 82 = .ok (.iadd, 1) := by decide +kernel
theorem dX5_addItem_83 : decode cX5_addItem 83 = .ok (.iload 4, 2) := by decide +kernel
theorem dX5_addItem_85 : decode cX5_addItem 85 = .ok (.iconst 1, 1) := by decide +kernel
theorem dX5_addItem_86 : decode cX5_addItem 86 = .ok (.iadd, 1) := by decide +kernel
theorem dX5_addItem_87 : decode cX5_addItem 87 = .ok (.invokevirtual 46, 3) := by decide +kernel
theorem dX5_addItem_90 : decode cX5_addItem 90 = .ok (.aload_n 0, 1) := by decide +kernel
theorem dX5_addItem_91 : decode cX5_addItem 91 = .ok (.aload_n 0, 1) := by decide +kernel
theorem dX5_addItem_92 : decode cX5_addItem 92 = .ok (.getfield 40, 3) := by decide +kernel
theorem dX5_addItem_95 : decode cX5_addItem 95 = .ok (.iload 4, 2) := by decide +kernel
theorem dX5_addItem_97 : decode cX5_addItem 97 = .ok (.invokestatic 75, 3) := by decide +kernel
theorem dX5_addItem_100 : decode cX5_addItem 100 = .ok (.putfield 40, 3) := by decide +kernel
theorem dX5_addItem_103 : decode cX5_addItem 103 = .ok (.return_, 1) := by decide +kernel
theorem dX5_addItem_104 : decode cX5_addItem 104 = .ok (.iconst 0, 1) := by decide +kernel
theorem dX5_addItem_105 : decode cX5_addItem 105 = .ok (.istore 6, 2) := by decide +kernel
theorem dX5_addItem_107 : decode cX5_addItem 107 = .ok (.iload 6, 2) := by decide +kernel
theorem dX5_addItem_109 : decode cX5_addItem 109 = .ok (.aload_n 1, 1) := by decide +kernel
theorem dX5_addItem_110 : decode cX5_addItem 110 = .ok (.getfield 74, 3) := by decide +kernel
theorem dX5_addItem_113 : decode cX5_addItem 113 = .ok (.iload_n 2, 1) := by decide +kernel
theorem dX5_addItem_114 : decode cX5_addItem 114 = .ok (.iaload, 1) := by decide +kernel
theorem dX5_addItem_115 : decode cX5_addItem 115 = .ok (.if_icmp .ge 24, 3) := by decide +kernel
theorem dX5_addItem_118 : decode cX5_addItem 118 = .ok (.aload_n 0, 1) := by decide +kernel
theorem dX5_addItem_119 : decode cX5_addItem 119 = .ok (.aload_n 1, 1) := by decide +kernel
theorem dX5_addItem_120 : decode cX5_addItem 120 = .ok (.iload_n 2, 1) := by decide +kernel
theorem dX5_addItem_121 : decode cX5_addItem 121 = .ok (.iconst 1, 1) := by decide +kernel
theorem dX5_addItem_122 : decode cX5_addItem 122 = .ok (.iadd, 1) := by decide +kernel
theorem dX5_addItem_123 : decode cX5_addItem 123 = .ok (.iload 5, 2) := by decide +kernel
theorem dX5_addItem_125 : decode cX5_addItem 125 = .ok (.iload_n 3, 1) := by decide +kernel
theorem dX5_addItem_126 : decode cX5_addItem 126 = .ok (.iconst 1, 1) := by decide +kernel
theorem dX5_addItem_127 : decode cX5_addItem 127 = .ok (.iadd, 1) := by decide +kernel
theorem dX5_addItem_128 : decode cX5_addItem 128 = .ok (.iload 4, 2) := by decide +kernel
theorem dX5_addItem_130 : decode cX5_addItem 130 = .ok (.invokevirtual 46, 3) := by decide +kernel
theorem dX5_addItem_133 : decode cX5_addItem 133 = .ok (.iinc 6 1, 3) := by decide +kernel
theorem dX5_addItem_136 : decode cX5_addItem 136 = .ok (.goto (-29), 3) := by decide +kernel
theorem dX5_addItem_139 : decode cX5_addItem 139 = .ok (.return_, 1) := by decide +kernel
theorem dX5_hasPieces_0 : decode cX5_hasPieces 0 = .ok (.iload_n 1, 1) := by decide +kernel
theorem dX5_hasPieces_1 : decode cX5_hasPieces 1 = .ok (.istore_n 3, 1) := by decide +kernel
theorem dX5_hasPieces_2 : decode cX5_hasPieces 2 = .ok (.iload_n 3, 1) := by decide +kernel
theorem dX5_hasPieces_3 : decode cX5_hasPieces 3 = .ok (.iload_n 2, 1) := by decide +kernel
theorem dX5_hasPieces_4 : decode cX5_hasPieces 4 = .ok (.if_icmp .ge 19, 3) := by decide +kernel
theorem dX5_hasPieces_7 : decode cX5_hasPieces 7 = .ok (.aload_n 0, 1) := by decide +kernel
theorem dX5_hasPieces_8 : decode cX5_hasPieces 8 = .ok (.iload_n 3, 1) := by decide +kernel
theorem dX5_hasPieces_9 : decode cX5_hasPieces 9 = .ok (.invokevirtual 57, 3) := by decide +kernel
theorem dX5_hasPieces_12 : decode cX5_hasPieces 12 = .ok (.ifCond .ne 5, 3) := by decide +kernel
theorem dX5_hasPieces_15 : decode cX5_hasPieces 15 = .ok (.iconst 1, 1) := by decide +kernel
theorem dX5_hasPieces_16 : decode cX5_hasPieces 16 = .ok (.ireturn, 1) := by decide +kernel
theorem dX5_hasPieces_17 : decode cX5_hasPieces 17 = .ok (.iinc 3 1, 3) := by decide +kernel
theorem dX5_hasPieces_20 : decode cX5_hasPieces 20 = .ok (.goto (-18), 3) := by decide +kernel
theorem dX5_hasPieces_23 : decode cX5_hasPieces 23 = .ok (.iconst 0, 1) := by decide +kernel
theorem dX5_hasPieces_24 : decode cX5_hasPieces 24 = .ok (.ireturn, 1) := by decide +kernel
theorem dX5_addPiece_0 : decode cX5_addPiece 0 = .ok (.aload_n 0, 1) := by decide +kernel
theorem dX5_addPiece_1 : decode cX5_addPiece 1 = .ok (.getfield 9, 3) := by decide +kernel
theorem dX5_addPiece_4 : decode cX5_addPiece 4 = .ok (.bipush 60, 2) := by decide +kernel
theorem dX5_addPiece_6 : decode cX5_addPiece 6 = .ok (.if_icmp .lt 4, 3) := by decide +kernel
theorem dX5_addPiece_9 : decode cX5_addPiece 9 = .ok (.return_, 1) := by decide +kernel
theorem dX5_addPiece_10 : decode cX5_addPiece 10 = .ok (.aload_n 0, 1) := by decide +kernel
theorem dX5_addPiece_11 : decode cX5_addPiece 11 = .ok (.getfield 18, 3) := by decide +kernel
theorem dX5_addPiece_14 : decode cX5_addPiece 14 = .ok (.aload_n 0, 1) := by decide +kernel
theorem dX5_addPiece_15 : decode cX5_addPiece 15 = .ok (.getfield 9, 3) := by decide +kernel
theorem dX5_addPiece_18 : decode cX5_addPiece 18 = .ok (.aload_n 1, 1) := by decide +kernel
theorem dX5_addPiece_19 : decode cX5_addPiece 19 = .ok (.getfield 73, 3) := by decide +kernel
theorem dX5_addPiece_22 : decode cX5_addPiece 22 = .ok (.iload_n 2, 1) := by decide +kernel
theorem dX5_addPiece_23 : decode cX5_addPiece 23 = .ok (.iaload, 1) := by decide +kernel
theorem dX5_addPiece_24 : decode cX5_addPiece 24 = .ok (.iastore, 1) := by decide +kernel
theorem dX5_addPiece_25 : decode cX5_addPiece 25 = .ok (.aload_n 0, 1) := by decide +kernel
theorem dX5_addPiece_26 : decode cX5_addPiece 26 = .ok (.getfield 22, 3) := by decide +kernel
theorem dX5_addPiece_29 : decode cX5_addPiece 29 = .ok (.aload_n 0, 1) := by decide +kernel
theorem dX5_addPiece_30 : decode cX5_addPiece 30 = .ok (.getfield 9, 3) := by decide +kernel
theorem dX5_addPiece_33 : decode cX5_addPiece 33 = .ok (.aload_n 1, 1) := by decide +kernel
theorem dX5_addPiece_34 : decode cX5_addPiece 34 = .ok (.getfield 74, 3) := by decide +kernel
theorem dX5_addPiece_37 : decode cX5_addPiece 37 = .ok (.iload_n 2, 1) := by decide +kernel
theorem dX5_addPiece_38 : decode cX5_addPiece 38 = .ok (.iaload, 1) := by decide +kernel
theorem dX5_addPiece_39 : decode cX5_addPiece 39 = .ok (.iastore, 1) := by decide +kernel
theorem dX5_addPiece_40 : decode cX5_addPiece 40 = .ok (.aload_n 0, 1) := by decide +kernel
theorem dX5_addPiece_41 : decode cX5_addPiece 41 = .ok (.getfield 25, 3) := by decide +kernel
theorem dX5_addPiece_44 : decode cX5_addPiece 44 = .ok (.aload_n 0, 1) := by decide +kernel
theorem dX5_addPiece_45 : decode cX5_addPiece 45 = .ok (.getfield 9, 3) := by decide +kernel
theorem dX5_addPiece_48 : decode cX5_addPiece 48 = .ok (.aload_n 1, 1) := by decide +kernel
theorem dX5_addPiece_49 : decode cX5_addPiece 49 = .ok (.getfield 81, 3) := by decide +kernel
theorem dX5_addPiece_52 : decode cX5_addPiece 52 = .ok (.iload_n 2, 1) := by decide +kernel
theorem dX5_addPiece_53 : decode cX5_addPiece 53 = .ok (.iaload, 1) := by decide +kernel
theorem dX5_addPiece_54 : decode cX5_addPiece 54 = .ok (.iastore, 1) := by decide +kernel
theorem dX5_addPiece_55 : decode cX5_addPiece 55 = .ok (.aload_n 0, 1) := by decide +kernel
theorem dX5_addPiece_56 : decode cX5_addPiece 56 = .ok (.getfield 28, 3) := by decide +kernel
theorem dX5_addPiece_59 : decode cX5_addPiece 59 = .ok (.aload_n 0, 1) := by decide +kernel
theorem dX5_addPiece_60 : decode cX5_addPiece 60 = .ok (.getfield 9, 3) := by decide +kernel
theorem dX5_addPiece_63 : decode cX5_addPiece 63 = .ok (.aload_n 1, 1) := by decide +kernel
theorem dX5_addPiece_64 : decode cX5_addPiece 64 = .ok (.iload_n 2, 1) := by decide +kernel
theorem dX5_addPiece_65 : decode cX5_addPiece 65 = .ok (.invokevirtual 82, 3) := by decide +kernel
theorem dX5_addPiece_68 : decode cX5_addPiece 68 = .ok (.iastore, 1) := by decide +kernel
theorem dX5_addPiece_69 : decode cX5_addPiece 69 = .ok (.aload_n 0, 1) := by decide +kernel
theorem dX5_addPiece_70 : decode cX5_addPiece 70 = .ok (.getfield 34, 3) := by decide +kernel
theorem dX5_addPiece_73 : decode cX5_addPiece 73 = .ok (.aload_n 0, 1) := by decide +kernel
theorem dX5_addPiece_74 : decode cX5_addPiece 74 = .ok (.getfield 9, 3) := by decide +kernel
theorem dX5_addPiece_77 : decode cX5_addPiece 77 = .ok (.aload_n 0, 1) := by decide +kernel
theorem dX5_addPiece_78 : decode cX5_addPiece 78 = .ok (.aload_n 0, 1) := by decide +kernel
theorem dX5_addPiece_79 : decode cX5_addPiece 79 = .ok (.getfield 9, 3) := by decide +kernel
theorem dX5_addPiece_82 : decode cX5_addPiece 82 = .ok (.invokevirtual 85, 3) := by decide +kernel
theorem dX5_addPiece_85 : decode cX5_addPiece 85 = .ok (.iastore, 1) := by decide +kernel
theorem dX5_addPiece_86 : decode cX5_addPiece 86 = .ok (.aload_n 0, 1) := by decide +kernel
theorem dX5_addPiece_87 : decode cX5_addPiece 87 = .ok (.getfield 31, 3) := by decide +kernel
theorem dX5_addPiece_90 : decode cX5_addPiece 90 = .ok (.aload_n 0, 1) := by decide +kernel
theorem dX5_addPiece_91 : decode cX5_addPiece 91 = .ok (.getfield 9, 3) := by decide +kernel
theorem dX5_addPiece_94 : decode cX5_addPiece 94 = .ok (.aload_n 0, 1) := by decide +kernel
theorem dX5_addPiece_95 : decode cX5_addPiece 95 = .ok (.getfield 9, 3) := by decide +kernel
theorem dX5_addPiece_98 : decode cX5_addPiece 98 = .ok (.ifCond .ne 7, 3) := by decide +kernel
theorem dX5_addPiece_101 : decode cX5_addPiece 101 = .ok (.iconst 0, 1) := by decide +kernel
theorem dX5_addPiece_102 : decode cX5_addPiece 102 = .ok (.goto 23, 3) := by decide +kernel
theorem dX5_addPiece_105 : decode cX5_addPiece 105 = .ok (.aload_n 0, 1) := by decide +kernel
theorem dX5_addPiece_106 : decode cX5_addPiece 106 = .ok (.aload_n 0, 1) := by decide +kernel
theorem dX5_addPiece_107 : decode cX5_addPiece 107 = .ok (.getfield 9, 3) := by decide +kernel
theorem dX5_addPiece_110 : decode cX5_addPiece 110 = .ok (.iconst 1, 1) := by decide +kernel
theorem dX5_addPiece_111 : decode cX5_addPiece 111 = .ok (.isub, 1) := by decide +kernel
theorem dX5_addPiece_112 : decode cX5_addPiece 112 = .ok (.invokevirtual 88, 3) := by decide +kernel
theorem dX5_addPiece_115 : decode cX5_addPiece 115 = .ok (.aload_n 0, 1) := by decide +kernel
theorem dX5_addPiece_116 : decode cX5_addPiece 116 = .ok (.getfield 34, 3) := by decide +kernel
theorem dX5_addPiece_119 : decode cX5_addPiece 119 = .ok (.aload_n 0, 1) := by decide +kernel
theorem dX5_addPiece_120 : decode cX5_addPiece 120 = .ok (.getfield 9, 3) := by decide +kernel
theorem dX5_addPiece_123 : decode cX5_addPiece 123 = .ok (.iaload, 1) := by decide +kernel
theorem dX5_addPiece_124 : decode cX5_addPiece 124 = .ok (.isub, 1) := by decide +kernel
theorem dX5_addPiece_125 : decode cX5_addPiece 125 = .ok (.iastore, 1) := by decide +kernel
theorem dX5_addPiece_126 : decode cX5_addPiece 126 = .ok (.aload_n 0, 1) := by decide +kernel
theorem dX5_addPiece_127 : decode cX5_addPiece 127 = .ok (.aload_n 0, 1) := by decide +kernel
theorem dX5_addPiece_128 : decode cX5_addPiece 128 = .ok (.getfield 15, 3) := by decide +kernel
theorem dX5_addPiece_131 : decode cX5_addPiece 131 = .ok (.aload_n 0, 1) := by decide +kernel
theorem dX5_addPiece_132 : decode cX5_addPiece 132 = .ok (.aload_n 0, 1) := by decide +kernel
theorem dX5_addPiece_133 : decode cX5_addPiece 133 = .ok (.getfield 9, 3) := by decide +kernel
theorem dX5_addPiece_136 : decode cX5_addPiece 136 = .ok (.invokevirtual 88, 3) := by decide +kernel
theorem dX5_addPiece_139 : decode cX5_addPiece 139 = .ok (.invokestatic 91, 3) := by decide +kernel
theorem dX5_addPiece_142 : decode cX5_addPiece 142 = .ok (.putfield 15, 3) := by decide +kernel
theorem dX5_addPiece_145 : decode cX5_addPiece 145 = .ok (.aload_n 0, 1) := by decide +kernel
theorem dX5_addPiece_146 : decode cX5_addPiece 146 = .ok (.iload_n 3, 1) := by decide +kernel
theorem dX5_addPiece_147 : decode cX5_addPiece 147 = .ok (.putfield 40, 3) := by decide +kernel
theorem dX5_addPiece_150 : decode cX5_addPiece 150 = .ok (.aload_n 0, 1) := by decide +kernel
theorem dX5_addPiece_151 : decode cX5_addPiece 151 = .ok (.dup, 1) := by decide +kernel
theorem dX5_addPiece_152 : decode cX5_addPiece 152 = .ok (.getfield 9, 3) := by decide +kernel
theorem dX5_addPiece_155 : decode cX5_addPiece 155 = .ok (.iconst 1, 1) := by decide +kernel
theorem dX5_addPiece_156 : decode cX5_addPiece 156 = .ok (.iadd, 1) := by decide +kernel
theorem dX5_addPiece_157 : decode cX5_addPiece 157 = .ok (.putfield 9, 3) := by decide +kernel
theorem dX5_addPiece_160 : decode cX5_addPiece 160 = .ok (.return_, 1) := by decide +kernel
theorem dX5_overlapOf_0 : decode cX5_overlapOf 0 = .ok (.iload_n 1, 1) := by decide +kernel
theorem dX5_overlapOf_1 : decode cX5_overlapOf 1 = .ok (.iconst 1, 1) := by decide +kernel
theorem dX5_overlapOf_2 : decode cX5_overlapOf 2 = .ok (.if_icmp .lt 25, 3) := by decide +kernel
theorem dX5_overlapOf_5 : decode cX5_overlapOf 5 = .ok (.iload_n 1, 1) := by decide +kernel
theorem dX5_overlapOf_6 : decode cX5_overlapOf 6 = .ok (.bipush 60, 2) := by decide +kernel
theorem dX5_overlapOf_8 : decode cX5_overlapOf 8 = .ok (.if_icmp .ge 19, 3) := by decide +kernel
theorem dX5_overlapOf_11 : decode cX5_overlapOf 11 = .ok (.aload_n 0, 1) := by decide +kernel
theorem dX5_overlapOf_12 : decode cX5_overlapOf 12 = .ok (.getfield 40, 3) := by decide +kernel
theorem dX5_overlapOf_15 : decode cX5_overlapOf 15 = .ok (.iconst 1, 1) := by decide +kernel
theorem dX5_overlapOf_16 : decode cX5_overlapOf 16 = .ok (.if_icmp .lt 11, 3) := by decide +kernel
theorem dX5_overlapOf_19 : decode cX5_overlapOf 19 = .ok (.aload_n 0, 1) := by decide +kernel
theorem dX5_overlapOf_20 : decode cX5_overlapOf 20 = .ok (.getfield 40, 3) := by decide +kernel
theorem dX5_overlapOf_23 : decode cX5_overlapOf 23 = .ok (.iconst 4, 1) := by decide +kernel
theorem dX5_overlapOf_24 : decode cX5_overlapOf 24 = .ok (.if_icmp .le 5, 3) := by decide +kernel
theorem dX5_overlapOf_27 : decode cX5_overlapOf 27 = .ok (.iconst 0, 1) := by decide +kernel
theorem dX5_overlapOf_28 : decode cX5_overlapOf 28 = .ok (.ireturn, 1) := by decide +kernel
theorem dX5_overlapOf_29 : decode cX5_overlapOf 29 = .ok (.aload_n 0, 1) := by decide +kernel
theorem dX5_overlapOf_30 : decode cX5_overlapOf 30 = .ok (.getfield 28, 3) := by decide +kernel
theorem dX5_overlapOf_33 : decode cX5_overlapOf 33 = .ok (.iload_n 1, 1) := by decide +kernel
theorem dX5_overlapOf_34 : decode cX5_overlapOf 34 = .ok (.iconst 1, 1) := by decide +kernel
theorem dX5_overlapOf_35 : decode cX5_overlapOf 35 = .ok (.isub, 1) := by decide +kernel
theorem dX5_overlapOf_36 : decode cX5_overlapOf 36 = .ok (.iaload, 1) := by decide +kernel
theorem dX5_overlapOf_37 : decode cX5_overlapOf 37 = .ok (.aload_n 0, 1) := by decide +kernel
theorem dX5_overlapOf_38 : decode cX5_overlapOf 38 = .ok (.getfield 28, 3) := by decide +kernel
theorem dX5_overlapOf_41 : decode cX5_overlapOf 41 = .ok (.iload_n 1, 1) := by decide +kernel
theorem dX5_overlapOf_42 : decode cX5_overlapOf 42 = .ok (.iaload, 1) := by decide +kernel
theorem dX5_overlapOf_43 : decode cX5_overlapOf 43 = .ok (.invokestatic 75, 3) := by decide +kernel
theorem dX5_overlapOf_46 : decode cX5_overlapOf 46 = .ok (.istore_n 2, 1) := by decide +kernel
theorem dX5_overlapOf_47 : decode cX5_overlapOf 47 = .ok (.aload_n 0, 1) := by decide +kernel
theorem dX5_overlapOf_48 : decode cX5_overlapOf 48 = .ok (.getfield 37, 3) := by decide +kernel
theorem dX5_overlapOf_51 : decode cX5_overlapOf 51 = .ok (.aload_n 0, 1) := by decide +kernel
theorem dX5_overlapOf_52 : decode cX5_overlapOf 52 = .ok (.getfield 40, 3) := by decide +kernel
theorem dX5_overlapOf_55 : decode cX5_overlapOf 55 = .ok (.iaload, 1) := by decide +kernel
theorem dX5_overlapOf_56 : decode cX5_overlapOf 56 = .ok (.iload_n 2, 1) := by decide +kernel
theorem dX5_overlapOf_57 : decode cX5_overlapOf 57 = .ok (.iconst 2, 1) := by decide +kernel
theorem dX5_overlapOf_58 : decode cX5_overlapOf 58 = .ok (.idiv, 1) := by decide +kernel
theorem dX5_overlapOf_59 : decode cX5_overlapOf 59 = .ok (.invokestatic 75, 3) := by decide +kernel
theorem dX5_overlapOf_62 : decode cX5_overlapOf 62 = .ok (.ireturn, 1) := by decide +kernel
theorem dX5_endOf_0 : decode cX5_endOf 0 = .ok (.iload_n 1, 1) := by decide +kernel
theorem dX5_endOf_1 : decode cX5_endOf 1 = .ok (.ifCond .lt 25, 3) := by decide +kernel
theorem dX5_endOf_4 : decode cX5_endOf 4 = .ok (.iload_n 1, 1) := by decide +kernel
theorem dX5_endOf_5 : decode cX5_endOf 5 = .ok (.bipush 60, 2) := by decide +kernel
theorem dX5_endOf_7 : decode cX5_endOf 7 = .ok (.if_icmp .ge 19, 3) := by decide +kernel
theorem dX5_endOf_10 : decode cX5_endOf 10 = .ok (.aload_n 0, 1) := by decide +kernel
theorem dX5_endOf_11 : decode cX5_endOf 11 = .ok (.getfield 31, 3) := by decide +kernel
theorem dX5_endOf_14 : decode cX5_endOf 14 = .ok (.iload_n 1, 1) := by decide +kernel
theorem dX5_endOf_15 : decode cX5_endOf 15 = .ok (.iaload, 1) := by decide +kernel
theorem dX5_endOf_16 : decode cX5_endOf 16 = .ok (.aload_n 0, 1) := by decide +kernel
theorem dX5_endOf_17 : decode cX5_endOf 17 = .ok (.getfield 28, 3) := by decide +kernel
theorem dX5_endOf_20 : decode cX5_endOf 20 = .ok (.iload_n 1, 1) := by decide +kernel
theorem dX5_endOf_21 : decode cX5_endOf 21 = .ok (.iaload, 1) := by decide +kernel
theorem dX5_endOf_22 : decode cX5_endOf 22 = .ok (.iadd, 1) := by decide +kernel
theorem dX5_endOf_23 : decode cX5_endOf 23 = .ok (.goto 4, 3) := by decide +kernel
theorem dX5_endOf_26 : decode cX5_endOf 26 = .ok (.iconst 0, 1) := by decide +kernel
theorem dX5_endOf_27 : decode cX5_endOf 27 = .ok (.ireturn, 1) := by decide +kernel
theorem dX5_onScreen_0 : decode cX5_onScreen 0 = .ok (.aload_n 0, 1) := by decide +kernel
theorem dX5_onScreen_1 : decode cX5_onScreen 1 = .ok (.getfield 9, 3) := by decide +kernel
theorem dX5_onScreen_4 : decode cX5_onScreen 4 = .ok (.iconst 1, 1) := by decide +kernel
theorem dX5_onScreen_5 : decode cX5_onScreen 5 = .ok (.isub, 1) := by decide +kernel
theorem dX5_onScreen_6 : decode cX5_onScreen 6 = .ok (.istore_n 2, 1) := by decide +kernel
theorem dX5_onScreen_7 : decode cX5_onScreen 7 = .ok (.iload_n 2, 1) := by decide +kernel
theorem dX5_onScreen_8 : decode cX5_onScreen 8 = .ok (.ifCond .lt 30, 3) := by decide +kernel
theorem dX5_onScreen_11 : decode cX5_onScreen 11 = .ok (.aload_n 0, 1) := by decide +kernel
theorem dX5_onScreen_12 : decode cX5_onScreen 12 = .ok (.getfield 31, 3) := by decide +kernel
theorem dX5_onScreen_15 : decode cX5_onScreen 15 = .ok (.iload_n 2, 1) := by decide +kernel
theorem dX5_onScreen_16 : decode cX5_onScreen 16 = .ok (.iaload, 1) := by decide +kernel
theorem dX5_onScreen_17 : decode cX5_onScreen 17 = .ok (.iload_n 1, 1) := by decide +kernel
theorem dX5_onScreen_18 : decode cX5_onScreen 18 = .ok (.if_icmp .gt 14, 3) := by decide +kernel
theorem dX5_onScreen_21 : decode cX5_onScreen 21 = .ok (.iload_n 1, 1) := by decide +kernel
theorem dX5_onScreen_22 : decode cX5_onScreen 22 = .ok (.aload_n 0, 1) := by decide +kernel
theorem dX5_onScreen_23 : decode cX5_onScreen 23 = .ok (.iload_n 2, 1) := by decide +kernel
theorem dX5_onScreen_24 : decode cX5_onScreen 24 = .ok (.invokevirtual 88, 3) := by decide +kernel
theorem dX5_onScreen_27 : decode cX5_onScreen 27 = .ok (.if_icmp .ge 5, 3) := by decide +kernel
theorem dX5_onScreen_30 : decode cX5_onScreen 30 = .ok (.iload_n 2, 1) := by decide +kernel
theorem dX5_onScreen_31 : decode cX5_onScreen 31 = .ok (.ireturn, 1) := by decide +kernel
theorem dX5_onScreen_32 : decode cX5_onScreen 32 = .ok (.iinc 2 (-1), 3) := by decide +kernel
theorem dX5_onScreen_35 : decode cX5_onScreen 35 = .ok (.goto (-28), 3) := by decide +kernel
theorem dX5_onScreen_38 : decode cX5_onScreen 38 = .ok (.iconst (-1), 1) := by decide +kernel
theorem dX5_onScreen_39 : decode cX5_onScreen 39 = .ok (.ireturn, 1) := by decide +kernel
theorem dX5_framesOnScreen_0 : decode cX5_framesOnScreen 0 = .ok (.iload_n 1, 1) := by decide +kernel
theorem dX5_framesOnScreen_1 : decode cX5_framesOnScreen 1 = .ok (.ifCond .lt 11, 3) := by decide +kernel
theorem dX5_framesOnScreen_4 : decode cX5_framesOnScreen 4 = .ok (.iload_n 1, 1) := by decide +kernel
theorem dX5_framesOnScreen_5 : decode cX5_framesOnScreen 5 = .ok (.aload_n 0, 1) := by decide +kernel
theorem dX5_framesOnScreen_6 : decode cX5_framesOnScreen 6 = .ok (.getfield 9, 3) := by decide +kernel
theorem dX5_framesOnScreen_9 : decode cX5_framesOnScreen 9 = .ok (.if_icmp .lt 5, 3) := by decide +kernel
theorem dX5_framesOnScreen_12 : decode cX5_framesOnScreen 12 = .ok (.iconst 0, 1) := by decide +kernel
theorem dX5_framesOnScreen_13 : decode cX5_framesOnScreen 13 = .ok (.ireturn, 1) := by decide +kernel
theorem dX5_framesOnScreen_14 : decode cX5_framesOnScreen 14 = .ok (.iload_n 1, 1) := by decide +kernel
theorem dX5_framesOnScreen_15 : decode cX5_framesOnScreen 15 = .ok (.iconst 1, 1) := by decide +kernel
theorem dX5_framesOnScreen_16 : decode cX5_framesOnScreen 16 = .ok (.iadd, 1) := by decide +kernel
theorem dX5_framesOnScreen_17 : decode cX5_framesOnScreen 17 = .ok (.aload_n 0, 1) := by decide +kernel
theorem dX5_framesOnScreen_18 : decode cX5_framesOnScreen 18 = .ok (.getfield 9, 3) := by decide +kernel
theorem dX5_framesOnScreen_21 : decode cX5_framesOnScreen 21 = .ok (.if_icmp .ge 14, 3) := by decide +kernel
theorem dX5_framesOnScreen_24 : decode cX5_framesOnScreen 24 = .ok (.aload_n 0, 1) := by decide +kernel
theorem dX5_framesOnScreen_25 : decode cX5_framesOnScreen 25 = .ok (.getfield 31, 3) := by decide +kernel
theorem dX5_framesOnScreen_28 : decode cX5_framesOnScreen 28 = .ok (.iload_n 1, 1) := by decide +kernel
theorem dX5_framesOnScreen_29 : decode cX5_framesOnScreen 29 = .ok (.iconst 1, 1) := by decide +kernel
theorem dX5_framesOnScreen_30 : decode cX5_framesOnScreen 30 = .ok (.iadd, 1) := by decide +kernel
theorem dX5_framesOnScreen_31 : decode cX5_framesOnScreen 31 = .ok (.iaload, 1) := by decide +kernel
theorem dX5_framesOnScreen_32 : decode cX5_framesOnScreen 32 = .ok (.goto 7, 3) := by decide +kernel
theorem dX5_framesOnScreen_35 : decode cX5_framesOnScreen 35 = .ok (.aload_n 0, 1) := by decide +kernel
theorem dX5_framesOnScreen_36 : decode cX5_framesOnScreen 36 = .ok (.getfield 15, 3) := by decide +kernel
theorem dX5_framesOnScreen_39 : decode cX5_framesOnScreen 39 = .ok (.aload_n 0, 1) := by decide +kernel
theorem dX5_framesOnScreen_40 : decode cX5_framesOnScreen 40 = .ok (.getfield 31, 3) := by decide +kernel
theorem dX5_framesOnScreen_43 : decode cX5_framesOnScreen 43 = .ok (.iload_n 1, 1) := by decide +kernel
theorem dX5_framesOnScreen_44 : decode cX5_framesOnScreen 44 = .ok (.iaload, 1) := by decide +kernel
theorem dX5_framesOnScreen_45 : decode cX5_framesOnScreen 45 = .ok (.isub, 1) := by decide +kernel
theorem dX5_framesOnScreen_46 : decode cX5_framesOnScreen 46 = .ok (.ireturn, 1) := by decide +kernel
theorem dX5_shows_0 : decode cX5_shows 0 = .ok (.aload_n 0, 1) := by decide +kernel
theorem dX5_shows_1 : decode cX5_shows 1 = .ok (.iload_n 2, 1) := by decide +kernel
theorem dX5_shows_2 : decode cX5_shows 2 = .ok (.invokevirtual 94, 3) := by decide +kernel
theorem dX5_shows_5 : decode cX5_shows 5 = .ok (.istore_n 3, 1) := by decide +kernel
theorem dX5_shows_6 : decode cX5_shows 6 = .ok (.iload_n 3, 1) := by decide +kernel
theorem dX5_shows_7 : decode cX5_shows 7 = .ok (.ifCond .lt 27, 3) := by decide +kernel
theorem dX5_shows_10 : decode cX5_shows 10 = .ok (.aload_n 0, 1) := by decide +kernel
theorem dX5_shows_11 : decode cX5_shows 11 = .ok (.getfield 18, 3) := by decide +kernel
theorem dX5_shows_14 : decode cX5_shows 14 = .ok (.iload_n 3, 1) := by decide +kernel
theorem dX5_shows_15 : decode cX5_shows 15 = .ok (.iaload, 1) := by decide +kernel
theorem dX5_shows_16 : decode cX5_shows 16 = .ok (.iconst 1, 1) := by decide +kernel
theorem dX5_shows_17 : decode cX5_shows 17 = .ok (.if_icmp .ne 17, 3) := by decide +kernel
theorem dX5_shows_20 : decode cX5_shows 20 = .ok (.aload_n 0, 1) := by decide +kernel
theorem dX5_shows_21 : decode cX5_shows 21 = .ok (.getfield 22, 3) := by decide +kernel
theorem dX5_shows_24 : decode cX5_shows 24 = .ok (.iload_n 3, 1) := by decide +kernel
theorem dX5_shows_25 : decode cX5_shows 25 = .ok (.iaload, 1) := by decide +kernel
theorem dX5_shows_26 : decode cX5_shows 26 = .ok (.iload_n 1, 1) := by decide +kernel
theorem dX5_shows_27 : decode cX5_shows 27 = .ok (.if_icmp .ne 7, 3) := by decide +kernel
theorem dX5_shows_30 : decode cX5_shows 30 = .ok (.iconst 1, 1) := by decide +kernel
theorem dX5_shows_31 : decode cX5_shows 31 = .ok (.goto 4, 3) := by decide +kernel
theorem dX5_shows_34 : decode cX5_shows 34 = .ok (.iconst 0, 1) := by decide +kernel
theorem dX5_shows_35 : decode cX5_shows 35 = .ok (.ireturn, 1) := by decide +kernel
theorem dX5_cameraOf_0 : decode cX5_cameraOf 0 = .ok (.iload_n 1, 1) := by decide +kernel
theorem dX5_cameraOf_1 : decode cX5_cameraOf 1 = .ok (.ifCond .lt 20, 3) := by decide +kernel
theorem dX5_cameraOf_4 : decode cX5_cameraOf 4 = .ok (.iload_n 1, 1) := by decide +kernel
theorem dX5_cameraOf_5 : decode cX5_cameraOf 5 = .ok (.aload_n 0, 1) := by decide +kernel
theorem dX5_cameraOf_6 : decode cX5_cameraOf 6 = .ok (.getfield 9, 3) := by decide +kernel
theorem dX5_cameraOf_9 : decode cX5_cameraOf 9 = .ok (.if_icmp .ge 12, 3) := by decide +kernel
theorem dX5_cameraOf_12 : decode cX5_cameraOf 12 = .ok (.aload_n 0, 1) := by decide +kernel
theorem dX5_cameraOf_13 : decode cX5_cameraOf 13 = .ok (.getfield 18, 3) := by decide +kernel
theorem dX5_cameraOf_16 : decode cX5_cameraOf 16 = .ok (.iload_n 1, 1) := by decide +kernel
theorem dX5_cameraOf_17 : decode cX5_cameraOf 17 = .ok (.iaload, 1) := by decide +kernel
theorem dX5_cameraOf_18 : decode cX5_cameraOf 18 = .ok (.ifCond .eq 5, 3) := by decide +kernel
theorem dX5_cameraOf_21 : decode cX5_cameraOf 21 = .ok (.iconst (-1), 1) := by decide +kernel
theorem dX5_cameraOf_22 : decode cX5_cameraOf 22 = .ok (.ireturn, 1) := by decide +kernel
theorem dX5_cameraOf_23 : decode cX5_cameraOf 23 = .ok (.aload_n 2, 1) := by decide +kernel
theorem dX5_cameraOf_24 : decode cX5_cameraOf 24 = .ok (.aload_n 0, 1) := by decide +kernel
theorem dX5_cameraOf_25 : decode cX5_cameraOf 25 = .ok (.getfield 22, 3) := by decide +kernel
theorem dX5_cameraOf_28 : decode cX5_cameraOf 28 = .ok (.iload_n 1, 1) := by decide +kernel
theorem dX5_cameraOf_29 : decode cX5_cameraOf 29 = .ok (.iaload, 1) := by decide +kernel
theorem dX5_cameraOf_30 : decode cX5_cameraOf 30 = .ok (.invokevirtual 97, 3) := by decide +kernel
theorem dX5_cameraOf_33 : decode cX5_cameraOf 33 = .ok (.ireturn, 1) := by decide +kernel
theorem dX5_countOf_0 : decode cX5_countOf 0 = .ok (.iconst 0, 1) := by decide +kernel
theorem dX5_countOf_1 : decode cX5_countOf 1 = .ok (.istore_n 3, 1) := by decide +kernel
theorem dX5_countOf_2 : decode cX5_countOf 2 = .ok (.iconst 0, 1) := by decide +kernel
theorem dX5_countOf_3 : decode cX5_countOf 3 = .ok (.istore 4, 2) := by decide +kernel
theorem dX5_countOf_5 : decode cX5_countOf 5 = .ok (.iload 4, 2) := by decide +kernel
theorem dX5_countOf_7 : decode cX5_countOf 7 = .ok (.aload_n 0, 1) := by decide +kernel
theorem dX5_countOf_8 : decode cX5_countOf 8 = .ok (.getfield 9, 3) := by decide +kernel
theorem dX5_countOf_11 : decode cX5_countOf 11 = .ok (.if_icmp .ge 34, 3) := by decide +kernel
theorem dX5_countOf_14 : decode cX5_countOf 14 = .ok (.aload_n 0, 1) := by decide +kernel
theorem dX5_countOf_15 : decode cX5_countOf 15 = .ok (.getfield 18, 3) := by decide +kernel
theorem dX5_countOf_18 : decode cX5_countOf 18 = .ok (.iload 4, 2) := by decide +kernel
theorem dX5_countOf_20 : decode cX5_countOf 20 = .ok (.iaload, 1) := by decide +kernel
theorem dX5_countOf_21 : decode cX5_countOf 21 = .ok (.iload_n 1, 1) := by decide +kernel
theorem dX5_countOf_22 : decode cX5_countOf 22 = .ok (.if_icmp .ne 17, 3) := by decide +kernel
theorem dX5_countOf_25 : decode cX5_countOf 25 = .ok (.aload_n 0, 1) := by decide +kernel
theorem dX5_countOf_26 : decode cX5_countOf 26 = .ok (.getfield 22, 3) := by decide +kernel
theorem dX5_countOf_29 : decode cX5_countOf 29 = .ok (.iload 4, 2) := by decide +kernel
theorem dX5_countOf_31 : decode cX5_countOf 31 = .ok (.iaload, 1) := by decide +kernel
theorem dX5_countOf_32 : decode cX5_countOf 32 = .ok (.iload_n 2, 1) := by decide +kernel
theorem dX5_countOf_33 : decode cX5_countOf 33 = .ok (.if_icmp .ne 6, 3) := by decide +kernel
theorem dX5_countOf_36 : decode cX5_countOf 36 = .ok (.iinc 3 1, 3) := by decide +kernel
theorem dX5_countOf_39 : decode cX5_countOf 39 = .ok (.iinc 4 1, 3) := by decide +kernel
theorem dX5_countOf_42 : decode cX5_countOf 42 = .ok (.goto (-37), 3) := by decide +kernel
theorem dX5_countOf_45 : decode cX5_countOf 45 = .ok (.iload_n 3, 1) := by decide +kernel
theorem dX5_countOf_46 : decode cX5_countOf 46 = .ok (.ireturn, 1) := by decide +kernel
theorem dX5_framesOf_0 : decode cX5_framesOf 0 = .ok (.iconst 0, 1) := by decide +kernel
theorem dX5_framesOf_1 : decode cX5_framesOf 1 = .ok (.istore_n 3, 1) := by decide +kernel
theorem dX5_framesOf_2 : decode cX5_framesOf 2 = .ok (.iconst 0, 1) := by decide +kernel
theorem dX5_framesOf_3 : decode cX5_framesOf 3 = .ok (.istore 4, 2) := by decide +kernel
theorem dX5_framesOf_5 : decode cX5_framesOf 5 = .ok (.iload 4, 2) := by decide +kernel
theorem dX5_framesOf_7 : decode cX5_framesOf 7 = .ok (.aload_n 0, 1) := by decide +kernel
theorem dX5_framesOf_8 : decode cX5_framesOf 8 = .ok (.getfield 9, 3) := by decide +kernel
theorem dX5_framesOf_11 : decode cX5_framesOf 11 = .ok (.if_icmp .ge 41, 3) := by decide +kernel
theorem dX5_framesOf_14 : decode cX5_framesOf 14 = .ok (.aload_n 0, 1) := by decide +kernel
theorem dX5_framesOf_15 : decode cX5_framesOf 15 = .ok (.getfield 18, 3) := by decide +kernel
theorem dX5_framesOf_18 : decode cX5_framesOf 18 = .ok (.iload 4, 2) := by decide +kernel
theorem dX5_framesOf_20 : decode cX5_framesOf 20 = .ok (.iaload, 1) := by decide +kernel
theorem dX5_framesOf_21 : decode cX5_framesOf 21 = .ok (.iload_n 1, 1) := by decide +kernel
theorem dX5_framesOf_22 : decode cX5_framesOf 22 = .ok (.if_icmp .ne 24, 3) := by decide +kernel
theorem dX5_framesOf_25 : decode cX5_framesOf 25 = .ok (.aload_n 0, 1) := by decide +kernel
theorem dX5_framesOf_26 : decode cX5_framesOf 26 = .ok (.getfield 22, 3) := by decide +kernel
theorem dX5_framesOf_29 : decode cX5_framesOf 29 = .ok (.iload 4, 2) := by decide +kernel
theorem dX5_framesOf_31 : decode cX5_framesOf 31 = .ok (.iaload, 1) := by decide +kernel
theorem dX5_framesOf_32 : decode cX5_framesOf 32 = .ok (.iload_n 2, 1) := by decide +kernel
theorem dX5_framesOf_33 : decode cX5_framesOf 33 = .ok (.if_icmp .ne 13, 3) := by decide +kernel
theorem dX5_framesOf_36 : decode cX5_framesOf 36 = .ok (.iload_n 3, 1) := by decide +kernel
theorem dX5_framesOf_37 : decode cX5_framesOf 37 = .ok (.aload_n 0, 1) := by decide +kernel
theorem dX5_framesOf_38 : decode cX5_framesOf 38 = .ok (.getfield 28, 3) := by decide +kernel
theorem dX5_framesOf_41 : decode cX5_framesOf 41 = .ok (.iload 4, 2) := by decide +kernel
theorem dX5_framesOf_43 : decode cX5_framesOf 43 = .ok (.iaload, 1) := by decide +kernel
theorem dX5_framesOf_44 : decode cX5_framesOf 44 = .ok (.iadd, 1) := by decide +kernel
theorem dX5_framesOf_45 : decode cX5_framesOf 45 = .ok (.istore_n 3, 1) := by decide +kernel
theorem dX5_framesOf_46 : decode cX5_framesOf 46 = .ok (.iinc 4 1, 3) := by decide +kernel
theorem dX5_framesOf_49 : decode cX5_framesOf 49 = .ok (.goto (-44), 3) := by decide +kernel
theorem dX5_framesOf_52 : decode cX5_framesOf 52 = .ok (.iload_n 3, 1) := by decide +kernel
theorem dX5_framesOf_53 : decode cX5_framesOf 53 = .ok (.ireturn, 1) := by decide +kernel
theorem dX5_longest_0 : decode cX5_longest 0 = .ok (.iconst 0, 1) := by decide +kernel
theorem dX5_longest_1 : decode cX5_longest 1 = .ok (.istore_n 1, 1) := by decide +kernel
theorem dX5_longest_2 : decode cX5_longest 2 = .ok (.iconst 0, 1) := by decide +kernel
theorem dX5_longest_3 : decode cX5_longest 3 = .ok (.istore_n 2, 1) := by decide +kernel
theorem dX5_longest_4 : decode cX5_longest 4 = .ok (.iload_n 2, 1) := by decide +kernel
theorem dX5_longest_5 : decode cX5_longest 5 = .ok (.aload_n 0, 1) := by decide +kernel
theorem dX5_longest_6 : decode cX5_longest 6 = .ok (.getfield 9, 3) := by decide +kernel
theorem dX5_longest_9 : decode cX5_longest 9 = .ok (.if_icmp .ge 20, 3) := by decide +kernel
theorem dX5_longest_12 : decode cX5_longest 12 = .ok (.iload_n 1, 1) := by decide +kernel
theorem dX5_longest_13 : decode cX5_longest 13 = .ok (.aload_n 0, 1) := by decide +kernel
theorem dX5_longest_14 : decode cX5_longest 14 = .ok (.getfield 28, 3) := by decide +kernel
theorem dX5_longest_17 : decode cX5_longest 17 = .ok (.iload_n 2, 1) := by decide +kernel
theorem dX5_longest_18 : decode cX5_longest 18 = .ok (.iaload, 1) := by decide +kernel
theorem dX5_longest_19 : decode cX5_longest 19 = .ok (.invokestatic 91, 3) := by decide +kernel
theorem dX5_longest_22 : decode cX5_longest 22 = .ok (.istore_n 1, 1) := by decide +kernel
theorem dX5_longest_23 : decode cX5_longest 23 = .ok (.iinc 2 1, 3) := by decide +kernel
theorem dX5_longest_26 : decode cX5_longest 26 = .ok (.goto (-22), 3) := by decide +kernel
theorem dX5_longest_29 : decode cX5_longest 29 = .ok (.iload_n 1, 1) := by decide +kernel
theorem dX5_longest_30 : decode cX5_longest 30 = .ok (.ireturn, 1) := by decide +kernel
theorem dX5_allOverlaps_0 : decode cX5_allOverlaps 0 = .ok (.iconst 0, 1) := by decide +kernel
theorem dX5_allOverlaps_1 : decode cX5_allOverlaps 1 = .ok (.istore_n 1, 1) := by decide +kernel
theorem dX5_allOverlaps_2 : decode cX5_allOverlaps 2 = .ok (.iconst 0, 1) := by decide +kernel
theorem dX5_allOverlaps_3 : decode cX5_allOverlaps 3 = .ok (.istore_n 2, 1) := by decide +kernel
theorem dX5_allOverlaps_4 : decode cX5_allOverlaps 4 = .ok (.iload_n 2, 1) := by decide +kernel
theorem dX5_allOverlaps_5 : decode cX5_allOverlaps 5 = .ok (.aload_n 0, 1) := by decide +kernel
theorem dX5_allOverlaps_6 : decode cX5_allOverlaps 6 = .ok (.getfield 9, 3) := by decide +kernel
theorem dX5_allOverlaps_9 : decode cX5_allOverlaps 9 = .ok (.if_icmp .ge 18, 3) := by decide +kernel
theorem dX5_allOverlaps_12 : decode cX5_allOverlaps 12 = .ok (.iload_n 1, 1) := by decide +kernel
theorem dX5_allOverlaps_13 : decode cX5_allOverlaps 13 = .ok (.aload_n 0, 1) := by decide +kernel
theorem dX5_allOverlaps_14 : decode cX5_allOverlaps 14 = .ok (.getfield 34, 3) := by decide +kernel
theorem dX5_allOverlaps_17 : decode cX5_allOverlaps 17 = .ok (.iload_n 2, 1) := by decide +kernel
theorem dX5_allOverlaps_18 : decode cX5_allOverlaps 18 = .ok (.iaload, 1) := by decide +kernel
theorem dX5_allOverlaps_19 : decode cX5_allOverlaps 19 = .ok (.iadd, 1) := by decide +kernel
theorem dX5_allOverlaps_20 : decode cX5_allOverlaps 20 = .ok (.istore_n 1, 1) := by decide +kernel
theorem dX5_allOverlaps_21 : decode cX5_allOverlaps 21 = .ok (.iinc 2 1, 3) := by decide +kernel
theorem dX5_allOverlaps_24 : decode cX5_allOverlaps 24 = .ok (.goto (-20), 3) := by decide +kernel
theorem dX5_allOverlaps_27 : decode cX5_allOverlaps 27 = .ok (.iload_n 1, 1) := by decide +kernel
theorem dX5_allOverlaps_28 : decode cX5_allOverlaps 28 = .ok (.ireturn, 1) := by decide +kernel
theorem dX6_init_0 : decode cX6_init 0 = .ok (.aload_n 0, 1) := by decide +kernel
theorem dX6_init_1 : decode cX6_init 1 = .ok (.invokespecial 3, 3) := by decide +kernel
theorem dX6_init_4 : decode cX6_init 4 = .ok (.aload_n 0, 1) := by decide +kernel
theorem dX6_init_5 : decode cX6_init 5 = .ok (.iconst 0, 1) := by decide +kernel
theorem dX6_init_6 : decode cX6_init 6 = .ok (.putfield 9, 3) := by decide +kernel
theorem dX6_init_9 : decode cX6_init 9 = .ok (.aload_n 0, 1) := by decide +kernel
theorem dX6_init_10 : decode cX6_init 10 = .ok (.iconst 0, 1) := by decide +kernel
theorem dX6_init_11 : decode cX6_init 11 = .ok (.putfield 15, 3) := by decide +kernel
theorem dX6_init_14 : decode cX6_init 14 = .ok (.aload_n 0, 1) := by decide +kernel
theorem dX6_init_15 : decode cX6_init 15 = .ok (.bipush 60, 2) := by decide +kernel
theorem dX6_init_17 : decode cX6_init 17 = .ok (.newarray .int, 2) := by decide +kernel
theorem dX6_init_19 : decode cX6_init 19 = .ok (.putfield 18, 3) := by decide +kernel
theorem dX6_init_22 : decode cX6_init 22 = .ok (.aload_n 0, 1) := by decide +kernel
theorem dX6_init_23 : decode cX6_init 23 = .ok (.bipush 60, 2) := by decide +kernel
theorem dX6_init_25 : decode cX6_init 25 = .ok (.newarray .int, 2) := by decide +kernel
theorem dX6_init_27 : decode cX6_init 27 = .ok (.putfield 22, 3) := by decide +kernel
theorem dX6_init_30 : decode cX6_init 30 = .ok (.aload_n 0, 1) := by decide +kernel
theorem dX6_init_31 : decode cX6_init 31 = .ok (.bipush 60, 2) := by decide +kernel
theorem dX6_init_33 : decode cX6_init 33 = .ok (.newarray .int, 2) := by decide +kernel
theorem dX6_init_35 : decode cX6_init 35 = .ok (.putfield 25, 3) := by decide +kernel
theorem dX6_init_38 : decode cX6_init 38 = .ok (.return_, 1) := by decide +kernel
theorem dX6_timeFrom_0 : decode cX6_timeFrom 0 = .ok (.aload_n 0, 1) := by decide +kernel
theorem dX6_timeFrom_1 : decode cX6_timeFrom 1 = .ok (.aload_n 1, 1) := by decide +kernel
theorem dX6_timeFrom_2 : decode cX6_timeFrom 2 = .ok (.getfield 28, 3) := by decide +kernel
theorem dX6_timeFrom_5 : decode cX6_timeFrom 5 = .ok (.putfield 9, 3) := by decide +kernel
theorem dX6_timeFrom_8 : decode cX6_timeFrom 8 = .ok (.aload_n 0, 1) := by decide +kernel
theorem dX6_timeFrom_9 : decode cX6_timeFrom 9 = .ok (.iconst 0, 1) := by decide +kernel
theorem dX6_timeFrom_10 : decode cX6_timeFrom 10 = .ok (.putfield 15, 3) := by decide +kernel
theorem dX6_timeFrom_13 : decode cX6_timeFrom 13 = .ok (.iconst 0, 1) := by decide +kernel
theorem dX6_timeFrom_14 : decode cX6_timeFrom 14 = .ok (.istore_n 3, 1) := by decide +kernel
theorem dX6_timeFrom_15 : decode cX6_timeFrom 15 = .ok (.iconst 0, 1) := by decide +kernel
theorem dX6_timeFrom_16 : decode cX6_timeFrom 16 = .ok (.istore 4, 2) := by decide +kernel
theorem dX6_timeFrom_18 : decode cX6_timeFrom 18 = .ok (.iload 4, 2) := by decide +kernel
theorem dX6_timeFrom_20 : decode cX6_timeFrom 20 = .ok (.aload_n 0, 1) := by decide +kernel
theorem dX6_timeFrom_21 : decode cX6_timeFrom 21 = .ok (.getfield 9, 3) := by decide +kernel
theorem dX6_timeFrom_24 : decode cX6_timeFrom 24 = .ok (.if_icmp .ge 101, 3) := by decide +kernel
theorem dX6_timeFrom_27 : decode cX6_timeFrom 27 = .ok (.aload_n 0, 1) := by decide +kernel
theorem dX6_timeFrom_28 : decode cX6_timeFrom 28 = .ok (.getfield 18, 3) := by decide +kernel
theorem dX6_timeFrom_31 : decode cX6_timeFrom 31 = .ok (.iload 4, 2) := by decide +kernel
theorem dX6_timeFrom_33 : decode cX6_timeFrom 33 = .ok (.iload_n 3, 1) := by decide +kernel
theorem dX6_timeFrom_34 : decode cX6_timeFrom 34 = .ok (.iastore, 1) := by decide +kernel
theorem dX6_timeFrom_35 : decode cX6_timeFrom 35 = .ok (.aload_n 0, 1) := by decide +kernel
theorem dX6_timeFrom_36 : decode cX6_timeFrom 36 = .ok (.iload_n 3, 1) := by decide +kernel
theorem dX6_timeFrom_37 : decode cX6_timeFrom 37 = .ok (.aload_n 2, 1) := by decide +kernel
theorem dX6_timeFrom_38 : decode cX6_timeFrom 38 = .ok (.iconst 1, 1) := by decide +kernel
theorem dX6_timeFrom_39 : decode cX6_timeFrom 39 = .ok (.invokevirtual 33, 3) := by decide +kernel
theorem dX6_timeFrom_42 : decode cX6_timeFrom 42 = .ok (.aload_n 1, 1) := by decide +kernel
theorem dX6_timeFrom_43 : decode cX6_timeFrom 43 = .ok (.getfield 39, 3) := by decide +kernel
theorem dX6_timeFrom_46 : decode cX6_timeFrom 46 = .ok (.iload 4, 2) := by decide +kernel
theorem dX6_timeFrom_48 : decode cX6_timeFrom 48 = .ok (.iaload, 1) := by decide +kernel
theorem dX6_timeFrom_49 : decode cX6_timeFrom 49 = .ok (.imul, 1) := by decide +kernel
theorem dX6_timeFrom_50 : decode cX6_timeFrom 50 = .ok (.iadd, 1) := by decide +kernel
theorem dX6_timeFrom_51 : decode cX6_timeFrom 51 = .ok (.putfield 15, 3) := by decide +kernel
theorem dX6_timeFrom_54 : decode cX6_timeFrom 54 = .ok (.aload_n 0, 1) := by decide +kernel
theorem dX6_timeFrom_55 : decode cX6_timeFrom 55 = .ok (.getfield 22, 3) := by decide +kernel
theorem dX6_timeFrom_58 : decode cX6_timeFrom 58 = .ok (.iload 4, 2) := by decide +kernel
theorem dX6_timeFrom_60 : decode cX6_timeFrom 60 = .ok (.aload_n 0, 1) := by decide +kernel
theorem dX6_timeFrom_61 : decode cX6_timeFrom 61 = .ok (.getfield 15, 3) := by decide +kernel
theorem dX6_timeFrom_64 : decode cX6_timeFrom 64 = .ok (.iastore, 1) := by decide +kernel
theorem dX6_timeFrom_65 : decode cX6_timeFrom 65 = .ok (.aload_n 0, 1) := by decide +kernel
theorem dX6_timeFrom_66 : decode cX6_timeFrom 66 = .ok (.getfield 25, 3) := by decide +kernel
theorem dX6_timeFrom_69 : decode cX6_timeFrom 69 = .ok (.iload 4, 2) := by decide +kernel
theorem dX6_timeFrom_71 : decode cX6_timeFrom 71 = .ok (.aload_n 2, 1) := by decide +kernel
theorem dX6_timeFrom_72 : decode cX6_timeFrom 72 = .ok (.aload_n 1, 1) := by decide +kernel
theorem dX6_timeFrom_73 : decode cX6_timeFrom 73 = .ok (.getfield 42, 3) := by decide +kernel
theorem dX6_timeFrom_76 : decode cX6_timeFrom 76 = .ok (.aload_n 1, 1) := by decide +kernel
theorem dX6_timeFrom_77 : decode cX6_timeFrom 77 = .ok (.getfield 46, 3) := by decide +kernel
theorem dX6_timeFrom_80 : decode cX6_timeFrom 80 = .ok (.iload 4, 2) := by decide +kernel
theorem dX6_timeFrom_82 : decode cX6_timeFrom 82 = .ok (.iaload, 1) := by decide +kernel
theorem dX6_timeFrom_83 : decode cX6_timeFrom 83 = .ok (.aload_n 1, 1) := by decide +kernel
theorem dX6_timeFrom_84 : decode cX6_timeFrom 84 = .ok (.getfield 49, 3) := by decide +kernel
theorem dX6_timeFrom_87 : decode cX6_timeFrom 87 = .ok (.iload 4, 2) := by decide +kernel
theorem dX6_timeFrom_89 : decode cX6_timeFrom 89 = .ok (.iaload, 1) := by decide +kernel
theorem dX6_timeFrom_90 : decode cX6_timeFrom 90 = .ok (.invokevirtual 52, 3) := by decide +kernel
theorem dX6_timeFrom_93 : decode cX6_timeFrom 93 = .ok (.iastore, 1) := by decide +kernel
theorem dX6_timeFrom_94 : decode cX6_timeFrom 94 = .ok (.aload_n 0, 1) := by decide +kernel
theorem dX6_timeFrom_95 : decode cX6_timeFrom 95 = .ok (.getfield 15, 3) := by decide +kernel
theorem dX6_timeFrom_98 : decode cX6_timeFrom 98 = .ok (.aload_n 1, 1) := by decide +kernel
theorem dX6_timeFrom_99 : decode cX6_timeFrom 99 = .ok (.getfield 56, 3) := by decide +kernel
theorem dX6_timeFrom_102 : decode cX6_timeFrom 102 = .ok (.iload 4, 2) := by decide +kernel
theorem dX6_timeFrom_104 : decode cX6_timeFrom 104 = .ok (.baload, 1) := by decide +kernel
theorem dX6_timeFrom_105 : decode cX6_timeFrom 105 = .ok (.ifCond .eq 11, 3) := by decide +kernel
theorem dX6_timeFrom_108 : decode cX6_timeFrom 108 = .ok (.aload_n 2, 1) := by decide +kernel
theorem dX6_timeFrom_109 : decode cX6_timeFrom 109 = .ok (.iconst 2, 1) := by decide +kernel
theorem dX6_timeFrom_110 : decode cX6_timeFrom 110 = .ok (.invokevirtual 33, 3) := by decide +kernel
theorem dX6_timeFrom_113 : decode cX6_timeFrom 113 = .ok (.goto 4, 3) := by decide +kernel
theorem dX6_timeFrom_116 : decode cX6_timeFrom 116 = .ok (.iconst 0, 1) := by decide +kernel
theorem dX6_timeFrom_117 : decode cX6_timeFrom 117 = .ok (.iadd, 1) := by decide +kernel
theorem dX6_timeFrom_118 : decode cX6_timeFrom 118 = .ok (.istore_n 3, 1) := by decide +kernel
theorem dX6_timeFrom_119 : decode cX6_timeFrom 119 = .ok (.iinc 4 1, 3) := by decide +kernel
theorem dX6_timeFrom_122 : decode cX6_timeFrom 122 = .ok (.goto (-104), 3) := by decide +kernel
theorem dX6_timeFrom_125 : decode cX6_timeFrom 125 = .ok (.return_, 1) := by decide +kernel
theorem dX6_wordAt_0 : decode cX6_wordAt 0 = .ok (.iconst 0, 1) := by decide +kernel
theorem dX6_wordAt_1 : decode cX6_wordAt 1 = .ok (.istore_n 2, 1) := by decide +kernel
theorem dX6_wordAt_2 : decode cX6_wordAt 2 = .ok (.iload_n 2, 1) := by decide +kernel
theorem dX6_wordAt_3 : decode cX6_wordAt 3 = .ok (.aload_n 0, 1) := by decide +kernel
theorem dX6_wordAt_4 : decode cX6_wordAt 4 = .ok (.getfield 9, 3) := by decide +kernel
theorem dX6_wordAt_7 : decode cX6_wordAt 7 = .ok (.if_icmp .ge 31, 3) := by decide +kernel
theorem dX6_wordAt_10 : decode cX6_wordAt 10 = .ok (.aload_n 0, 1) := by decide +kernel
theorem dX6_wordAt_11 : decode cX6_wordAt 11 = .ok (.getfield 18, 3) := by decide +kernel
theorem dX6_wordAt_14 : decode cX6_wordAt 14 = .ok (.iload_n 2, 1) := by decide +kernel
theorem dX6_wordAt_15 : decode cX6_wordAt 15 = .ok (.iaload, 1) := by decide +kernel
theorem dX6_wordAt_16 : decode cX6_wordAt 16 = .ok (.iload_n 1, 1) := by decide +kernel
theorem dX6_wordAt_17 : decode cX6_wordAt 17 = .ok (.if_icmp .gt 15, 3) := by decide +kernel
theorem dX6_wordAt_20 : decode cX6_wordAt 20 = .ok (.iload_n 1, 1) := by decide +kernel
theorem dX6_wordAt_21 : decode cX6_wordAt 21 = .ok (.aload_n 0, 1) := by decide +kernel
theorem dX6_wordAt_22 : decode cX6_wordAt 22 = .ok (.getfield 22, 3) := by decide +kernel
theorem dX6_wordAt_25 : decode cX6_wordAt 25 = .ok (.iload_n 2, 1) := by decide +kernel
theorem dX6_wordAt_26 : decode cX6_wordAt 26 = .ok (.iaload, 1) := by decide +kernel
theorem dX6_wordAt_27 : decode cX6_wordAt 27 = .ok (.if_icmp .ge 5, 3) := by decide +kernel
theorem dX6_wordAt_30 : decode cX6_wordAt 30 = .ok (.iload_n 2, 1) := by decide +kernel
theorem dX6_wordAt_31 : decode cX6_wordAt 31 = .ok (.ireturn, 1) := by decide +kernel
theorem dX6_wordAt_32 : decode cX6_wordAt 32 = .ok (.iinc 2 1, 3) := by decide +kernel
theorem dX6_wordAt_35 : decode cX6_wordAt 35 = .ok (.goto (-33), 3) := by decide +kernel
theorem dX6_wordAt_38 : decode cX6_wordAt 38 = .ok (.iconst (-1), 1) := by decide +kernel
theorem dX6_wordAt_39 : decode cX6_wordAt 39 = .ok (.ireturn, 1) := by decide +kernel
theorem dX6_countOf_0 : decode cX6_countOf 0 = .ok (.iconst 0, 1) := by decide +kernel
theorem dX6_countOf_1 : decode cX6_countOf 1 = .ok (.istore_n 2, 1) := by decide +kernel
theorem dX6_countOf_2 : decode cX6_countOf 2 = .ok (.iconst 0, 1) := by decide +kernel
theorem dX6_countOf_3 : decode cX6_countOf 3 = .ok (.istore_n 3, 1) := by decide +kernel
theorem dX6_countOf_4 : decode cX6_countOf 4 = .ok (.iload_n 3, 1) := by decide +kernel
theorem dX6_countOf_5 : decode cX6_countOf 5 = .ok (.aload_n 0, 1) := by decide +kernel
theorem dX6_countOf_6 : decode cX6_countOf 6 = .ok (.getfield 9, 3) := by decide +kernel
theorem dX6_countOf_9 : decode cX6_countOf 9 = .ok (.if_icmp .ge 22, 3) := by decide +kernel
theorem dX6_countOf_12 : decode cX6_countOf 12 = .ok (.aload_n 0, 1) := by decide +kernel
theorem dX6_countOf_13 : decode cX6_countOf 13 = .ok (.getfield 25, 3) := by decide +kernel
theorem dX6_countOf_16 : decode cX6_countOf 16 = .ok (.iload_n 3, 1) := by decide +kernel
theorem dX6_countOf_17 : decode cX6_countOf 17 = .ok (.iaload, 1) := by decide +kernel
theorem dX6_countOf_18 : decode cX6_countOf 18 = .ok (.iload_n 1, 1) := by decide +kernel
theorem dX6_countOf_19 : decode cX6_countOf 19 = .ok (.if_icmp .ne 6, 3) := by decide +kernel
theorem dX6_countOf_22 : decode cX6_countOf 22 = .ok (.iinc 2 1, 3) := by decide +kernel
theorem dX6_countOf_25 : decode cX6_countOf 25 = .ok (.iinc 3 1, 3) := by decide +kernel
theorem dX6_countOf_28 : decode cX6_countOf 28 = .ok (.goto (-24), 3) := by decide +kernel
theorem dX6_countOf_31 : decode cX6_countOf 31 = .ok (.iload_n 2, 1) := by decide +kernel
theorem dX6_countOf_32 : decode cX6_countOf 32 = .ok (.ireturn, 1) := by decide +kernel
theorem dX7_init_0 : decode cX7_init 0 = .ok (.aload_n 0, 1) := by decide +kernel
theorem dX7_init_1 : decode cX7_init 1 = .ok (.invokespecial 1, 3) := by decide +kernel
theorem dX7_init_4 : decode cX7_init 4 = .ok (.aload_n 0, 1) := by decide +kernel
theorem dX7_init_5 : decode cX7_init 5 = .ok (.new 7, 3) := by decide +kernel
theorem dX7_init_8 : decode cX7_init 8 = .ok (.dup, 1) := by decide +kernel
theorem dX7_init_9 : decode cX7_init 9 = .ok (.invokespecial 9, 3) := by decide +kernel
theorem dX7_init_12 : decode cX7_init 12 = .ok (.putfield 10, 3) := by decide +kernel
theorem dX7_init_15 : decode cX7_init 15 = .ok (.aload_n 0, 1) := by decide +kernel
theorem dX7_init_16 : decode cX7_init 16 = .ok (.new 16, 3) := by decide +kernel
theorem dX7_init_19 : decode cX7_init 19 = .ok (.dup, 1) := by decide +kernel
theorem dX7_init_20 : decode cX7_init 20 = .ok (.invokespecial 18, 3) := by decide +kernel
theorem dX7_init_23 : decode cX7_init 23 = .ok (.putfield 19, 3) := by decide +kernel
theorem dX7_init_26 : decode cX7_init 26 = .ok (.aload_n 0, 1) := by decide +kernel
theorem dX7_init_27 : decode cX7_init 27 = .ok (.new 23, 3) := by decide +kernel
theorem dX7_init_30 : decode cX7_init 30 = .ok (.dup, 1) := by decide +kernel
theorem dX7_init_31 : decode cX7_init 31 = .ok (.invokespecial 25, 3) := by decide +kernel
theorem dX7_init_34 : decode cX7_init 34 = .ok (.putfield 26, 3) := by decide +kernel
theorem dX7_init_37 : decode cX7_init 37 = .ok (.return_, 1) := by decide +kernel
theorem dX7_copyFrom_0 : decode cX7_copyFrom 0 = .ok (.aload_n 0, 1) := by decide +kernel
theorem dX7_copyFrom_1 : decode cX7_copyFrom 1 = .ok (.getfield 10, 3) := by decide +kernel
theorem dX7_copyFrom_4 : decode cX7_copyFrom 4 = .ok (.aload_n 1, 1) := by decide +kernel
theorem dX7_copyFrom_5 : decode cX7_copyFrom 5 = .ok (.getfield 10, 3) := by decide +kernel
theorem dX7_copyFrom_8 : decode cX7_copyFrom 8 = .ok (.invokevirtual 30, 3) := by decide +kernel
theorem dX7_copyFrom_11 : decode cX7_copyFrom 11 = .ok (.aload_n 0, 1) := by decide +kernel
theorem dX7_copyFrom_12 : decode cX7_copyFrom 12 = .ok (.getfield 19, 3) := by decide +kernel
theorem dX7_copyFrom_15 : decode cX7_copyFrom 15 = .ok (.aload_n 1, 1) := by decide +kernel
theorem dX7_copyFrom_16 : decode cX7_copyFrom 16 = .ok (.getfield 19, 3) := by decide +kernel
theorem dX7_copyFrom_19 : decode cX7_copyFrom 19 = .ok (.invokevirtual 34, 3) := by decide +kernel
theorem dX7_copyFrom_22 : decode cX7_copyFrom 22 = .ok (.aload_n 0, 1) := by decide +kernel
theorem dX7_copyFrom_23 : decode cX7_copyFrom 23 = .ok (.getfield 26, 3) := by decide +kernel
theorem dX7_copyFrom_26 : decode cX7_copyFrom 26 = .ok (.aload_n 1, 1) := by decide +kernel
theorem dX7_copyFrom_27 : decode cX7_copyFrom 27 = .ok (.getfield 26, 3) := by decide +kernel
theorem dX7_copyFrom_30 : decode cX7_copyFrom 30 = .ok (.invokevirtual 37, 3) := by decide +kernel
theorem dX7_copyFrom_33 : decode cX7_copyFrom 33 = .ok (.return_, 1) := by decide +kernel
theorem dX8_init_0 : decode cX8_init 0 = .ok (.aload_n 0, 1) := by decide +kernel
theorem dX8_init_1 : decode cX8_init 1 = .ok (.invokespecial 3, 3) := by decide +kernel
theorem dX8_init_4 : decode cX8_init 4 = .ok (.aload_n 0, 1) := by decide +kernel
theorem dX8_init_5 : decode cX8_init 5 = .ok (.sipush 500, 3) := by decide +kernel
theorem dX8_init_8 : decode cX8_init 8 = .ok (.newarray .byte, 2) := by decide +kernel
theorem dX8_init_10 : decode cX8_init 10 = .ok (.putfield 9, 3) := by decide +kernel
theorem dX8_init_13 : decode cX8_init 13 = .ok (.aload_n 0, 1) := by decide +kernel
theorem dX8_init_14 : decode cX8_init 14 = .ok (.iconst 0, 1) := by decide +kernel
theorem dX8_init_15 : decode cX8_init 15 = .ok (.putfield 15, 3) := by decide +kernel
theorem dX8_init_18 : decode cX8_init 18 = .ok (.aload_n 0, 1) := by decide +kernel
theorem dX8_init_19 : decode cX8_init 19 = .ok (.iconst 0, 1) := by decide +kernel
theorem dX8_init_20 : decode cX8_init 20 = .ok (.putfield 19, 3) := by decide +kernel
theorem dX8_init_23 : decode cX8_init 23 = .ok (.aload_n 0, 1) := by decide +kernel
theorem dX8_init_24 : decode cX8_init 24 = .ok (.iconst 0, 1) := by decide +kernel
theorem dX8_init_25 : decode cX8_init 25 = .ok (.putfield 22, 3) := by decide +kernel
theorem dX8_init_28 : decode cX8_init 28 = .ok (.aload_n 0, 1) := by decide +kernel
theorem dX8_init_29 : decode cX8_init 29 = .ok (.iconst 0, 1) := by decide +kernel
theorem dX8_init_30 : decode cX8_init 30 = .ok (.putfield 25, 3) := by decide +kernel
theorem dX8_init_33 : decode cX8_init 33 = .ok (.aload_n 0, 1) := by decide +kernel
theorem dX8_init_34 : decode cX8_init 34 = .ok (.iconst 0, 1) := by decide +kernel
theorem dX8_init_35 : decode cX8_init 35 = .ok (.putfield 28, 3) := by decide +kernel
theorem dX8_init_38 : decode cX8_init 38 = .ok (.aload_n 0, 1) := by decide +kernel
theorem dX8_init_39 : decode cX8_init 39 = .ok (.iconst 0, 1) := by decide +kernel
theorem dX8_init_40 : decode cX8_init 40 = .ok (.putfield 31, 3) := by decide +kernel
theorem dX8_init_43 : decode cX8_init 43 = .ok (.aload_n 0, 1) := by decide +kernel
theorem dX8_init_44 : decode cX8_init 44 = .ok (.iconst 0, 1) := by decide +kernel
theorem dX8_init_45 : decode cX8_init 45 = .ok (.putfield 34, 3) := by decide +kernel
theorem dX8_init_48 : decode cX8_init 48 = .ok (.aload_n 0, 1) := by decide +kernel
theorem dX8_init_49 : decode cX8_init 49 = .ok (.iconst (-1), 1) := by decide +kernel
theorem dX8_init_50 : decode cX8_init 50 = .ok (.putfield 37, 3) := by decide +kernel
theorem dX8_init_53 : decode cX8_init 53 = .ok (.return_, 1) := by decide +kernel
theorem dX8_append_0 : decode cX8_append 0 = .ok (.bipush 24, 2) := by decide +kernel
theorem dX8_append_2 : decode cX8_append 2 = .ok (.istore_n 2, 1) := by decide +kernel
theorem dX8_append_3 : decode cX8_append 3 = .ok (.iload_n 2, 1) := by decide +kernel
theorem dX8_append_4 : decode cX8_append 4 = .ok (.ifCond .lt 42, 3) := by decide +kernel
theorem dX8_append_7 : decode cX8_append 7 = .ok (.aload_n 0, 1) := by decide +kernel
theorem dX8_append_8 : decode cX8_append 8 = .ok (.getfield 15, 3) := by decide +kernel
theorem dX8_append_11 : decode cX8_append 11 = .ok (.sipush 500, 3) := by decide +kernel
theorem dX8_append_14 : decode cX8_append 14 = .ok (.if_icmp .ge 26, 3) := by decide +kernel
theorem dX8_append_17 : decode cX8_append 17 = .ok (.aload_n 0, 1) := by decide +kernel
theorem dX8_append_18 : decode cX8_append 18 = .ok (.getfield 9, 3) := by decide +kernel
theorem dX8_append_21 : decode cX8_append 21 = .ok (.aload_n 0, 1) := by decide +kernel
theorem dX8_append_22 : decode cX8_append 22 = .ok (.getfield 15, 3) := by decide +kernel
theorem dX8_append_25 : decode cX8_append 25 = .ok (.iload_n 1, 1) := by decide +kernel
theorem dX8_append_26 : decode cX8_append 26 = .ok (.iload_n 2, 1) := by decide +kernel
theorem dX8_append_27 : decode cX8_append 27 = .ok (.ishr, 1) := by decide +kernel
theorem dX8_append_28 : decode cX8_append 28 = .ok (.i2b, 1) := by decide +kernel
theorem dX8_append_29 : decode cX8_append 29 = .ok (.bastore, 1) := by decide +kernel
theorem dX8_append_30 : decode cX8_append 30 = .ok (.aload_n 0, 1) := by decide +kernel
theorem dX8_append_31 : decode cX8_append 31 = .ok (.dup, 1) := by decide +kernel
theorem dX8_append_32 : decode cX8_append 32 = .ok (.getfield 15, 3) := by decide +kernel
theorem dX8_append_35 : decode cX8_append 35 = .ok (.iconst 1, 1) := by decide +kernel
theorem dX8_append_36 : decode cX8_append 36 = .ok (.iadd, 1) := by decide +kernel
theorem dX8_append_37 : decode cX8_append 37 = .ok (.putfield 15, 3) := by decide +kernel
theorem dX8_append_40 : decode cX8_append 40 = .ok (.iinc 2 (-8), 3) := by decide +kernel
theorem dX8_append_43 : decode cX8_append 43 = .ok (.goto (-40), 3) := by decide +kernel
theorem dX8_append_46 : decode cX8_append 46 = .ok (.return_, 1) := by decide +kernel
theorem dX8_startReading_0 : decode cX8_startReading 0 = .ok (.aload_n 0, 1) := by decide +kernel
theorem dX8_startReading_1 : decode cX8_startReading 1 = .ok (.iconst 0, 1) := by decide +kernel
theorem dX8_startReading_2 : decode cX8_startReading 2 = .ok (.putfield 25, 3) := by decide +kernel
theorem dX8_startReading_5 : decode cX8_startReading 5 = .ok (.aload_n 0, 1) := by decide +kernel
theorem dX8_startReading_6 : decode cX8_startReading 6 = .ok (.iconst 0, 1) := by decide +kernel
theorem dX8_startReading_7 : decode cX8_startReading 7 = .ok (.putfield 34, 3) := by decide +kernel
theorem dX8_startReading_10 : decode cX8_startReading 10 = .ok (.aload_n 0, 1) := by decide +kernel
theorem dX8_startReading_11 : decode cX8_startReading 11 = .ok (.iconst (-1), 1) := by decide +kernel
theorem dX8_startReading_12 : decode cX8_startReading 12 = .ok (.putfield 37, 3) := by decide +kernel
theorem dX8_startReading_15 : decode cX8_startReading 15 = .ok (.aload_n 0, 1) := by decide +kernel
theorem dX8_startReading_16 : decode cX8_startReading 16 = .ok (.invokevirtual 40, 3) := by decide +kernel
theorem dX8_startReading_19 : decode cX8_startReading 19 = .ok (.return_, 1) := by decide +kernel
theorem dX8_fail_0 : decode cX8_fail 0 = .ok (.aload_n 0, 1) := by decide +kernel
theorem dX8_fail_1 : decode cX8_fail 1 = .ok (.iload_n 1, 1) := by decide +kernel
theorem dX8_fail_2 : decode cX8_fail 2 = .ok (.putfield 34, 3) := by decide +kernel
theorem dX8_fail_5 : decode cX8_fail 5 = .ok (.aload_n 0, 1) := by decide +kernel
theorem dX8_fail_6 : decode cX8_fail 6 = .ok (.aload_n 0, 1) := by decide +kernel
theorem dX8_fail_7 : decode cX8_fail 7 = .ok (.getfield 22, 3) := by decide +kernel
theorem dX8_fail_10 : decode cX8_fail 10 = .ok (.putfield 37, 3) := by decide +kernel
theorem dX8_fail_13 : decode cX8_fail 13 = .ok (.iconst 0, 1) := by decide +kernel
theorem dX8_fail_14 : decode cX8_fail 14 = .ok (.ireturn, 1) := by decide +kernel
theorem dX8_size_0 : decode cX8_size 0 = .ok (.aload_n 0, 1) := by decide +kernel
theorem dX8_size_1 : decode cX8_size 1 = .ok (.getfield 25, 3) := by decide +kernel
theorem dX8_size_4 : decode cX8_size 4 = .ok (.aload_n 0, 1) := by decide +kernel
theorem dX8_size_5 : decode cX8_size 5 = .ok (.getfield 22, 3) := by decide +kernel
theorem dX8_size_8 : decode cX8_size 8 = .ok (.isub, 1) := by decide +kernel
theorem dX8_size_9 : decode cX8_size 9 = .ok (.ireturn, 1) := by decide +kernel
theorem dX8_advance_0 : decode cX8_advance 0 = .ok (.aload_n 0, 1) := by decide +kernel
theorem dX8_advance_1 : decode cX8_advance 1 = .ok (.getfield 25, 3) := by decide +kernel
theorem dX8_advance_4 : decode cX8_advance 4 = .ok (.istore_n 1, 1) := by decide +kernel
theorem dX8_advance_5 : decode cX8_advance 5 = .ok (.iload_n 1, 1) := by decide +kernel
theorem dX8_advance_6 : decode cX8_advance 6 = .ok (.aload_n 0, 1) := by decide +kernel
theorem dX8_advance_7 : decode cX8_advance 7 = .ok (.getfield 15, 3) := by decide +kernel
theorem dX8_advance_10 : decode cX8_advance 10 = .ok (.if_icmp .ge 31, 3) := by decide +kernel
theorem dX8_advance_13 : decode cX8_advance 13 = .ok (.aload_n 0, 1) := by decide +kernel
theorem dX8_advance_14 : decode cX8_advance 14 = .ok (.getfield 9, 3) := by decide +kernel
theorem dX8_advance_17 : decode cX8_advance 17 = .ok (.iload_n 1, 1) := by decide +kernel
theorem dX8_advance_18 : decode cX8_advance 18 = .ok (.baload, 1) := by decide +kernel
theorem dX8_advance_19 : decode cX8_advance 19 = .ok (.bipush 32, 2) := by decide +kernel
theorem dX8_advance_21 : decode cX8_advance 21 = .ok (.if_icmp .eq 14, 3) := by decide +kernel
theorem dX8_advance_24 : decode cX8_advance 24 = .ok (.aload_n 0, 1) := by decide +kernel
theorem dX8_advance_25 : decode cX8_advance 25 = .ok (.getfield 9, 3) := by decide +kernel
theorem dX8_advance_28 : decode cX8_advance 28 = .ok (.iload_n 1, 1) := by decide +kernel
theorem dX8_advance_29 : decode cX8_advance 29 = .ok (.baload, 1) := by decide +kernel
theorem dX8_advance_30 : decode cX8_advance 30 = .ok (.bipush 10, 2) := by decide +kernel
theorem dX8_advance_32 : decode cX8_advance 32 = .ok (.if_icmp .ne 9, 3) := by decide +kernel
theorem dX8_advance_35 : decode cX8_advance 35 = .ok (.iinc 1 1, 3) := by decide +kernel
theorem dX8_advance_38 : decode cX8_advance 38 = .ok (.goto (-33), 3) := by decide +kernel
theorem dX8_advance_41 : decode cX8_advance 41 = .ok (.aload_n 0, 1) := by decide +kernel
theorem dX8_advance_42 : decode cX8_advance 42 = .ok (.iload_n 1, 1) := by decide +kernel
theorem dX8_advance_43 : decode cX8_advance 43 = .ok (.putfield 22, 3) := by decide +kernel
theorem dX8_advance_46 : decode cX8_advance 46 = .ok (.iload_n 1, 1) := by decide +kernel
theorem dX8_advance_47 : decode cX8_advance 47 = .ok (.aload_n 0, 1) := by decide +kernel
theorem dX8_advance_48 : decode cX8_advance 48 = .ok (.getfield 15, 3) := by decide +kernel
theorem dX8_advance_51 : decode cX8_advance 51 = .ok (.if_icmp .lt 11, 3) := by decide +kernel
theorem dX8_advance_54 : decode cX8_advance 54 = .ok (.aload_n 0, 1) := by decide +kernel
theorem dX8_advance_55 : decode cX8_advance 55 = .ok (.iconst 0, 1) := by decide +kernel
theorem dX8_advance_56 : decode cX8_advance 56 = .ok (.putfield 19, 3) := by decide +kernel
theorem dX8_advance_59 : decode cX8_advance 59 = .ok (.goto 136, 3) := by decide +kernel
theorem dX8_advance_62 : decode cX8_advance 62 = .ok (.aload_n 0, 1) := by decide +kernel
theorem dX8_advance_63 : decode cX8_advance 63 = .ok (.getfield 9, 3) := by decide +kernel
theorem dX8_advance_66 : decode cX8_advance 66 = .ok (.iload_n 1, 1) := by decide +kernel
theorem dX8_advance_67 : decode cX8_advance 67 = .ok (.baload, 1) := by decide +kernel
theorem dX8_advance_68 : decode cX8_advance 68 = .ok (.invokestatic 43, 3) := by decide +kernel
theorem dX8_advance_71 : decode cX8_advance 71 = .ok (.ifCond .eq 34, 3) := by decide +kernel
theorem dX8_advance_74 : decode cX8_advance 74 = .ok (.aload_n 0, 1) := by decide +kernel
theorem dX8_advance_75 : decode cX8_advance 75 = .ok (.iconst 1, 1) := by decide +kernel
theorem dX8_advance_76 : decode cX8_advance 76 = .ok (.putfield 19, 3) := by decide +kernel
theorem dX8_advance_79 : decode cX8_advance 79 = .ok (.iload_n 1, 1) := by decide +kernel
theorem dX8_advance_80 : decode cX8_advance 80 = .ok (.aload_n 0, 1) := by decide +kernel
theorem dX8_advance_81 : decode cX8_advance 81 = .ok (.getfield 15, 3) := by decide +kernel
theorem dX8_advance_84 : decode cX8_advance 84 = .ok (.if_icmp .ge 111, 3) := by decide +kernel
theorem dX8_advance_87 : decode cX8_advance 87 = .ok (.aload_n 0, 1) := by decide +kernel
theorem dX8_advance_88 : decode cX8_advance 88 = .ok (.getfield 9, 3) := by decide +kernel
theorem dX8_advance_91 : decode cX8_advance 91 = .ok (.iload_n 1, 1) := by decide +kernel
theorem dX8_advance_92 : decode cX8_advance 92 = .ok (.baload, 1) := by decide +kernel
theorem dX8_advance_93 : decode cX8_advance 93 = .ok (.invokestatic 43, 3) := by decide +kernel
theorem dX8_advance_96 : decode cX8_advance 96 = .ok (.ifCond .eq 99, 3) := by decide +kernel
theorem dX8_advance_99 : decode cX8_advance 99 = .ok (.iinc 1 1, 3) := by decide +kernel
theorem dX8_advance_102 : decode cX8_advance 102 = .ok (.goto (-23), 3) := by decide +kernel
theorem dX8_advance_105 : decode cX8_advance 105 = .ok (.aload_n 0, 1) := by decide +kernel
theorem dX8_advance_106 : decode cX8_advance 106 = .ok (.getfield 9, 3) := by decide +kernel
theorem dX8_advance_109 : decode cX8_advance 109 = .ok (.iload_n 1, 1) := by decide +kernel
theorem dX8_advance_110 : decode cX8_advance 110 = .ok (.baload, 1) := by decide +kernel
theorem dX8_advance_111 : decode cX8_advance 111 = .ok (.invokestatic 47, 3) := by decide +kernel
theorem dX8_advance_114 : decode cX8_advance 114 = .ok (.ifCond .eq 65, 3) := by decide +kernel
theorem dX8_advance_117 : decode cX8_advance 117 = .ok (.aload_n 0, 1) := by decide +kernel
theorem dX8_advance_118 : decode cX8_advance 118 = .ok (.iconst 2, 1) := by decide +kernel
theorem dX8_advance_119 : decode cX8_advance 119 = .ok (.putfield 19, 3) := by decide +kernel
theorem dX8_advance_122 : decode cX8_advance 122 = .ok (.aload_n 0, 1) := by decide +kernel
theorem dX8_advance_123 : decode cX8_advance 123 = .ok (.iconst 0, 1) := by decide +kernel
theorem dX8_advance_124 : decode cX8_advance 124 = .ok (.putfield 28, 3) := by decide +kernel
theorem dX8_advance_127 : decode cX8_advance 127 = .ok (.iload_n 1, 1) := by decide +kernel
theorem dX8_advance_128 : decode cX8_advance 128 = .ok (.aload_n 0, 1) := by decide +kernel
theorem dX8_advance_129 : decode cX8_advance 129 = .ok (.getfield 15, 3) := by decide +kernel
theorem dX8_advance_132 : decode cX8_advance 132 = .ok (.if_icmp .ge 63, 3) := by decide +kernel
theorem dX8_advance_135 : decode cX8_advance 135 = .ok (.aload_n 0, 1) := by decide +kernel
theorem dX8_advance_136 : decode cX8_advance 136 = .ok (.getfield 9, 3) := by decide +kernel
theorem dX8_advance_139 : decode cX8_advance 139 = .ok (.iload_n 1, 1) := by decide +kernel
theorem dX8_advance_140 : decode cX8_advance 140 = .ok (.baload, 1) := by decide +kernel
theorem dX8_advance_141 : decode cX8_advance 141 = .ok (.invokestatic 47, 3) := by decide +kernel
theorem dX8_advance_144 : decode cX8_advance 144 = .ok (.ifCond .eq 51, 3) := by decide +kernel
theorem dX8_advance_147 : decode cX8_advance 147 = .ok (.aload_n 0, 1) := by decide +kernel
theorem dX8_advance_148 : decode cX8_advance 148 = .ok (.aload_n 0, 1) := by decide +kernel
theorem dX8_advance_149 : decode cX8_advance 149 = .ok (.getfield 28, 3) := by decide +kernel
theorem dX8_advance_152 : decode cX8_advance 152 = .ok (.bipush 10, 2) := by decide +kernel
theorem dX8_advance_154 : decode cX8_advance 154 = .ok (.imul, 1) := by decide +kernel
theorem dX8_advance_155 : decode cX8_advance 155 = .ok (.aload_n 0, 1) := by decide +kernel
theorem dX8_advance_156 : decode cX8_advance 156 = .ok (.getfield 9, 3) := by decide +kernel
theorem dX8_advance_159 : decode cX8_advance 159 = .ok (.iload_n 1, 1) := by decide +kernel
theorem dX8_advance_160 : decode cX8_advance 160 = .ok (.baload, 1) := by decide +kernel
theorem dX8_advance_161 : decode cX8_advance 161 = .ok (.bipush 48, 2) := by decide +kernel
theorem dX8_advance_163 : decode cX8_advance 163 = .ok (.isub, 1) := by decide +kernel
theorem dX8_advance_164 : decode cX8_advance 164 = .ok (.iadd, 1) := by decide +kernel
theorem dX8_advance_165 : decode cX8_advance 165 = .ok (.ldc 50, 2) := by decide +kernel
theorem dX8_advance_167 : decode cX8_advance 167 = .ok (.invokestatic 51, 3) := by decide +kernel
theorem dX8_advance_170 : decode cX8_advance 170 = .ok (.putfield 28, 3) := by decide +kernel
theorem dX8_advance_173 : decode cX8_advance 173 = .ok (.iinc 1 1, 3) := by decide +kernel
theorem dX8_advance_176 : decode cX8_advance 176 = .ok (.goto (-49), 3) := by decide +kernel
theorem dX8_advance_179 : decode cX8_advance 179 = .ok (.aload_n 0, 1) := by decide +kernel
theorem dX8_advance_180 : decode cX8_advance 180 = .ok (.aload_n 0, 1) := by decide +kernel
theorem dX8_advance_181 : decode cX8_advance 181 = .ok (.getfield 9, 3) := by decide +kernel
theorem dX8_advance_184 : decode cX8_advance 184 = .ok (.iload_n 1, 1) := by decide +kernel
theorem dX8_advance_185 : decode cX8_advance 185 = .ok (.baload, 1) := by decide +kernel
theorem dX8_advance_186 : decode cX8_advance 186 = .ok (.invokestatic 57, 3) := by decide +kernel
theorem dX8_advance_189 : decode cX8_advance 189 = .ok (.putfield 19, 3) := by decide +kernel
theorem dX8_advance_192 : decode cX8_advance 192 = .ok (.iinc 1 1, 3) := by decide +kernel
theorem dX8_advance_195 : decode cX8_advance 195 = .ok (.aload_n 0, 1) := by decide +kernel
theorem dX8_advance_196 : decode cX8_advance 196 = .ok (.iload_n 1, 1) := by decide +kernel
theorem dX8_advance_197 : decode cX8_advance 197 = .ok (.putfield 25, 3) := by decide +kernel
theorem dX8_advance_200 : decode cX8_advance 200 = .ok (.return_, 1) := by decide +kernel
theorem dX8_isWord_0 : decode cX8_isWord 0 = .ok (.aload_n 0, 1) := by decide +kernel
theorem dX8_isWord_1 : decode cX8_isWord 1 = .ok (.getfield 19, 3) := by decide +kernel
theorem dX8_isWord_4 : decode cX8_isWord 4 = .ok (.iconst 1, 1) := by decide +kernel
theorem dX8_isWord_5 : decode cX8_isWord 5 = .ok (.if_icmp .ne 14, 3) := by decide +kernel
theorem dX8_isWord_8 : decode cX8_isWord 8 = .ok (.aload_n 0, 1) := by decide +kernel
theorem dX8_isWord_9 : decode cX8_isWord 9 = .ok (.invokevirtual 61, 3) := by decide +kernel
theorem dX8_isWord_12 : decode cX8_isWord 12 = .ok (.aload_n 1, 1) := by decide +kernel
theorem dX8_isWord_13 : decode cX8_isWord 13 = .ok (.invokevirtual 65, 3) := by decide +kernel
theorem dX8_isWord_16 : decode cX8_isWord 16 = .ok (.if_icmp .eq 5, 3) := by decide +kernel
theorem dX8_isWord_19 : decode cX8_isWord 19 = .ok (.iconst 0, 1) := by decide +kernel
theorem dX8_isWord_20 : decode cX8_isWord 20 = .ok (.ireturn, 1) := by decide +kernel
theorem dX8_isWord_21 : decode cX8_isWord 21 = .ok (.iconst 0, 1) := by decide +kernel
theorem dX8_isWord_22 : decode cX8_isWord 22 = .ok (.istore_n 2, 1) := by decide +kernel
theorem dX8_isWord_23 : decode cX8_isWord 23 = .ok (.iload_n 2, 1) := by decide +kernel
theorem dX8_isWord_24 : decode cX8_isWord 24 = .ok (.aload_n 1, 1) := by decide +kernel
theorem dX8_isWord_25 : decode cX8_isWord 25 = .ok (.invokevirtual 65, 3) := by decide +kernel
theorem dX8_isWord_28 : decode cX8_isWord 28 = .ok (.if_icmp .ge 30, 3) := by decide +kernel
theorem dX8_isWord_31 : decode cX8_isWord 31 = .ok (.aload_n 0, 1) := by decide +kernel
theorem dX8_isWord_32 : decode cX8_isWord 32 = .ok (.getfield 9, 3) := by decide +kernel
theorem dX8_isWord_35 : decode cX8_isWord 35 = .ok (.aload_n 0, 1) := by decide +kernel
theorem dX8_isWord_36 : decode cX8_isWord 36 = .ok (.getfield 22, 3) := by decide +kernel
theorem dX8_isWord_39 : decode cX8_isWord 39 = .ok (.iload_n 2, 1) := by decide +kernel
theorem dX8_isWord_40 : decode cX8_isWord 40 = .ok (.iadd, 1) := by decide +kernel
theorem dX8_isWord_41 : decode cX8_isWord 41 = .ok (.baload, 1) := by decide +kernel
theorem dX8_isWord_42 : decode cX8_isWord 42 = .ok (.aload_n 1, 1) := by decide +kernel
theorem dX8_isWord_43 : decode cX8_isWord 43 = .ok (.iload_n 2, 1) := by decide +kernel
theorem dX8_isWord_44 : decode cX8_isWord 44 = .ok (.invokevirtual 69, 3) := by decide +kernel
theorem dX8_isWord_47 : decode cX8_isWord 47 = .ok (.if_icmp .eq 5, 3) := by decide +kernel
theorem dX8_isWord_50 : decode cX8_isWord 50 = .ok (.iconst 0, 1) := by decide +kernel
theorem dX8_isWord_51 : decode cX8_isWord 51 = .ok (.ireturn, 1) := by decide +kernel
theorem dX8_isWord_52 : decode cX8_isWord 52 = .ok (.iinc 2 1, 3) := by decide +kernel
theorem dX8_isWord_55 : decode cX8_isWord 55 = .ok (.goto (-32), 3) := by decide +kernel
theorem dX8_isWord_58 : decode cX8_isWord 58 = .ok (.iconst 1, 1) := by decide +kernel
theorem dX8_isWord_59 : decode cX8_isWord 59 = .ok (.ireturn, 1) := by decide +kernel
theorem dX8_take_0 : decode cX8_take 0 = .ok (.aload_n 0, 1) := by decide +kernel
theorem dX8_take_1 : decode cX8_take 1 = .ok (.getfield 19, 3) := by decide +kernel
theorem dX8_take_4 : decode cX8_take 4 = .ok (.iload_n 1, 1) := by decide +kernel
theorem dX8_take_5 : decode cX8_take 5 = .ok (.if_icmp .eq 9, 3) := by decide +kernel
theorem dX8_take_8 : decode cX8_take 8 = .ok (.aload_n 0, 1) := by decide +kernel
theorem dX8_take_9 : decode cX8_take 9 = .ok (.iconst 1, 1) := by decide +kernel
theorem dX8_take_10 : decode cX8_take 10 = .ok (.invokevirtual 73, 3) := by decide +kernel
theorem dX8_take_13 : decode cX8_take 13 = .ok (.ireturn, 1) := by decide +kernel
theorem dX8_take_14 : decode cX8_take 14 = .ok (.aload_n 0, 1) := by decide +kernel
theorem dX8_take_15 : decode cX8_take 15 = .ok (.invokevirtual 40, 3) := by decide +kernel
theorem dX8_take_18 : decode cX8_take 18 = .ok (.iconst 1, 1) := by decide +kernel
theorem dX8_take_19 : decode cX8_take 19 = .ok (.ireturn, 1) := by decide +kernel
theorem dX8_takeWord_0 : decode cX8_takeWord 0 = .ok (.aload_n 0, 1) := by decide +kernel
theorem dX8_takeWord_1 : decode cX8_takeWord 1 = .ok (.aload_n 1, 1) := by decide +kernel
theorem dX8_takeWord_2 : decode cX8_takeWord 2 = .ok (.invokevirtual 76, 3) := by decide +kernel
theorem dX8_takeWord_5 : decode cX8_takeWord 5 = .ok (.ifCond .ne 9, 3) := by decide +kernel
theorem dX8_takeWord_8 : decode cX8_takeWord 8 = .ok (.aload_n 0, 1) := by decide +kernel
theorem dX8_takeWord_9 : decode cX8_takeWord 9 = .ok (.iconst 1, 1) := by decide +kernel
theorem dX8_takeWord_10 : decode cX8_takeWord 10 = .ok (.invokevirtual 73, 3) := by decide +kernel
theorem dX8_takeWord_13 : decode cX8_takeWord 13 = .ok (.ireturn, 1) := by decide +kernel
theorem dX8_takeWord_14 : decode cX8_takeWord 14 = .ok (.aload_n 0, 1) := by decide +kernel
theorem dX8_takeWord_15 : decode cX8_takeWord 15 = .ok (.invokevirtual 40, 3) := by decide +kernel
theorem dX8_takeWord_18 : decode cX8_takeWord 18 = .ok (.iconst 1, 1) := by decide +kernel
theorem dX8_takeWord_19 : decode cX8_takeWord 19 = .ok (.ireturn, 1) := by decide +kernel
theorem dX8_takeNumber_0 : decode cX8_takeNumber 0 = .ok (.aload_n 0, 1) := by decide +kernel
theorem dX8_takeNumber_1 : decode cX8_takeNumber 1 = .ok (.getfield 19, 3) := by decide +kernel
theorem dX8_takeNumber_4 : decode cX8_takeNumber 4 = .ok (.iconst 2, 1) := by decide +kernel
theorem dX8_takeNumber_5 : decode cX8_takeNumber 5 = .ok (.if_icmp .eq 9, 3) := by decide +kernel
theorem dX8_takeNumber_8 : decode cX8_takeNumber 8 = .ok (.aload_n 0, 1) := by decide +kernel
theorem dX8_takeNumber_9 : decode cX8_takeNumber 9 = .ok (.iconst 1, 1) := by decide +kernel
theorem dX8_takeNumber_10 : decode cX8_takeNumber 10 = .ok (.invokevirtual 73, 3) := by decide +kernel
theorem dX8_takeNumber_13 : decode cX8_takeNumber 13 = .ok (.ireturn, 1) := by decide +kernel
theorem dX8_takeNumber_14 : decode cX8_takeNumber 14 = .ok (.aload_n 0, 1) := by decide +kernel
theorem dX8_takeNumber_15 : decode cX8_takeNumber 15 = .ok (.getfield 28, 3) := by decide +kernel
theorem dX8_takeNumber_18 : decode cX8_takeNumber 18 = .ok (.iload_n 1, 1) := by decide +kernel
theorem dX8_takeNumber_19 : decode cX8_takeNumber 19 = .ok (.if_icmp .lt 11, 3) := by decide +kernel
theorem dX8_takeNumber_22 : decode cX8_takeNumber 22 = .ok (.aload_n 0, 1) := by decide +kernel
theorem dX8_takeNumber_23 : decode cX8_takeNumber 23 = .ok (.getfield 28, 3) := by decide +kernel
theorem dX8_takeNumber_26 : decode cX8_takeNumber 26 = .ok (.iload_n 2, 1) := by decide +kernel
theorem dX8_takeNumber_27 : decode cX8_takeNumber 27 = .ok (.if_icmp .le 9, 3) := by decide +kernel
theorem dX8_takeNumber_30 : decode cX8_takeNumber 30 = .ok (.aload_n 0, 1) := by decide +kernel
theorem dX8_takeNumber_31 : decode cX8_takeNumber 31 = .ok (.iconst 2, 1) := by decide +kernel
theorem dX8_takeNumber_32 : decode cX8_takeNumber 32 = .ok (.invokevirtual 73, 3) := by decide +kernel
theorem dX8_takeNumber_35 : decode cX8_takeNumber 35 = .ok (.ireturn, 1) := by decide +kernel
theorem dX8_takeNumber_36 : decode cX8_takeNumber 36 = .ok (.aload_n 0, 1) := by decide +kernel
theorem dX8_takeNumber_37 : decode cX8_takeNumber 37 = .ok (.aload_n 0, 1) := by decide +kernel
theorem dX8_takeNumber_38 : decode cX8_takeNumber 38 = .ok (.getfield 28, 3) := by decide +kernel
theorem dX8_takeNumber_41 : decode cX8_takeNumber 41 = .ok (.putfield 31, 3) := by decide +kernel
theorem dX8_takeNumber_44 : decode cX8_takeNumber 44 = .ok (.aload_n 0, 1) := by decide +kernel
theorem dX8_takeNumber_45 : decode cX8_takeNumber 45 = .ok (.invokevirtual 40, 3) := by decide +kernel
theorem dX8_takeNumber_48 : decode cX8_takeNumber 48 = .ok (.iconst 1, 1) := by decide +kernel
theorem dX8_takeNumber_49 : decode cX8_takeNumber 49 = .ok (.ireturn, 1) := by decide +kernel
theorem dX8_isLetter_0 : decode cX8_isLetter 0 = .ok (.iload_n 0, 1) := by decide +kernel
theorem dX8_isLetter_1 : decode cX8_isLetter 1 = .ok (.bipush 97, 2) := by decide +kernel
theorem dX8_isLetter_3 : decode cX8_isLetter 3 = .ok (.if_icmp .lt 13, 3) := by decide +kernel
theorem dX8_isLetter_6 : decode cX8_isLetter 6 = .ok (.iload_n 0, 1) := by decide +kernel
theorem dX8_isLetter_7 : decode cX8_isLetter 7 = .ok (.bipush 122, 2) := by decide +kernel
theorem dX8_isLetter_9 : decode cX8_isLetter 9 = .ok (.if_icmp .gt 7, 3) := by decide +kernel
theorem dX8_isLetter_12 : decode cX8_isLetter 12 = .ok (.iconst 1, 1) := by decide +kernel
theorem dX8_isLetter_13 : decode cX8_isLetter 13 = .ok (.goto 4, 3) := by decide +kernel
theorem dX8_isLetter_16 : decode cX8_isLetter 16 = .ok (.iconst 0, 1) := by decide +kernel
theorem dX8_isLetter_17 : decode cX8_isLetter 17 = .ok (.ireturn, 1) := by decide +kernel
theorem dX8_isDigit_0 : decode cX8_isDigit 0 = .ok (.iload_n 0, 1) := by decide +kernel
theorem dX8_isDigit_1 : decode cX8_isDigit 1 = .ok (.bipush 48, 2) := by decide +kernel
theorem dX8_isDigit_3 : decode cX8_isDigit 3 = .ok (.if_icmp .lt 13, 3) := by decide +kernel
theorem dX8_isDigit_6 : decode cX8_isDigit 6 = .ok (.iload_n 0, 1) := by decide +kernel
theorem dX8_isDigit_7 : decode cX8_isDigit 7 = .ok (.bipush 57, 2) := by decide +kernel
theorem dX8_isDigit_9 : decode cX8_isDigit 9 = .ok (.if_icmp .gt 7, 3) := by decide +kernel
theorem dX8_isDigit_12 : decode cX8_isDigit 12 = .ok (.iconst 1, 1) := by decide +kernel
theorem dX8_isDigit_13 : decode cX8_isDigit 13 = .ok (.goto 4, 3) := by decide +kernel
theorem dX8_isDigit_16 : decode cX8_isDigit 16 = .ok (.iconst 0, 1) := by decide +kernel
theorem dX8_isDigit_17 : decode cX8_isDigit 17 = .ok (.ireturn, 1) := by decide +kernel
theorem dX8_kindOfSign_0 : decode cX8_kindOfSign 0 = .ok (.iload_n 0, 1) := by decide +kernel
theorem dX8_kindOfSign_1 : decode cX8_kindOfSign 1 = .ok (.lookupswitch 52 #[(46, 49), (59, 43), (123, 45), (125, 47)], 43) := by decide +kernel
theorem dX8_kindOfSign_44 : decode cX8_kindOfSign 44 = .ok (.iconst 3, 1) := by decide +kernel
theorem dX8_kindOfSign_45 : decode cX8_kindOfSign 45 = .ok (.ireturn, 1) := by decide +kernel
theorem dX8_kindOfSign_46 : decode cX8_kindOfSign 46 = .ok (.iconst 4, 1) := by decide +kernel
theorem dX8_kindOfSign_47 : decode cX8_kindOfSign 47 = .ok (.ireturn, 1) := by decide +kernel
theorem dX8_kindOfSign_48 : decode cX8_kindOfSign 48 = .ok (.iconst 5, 1) := by decide +kernel
theorem dX8_kindOfSign_49 : decode cX8_kindOfSign 49 = .ok (.ireturn, 1) := by decide +kernel
theorem dX8_kindOfSign_50 : decode cX8_kindOfSign 50 = .ok (.bipush 6, 2) := by decide +kernel
theorem dX8_kindOfSign_52 : decode cX8_kindOfSign 52 = .ok (.ireturn, 1) := by decide +kernel
theorem dX8_kindOfSign_53 : decode cX8_kindOfSign 53 = .ok (.bipush 7, 2) := by decide +kernel
theorem dX8_kindOfSign_55 : decode cX8_kindOfSign 55 = .ok (.ireturn, 1) := by decide +kernel
theorem dX9_init_0 : decode cX9_init 0 = .ok (.aload_n 0, 1) := by decide +kernel
theorem dX9_init_1 : decode cX9_init 1 = .ok (.invokespecial 3, 3) := by decide +kernel
theorem dX9_init_4 : decode cX9_init 4 = .ok (.aload_n 0, 1) := by decide +kernel
theorem dX9_init_5 : decode cX9_init 5 = .ok (.iconst 0, 1) := by decide +kernel
theorem dX9_init_6 : decode cX9_init 6 = .ok (.putfield 9, 3) := by decide +kernel
theorem dX9_init_9 : decode cX9_init 9 = .ok (.aload_n 0, 1) := by decide +kernel
theorem dX9_init_10 : decode cX9_init 10 = .ok (.iconst 0, 1) := by decide +kernel
theorem dX9_init_11 : decode cX9_init 11 = .ok (.putfield 15, 3) := by decide +kernel
theorem dX9_init_14 : decode cX9_init 14 = .ok (.aload_n 0, 1) := by decide +kernel
theorem dX9_init_15 : decode cX9_init 15 = .ok (.sipush 500, 3) := by decide +kernel
theorem dX9_init_18 : decode cX9_init 18 = .ok (.newarray .byte, 2) := by decide +kernel
theorem dX9_init_20 : decode cX9_init 20 = .ok (.putfield 18, 3) := by decide +kernel
theorem dX9_init_23 : decode cX9_init 23 = .ok (.aload_n 0, 1) := by decide +kernel
theorem dX9_init_24 : decode cX9_init 24 = .ok (.bipush 60, 2) := by decide +kernel
theorem dX9_init_26 : decode cX9_init 26 = .ok (.newarray .int, 2) := by decide +kernel
theorem dX9_init_28 : decode cX9_init 28 = .ok (.putfield 22, 3) := by decide +kernel
theorem dX9_init_31 : decode cX9_init 31 = .ok (.aload_n 0, 1) := by decide +kernel
theorem dX9_init_32 : decode cX9_init 32 = .ok (.bipush 60, 2) := by decide +kernel
theorem dX9_init_34 : decode cX9_init 34 = .ok (.newarray .int, 2) := by decide +kernel
theorem dX9_init_36 : decode cX9_init 36 = .ok (.putfield 26, 3) := by decide +kernel
theorem dX9_init_39 : decode cX9_init 39 = .ok (.aload_n 0, 1) := by decide +kernel
theorem dX9_init_40 : decode cX9_init 40 = .ok (.bipush 60, 2) := by decide +kernel
theorem dX9_init_42 : decode cX9_init 42 = .ok (.newarray .int, 2) := by decide +kernel
theorem dX9_init_44 : decode cX9_init 44 = .ok (.putfield 29, 3) := by decide +kernel
theorem dX9_init_47 : decode cX9_init 47 = .ok (.aload_n 0, 1) := by decide +kernel
theorem dX9_init_48 : decode cX9_init 48 = .ok (.bipush 60, 2) := by decide +kernel
theorem dX9_init_50 : decode cX9_init 50 = .ok (.newarray .boolean, 2) := by decide +kernel
theorem dX9_init_52 : decode cX9_init 52 = .ok (.putfield 32, 3) := by decide +kernel
theorem dX9_init_55 : decode cX9_init 55 = .ok (.return_, 1) := by decide +kernel
theorem dX9_clear_0 : decode cX9_clear 0 = .ok (.aload_n 0, 1) := by decide +kernel
theorem dX9_clear_1 : decode cX9_clear 1 = .ok (.iconst 0, 1) := by decide +kernel
theorem dX9_clear_2 : decode cX9_clear 2 = .ok (.putfield 9, 3) := by decide +kernel
theorem dX9_clear_5 : decode cX9_clear 5 = .ok (.aload_n 0, 1) := by decide +kernel
theorem dX9_clear_6 : decode cX9_clear 6 = .ok (.iconst 0, 1) := by decide +kernel
theorem dX9_clear_7 : decode cX9_clear 7 = .ok (.putfield 15, 3) := by decide +kernel
theorem dX9_clear_10 : decode cX9_clear 10 = .ok (.return_, 1) := by decide +kernel
theorem dX9_copyFrom_0 : decode cX9_copyFrom 0 = .ok (.aload_n 0, 1) := by decide +kernel
theorem dX9_copyFrom_1 : decode cX9_copyFrom 1 = .ok (.aload_n 1, 1) := by decide +kernel
theorem dX9_copyFrom_2 : decode cX9_copyFrom 2 = .ok (.getfield 9, 3) := by decide +kernel
theorem dX9_copyFrom_5 : decode cX9_copyFrom 5 = .ok (.putfield 9, 3) := by decide +kernel
theorem dX9_copyFrom_8 : decode cX9_copyFrom 8 = .ok (.aload_n 0, 1) := by decide +kernel
theorem dX9_copyFrom_9 : decode cX9_copyFrom 9 = .ok (.aload_n 1, 1) := by decide +kernel
theorem dX9_copyFrom_10 : decode cX9_copyFrom 10 = .ok (.getfield 15, 3) := by decide +kernel
theorem dX9_copyFrom_13 : decode cX9_copyFrom 13 = .ok (.putfield 15, 3) := by decide +kernel
theorem dX9_copyFrom_16 : decode cX9_copyFrom 16 = .ok (.aload_n 1, 1) := by decide +kernel
theorem dX9_copyFrom_17 : decode cX9_copyFrom 17 = .ok (.getfield 18, 3) := by decide +kernel
theorem dX9_copyFrom_20 : decode cX9_copyFrom 20 = .ok (.iconst 0, 1) := by decide +kernel
theorem dX9_copyFrom_21 : decode cX9_copyFrom 21 = .ok (.aload_n 0, 1) := by decide +kernel
theorem dX9_copyFrom_22 : decode cX9_copyFrom 22 = .ok (.getfield 18, 3) := by decide +kernel
theorem dX9_copyFrom_25 : decode cX9_copyFrom 25 = .ok (.iconst 0, 1) := by decide +kernel
theorem dX9_copyFrom_26 : decode cX9_copyFrom 26 = .ok (.sipush 500, 3) := by decide +kernel
theorem dX9_copyFrom_29 : decode cX9_copyFrom 29 = .ok (.invokestatic 36, 3) := by decide +kernel
theorem dX9_copyFrom_32 : decode cX9_copyFrom 32 = .ok (.aload_n 1, 1) := by decide +kernel
theorem dX9_copyFrom_33 : decode cX9_copyFrom 33 = .ok (.getfield 22, 3) := by decide +kernel
theorem dX9_copyFrom_36 : decode cX9_copyFrom 36 = .ok (.iconst 0, 1) := by decide +kernel
theorem dX9_copyFrom_37 : decode cX9_copyFrom 37 = .ok (.aload_n 0, 1) := by decide +kernel
theorem dX9_copyFrom_38 : decode cX9_copyFrom 38 = .ok (.getfield 22, 3) := by decide +kernel
theorem dX9_copyFrom_41 : decode cX9_copyFrom 41 = .ok (.iconst 0, 1) := by decide +kernel
theorem dX9_copyFrom_42 : decode cX9_copyFrom 42 = .ok (.bipush 60, 2) := by decide +kernel
theorem dX9_copyFrom_44 : decode cX9_copyFrom 44 = .ok (.invokestatic 36, 3) := by decide +kernel
theorem dX9_copyFrom_47 : decode cX9_copyFrom 47 = .ok (.aload_n 1, 1) := by decide +kernel
theorem dX9_copyFrom_48 : decode cX9_copyFrom 48 = .ok (.getfield 26, 3) := by decide +kernel
theorem dX9_copyFrom_51 : decode cX9_copyFrom 51 = .ok (.iconst 0, 1) := by decide +kernel
theorem dX9_copyFrom_52 : decode cX9_copyFrom 52 = .ok (.aload_n 0, 1) := by decide +kernel
theorem dX9_copyFrom_53 : decode cX9_copyFrom 53 = .ok (.getfield 26, 3) := by decide +kernel
theorem dX9_copyFrom_56 : decode cX9_copyFrom 56 = .ok (.iconst 0, 1) := by decide +kernel
theorem dX9_copyFrom_57 : decode cX9_copyFrom 57 = .ok (.bipush 60, 2) := by decide +kernel
theorem dX9_copyFrom_59 : decode cX9_copyFrom 59 = .ok (.invokestatic 36, 3) := by decide +kernel
theorem dX9_copyFrom_62 : decode cX9_copyFrom 62 = .ok (.aload_n 1, 1) := by decide +kernel
theorem dX9_copyFrom_63 : decode cX9_copyFrom 63 = .ok (.getfield 29, 3) := by decide +kernel
theorem dX9_copyFrom_66 : decode cX9_copyFrom 66 = .ok (.iconst 0, 1) := by decide +kernel
theorem dX9_copyFrom_67 : decode cX9_copyFrom 67 = .ok (.aload_n 0, 1) := by decide +kernel
theorem dX9_copyFrom_68 : decode cX9_copyFrom 68 = .ok (.getfield 29, 3) := by decide +kernel
theorem dX9_copyFrom_71 : decode cX9_copyFrom 71 = .ok (.iconst 0, 1) := by decide +kernel
theorem dX9_copyFrom_72 : decode cX9_copyFrom 72 = .ok (.bipush 60, 2) := by decide +kernel
theorem dX9_copyFrom_74 : decode cX9_copyFrom 74 = .ok (.invokestatic 36, 3) := by decide +kernel
theorem dX9_copyFrom_77 : decode cX9_copyFrom 77 = .ok (.aload_n 1, 1) := by decide +kernel
theorem dX9_copyFrom_78 : decode cX9_copyFrom 78 = .ok (.getfield 32, 3) := by decide +kernel
theorem dX9_copyFrom_81 : decode cX9_copyFrom 81 = .ok (.iconst 0, 1) := by decide +kernel
theorem dX9_copyFrom_82 : decode cX9_copyFrom 82 = .ok (.aload_n 0, 1) := by decide +kernel
theorem dX9_copyFrom_83 : decode cX9_copyFrom 83 = .ok (.getfield 32, 3) := by decide +kernel
theorem dX9_copyFrom_86 : decode cX9_copyFrom 86 = .ok (.iconst 0, 1) := by decide +kernel
theorem dX9_copyFrom_87 : decode cX9_copyFrom 87 = .ok (.bipush 60, 2) := by decide +kernel
theorem dX9_copyFrom_89 : decode cX9_copyFrom 89 = .ok (.invokestatic 36, 3) := by decide +kernel
theorem dX9_copyFrom_92 : decode cX9_copyFrom 92 = .ok (.return_, 1) := by decide +kernel
theorem dX9_allSyllables_0 : decode cX9_allSyllables 0 = .ok (.iconst 0, 1) := by decide +kernel
theorem dX9_allSyllables_1 : decode cX9_allSyllables 1 = .ok (.istore_n 1, 1) := by decide +kernel
theorem dX9_allSyllables_2 : decode cX9_allSyllables 2 = .ok (.iconst 0, 1) := by decide +kernel
theorem dX9_allSyllables_3 : decode cX9_allSyllables 3 = .ok (.istore_n 2, 1) := by decide +kernel
theorem dX9_allSyllables_4 : decode cX9_allSyllables 4 = .ok (.iload_n 2, 1) := by decide +kernel
theorem dX9_allSyllables_5 : decode cX9_allSyllables 5 = .ok (.aload_n 0, 1) := by decide +kernel
theorem dX9_allSyllables_6 : decode cX9_allSyllables 6 = .ok (.getfield 9, 3) := by decide +kernel
theorem dX9_allSyllables_9 : decode cX9_allSyllables 9 = .ok (.if_icmp .ge 18, 3) := by decide +kernel
theorem dX9_allSyllables_12 : decode cX9_allSyllables 12 = .ok (.iload_n 1, 1) := by decide +kernel
theorem dX9_allSyllables_13 : decode cX9_allSyllables 13 = .ok (.aload_n 0, 1) := by decide +kernel
theorem dX9_allSyllables_14 : decode cX9_allSyllables 14 = .ok (.getfield 29, 3) := by decide +kernel
theorem dX9_allSyllables_17 : decode cX9_allSyllables 17 = .ok (.iload_n 2, 1) := by decide +kernel
theorem dX9_allSyllables_18 : decode cX9_allSyllables 18 = .ok (.iaload, 1) := by decide +kernel
theorem dX9_allSyllables_19 : decode cX9_allSyllables 19 = .ok (.iadd, 1) := by decide +kernel
theorem dX9_allSyllables_20 : decode cX9_allSyllables 20 = .ok (.istore_n 1, 1) := by decide +kernel
theorem dX9_allSyllables_21 : decode cX9_allSyllables 21 = .ok (.iinc 2 1, 3) := by decide +kernel
theorem dX9_allSyllables_24 : decode cX9_allSyllables 24 = .ok (.goto (-20), 3) := by decide +kernel
theorem dX9_allSyllables_27 : decode cX9_allSyllables 27 = .ok (.iload_n 1, 1) := by decide +kernel
theorem dX9_allSyllables_28 : decode cX9_allSyllables 28 = .ok (.ireturn, 1) := by decide +kernel
theorem dX9_sentences_0 : decode cX9_sentences 0 = .ok (.aload_n 0, 1) := by decide +kernel
theorem dX9_sentences_1 : decode cX9_sentences 1 = .ok (.aload_n 0, 1) := by decide +kernel
theorem dX9_sentences_2 : decode cX9_sentences 2 = .ok (.getfield 9, 3) := by decide +kernel
theorem dX9_sentences_5 : decode cX9_sentences 5 = .ok (.invokevirtual 42, 3) := by decide +kernel
theorem dX9_sentences_8 : decode cX9_sentences 8 = .ok (.ireturn, 1) := by decide +kernel
theorem dX9_sentenceOf_0 : decode cX9_sentenceOf 0 = .ok (.iconst 0, 1) := by decide +kernel
theorem dX9_sentenceOf_1 : decode cX9_sentenceOf 1 = .ok (.istore_n 2, 1) := by decide +kernel
theorem dX9_sentenceOf_2 : decode cX9_sentenceOf 2 = .ok (.iconst 0, 1) := by decide +kernel
theorem dX9_sentenceOf_3 : decode cX9_sentenceOf 3 = .ok (.istore_n 3, 1) := by decide +kernel
theorem dX9_sentenceOf_4 : decode cX9_sentenceOf 4 = .ok (.iload_n 3, 1) := by decide +kernel
theorem dX9_sentenceOf_5 : decode cX9_sentenceOf 5 = .ok (.iload_n 1, 1) := by decide +kernel
theorem dX9_sentenceOf_6 : decode cX9_sentenceOf 6 = .ok (.if_icmp .ge 29, 3) := by decide +kernel
theorem dX9_sentenceOf_9 : decode cX9_sentenceOf 9 = .ok (.iload_n 3, 1) := by decide +kernel
theorem dX9_sentenceOf_10 : decode cX9_sentenceOf 10 = .ok (.aload_n 0, 1) := by decide +kernel
theorem dX9_sentenceOf_11 : decode cX9_sentenceOf 11 = .ok (.getfield 9, 3) := by decide +kernel
theorem dX9_sentenceOf_14 : decode cX9_sentenceOf 14 = .ok (.if_icmp .ge 21, 3) := by decide +kernel
theorem dX9_sentenceOf_17 : decode cX9_sentenceOf 17 = .ok (.aload_n 0, 1) := by decide +kernel
theorem dX9_sentenceOf_18 : decode cX9_sentenceOf 18 = .ok (.getfield 32, 3) := by decide +kernel
theorem dX9_sentenceOf_21 : decode cX9_sentenceOf 21 = .ok (.iload_n 3, 1) := by decide +kernel
theorem dX9_sentenceOf_22 : decode cX9_sentenceOf 22 = .ok (.baload, 1) := by decide +kernel
theorem dX9_sentenceOf_23 : decode cX9_sentenceOf 23 = .ok (.ifCond .eq 6, 3) := by decide +kernel
theorem dX9_sentenceOf_26 : decode cX9_sentenceOf 26 = .ok (.iinc 2 1, 3) := by decide +kernel
theorem dX9_sentenceOf_29 : decode cX9_sentenceOf 29 = .ok (.iinc 3 1, 3) := by decide +kernel
theorem dX9_sentenceOf_32 : decode cX9_sentenceOf 32 = .ok (.goto (-28), 3) := by decide +kernel
theorem dX9_sentenceOf_35 : decode cX9_sentenceOf 35 = .ok (.iload_n 2, 1) := by decide +kernel
theorem dX9_sentenceOf_36 : decode cX9_sentenceOf 36 = .ok (.ireturn, 1) := by decide +kernel
theorem dX9_endAt_0 : decode cX9_endAt 0 = .ok (.aload_n 0, 1) := by decide +kernel
theorem dX9_endAt_1 : decode cX9_endAt 1 = .ok (.getfield 9, 3) := by decide +kernel
theorem dX9_endAt_4 : decode cX9_endAt 4 = .ok (.ifCond .ne 7, 3) := by decide +kernel
theorem dX9_endAt_7 : decode cX9_endAt 7 = .ok (.iconst 0, 1) := by decide +kernel
theorem dX9_endAt_8 : decode cX9_endAt 8 = .ok (.goto 18, 3) := by decide +kernel
theorem dX9_endAt_11 : decode cX9_endAt 11 = .ok (.iload_n 1, 1) := by decide +kernel
theorem dX9_endAt_12 : decode cX9_endAt 12 = .ok (.aload_n 0, 1) := by decide +kernel
theorem dX9_endAt_13 : decode cX9_endAt 13 = .ok (.invokevirtual 46, 3) := by decide +kernel
theorem dX9_endAt_16 : decode cX9_endAt 16 = .ok (.imul, 1) := by decide +kernel
theorem dX9_endAt_17 : decode cX9_endAt 17 = .ok (.iload_n 2, 1) := by decide +kernel
theorem dX9_endAt_18 : decode cX9_endAt 18 = .ok (.aload_n 0, 1) := by decide +kernel
theorem dX9_endAt_19 : decode cX9_endAt 19 = .ok (.invokevirtual 50, 3) := by decide +kernel
theorem dX9_endAt_22 : decode cX9_endAt 22 = .ok (.iconst 1, 1) := by decide +kernel
theorem dX9_endAt_23 : decode cX9_endAt 23 = .ok (.isub, 1) := by decide +kernel
theorem dX9_endAt_24 : decode cX9_endAt 24 = .ok (.imul, 1) := by decide +kernel
theorem dX9_endAt_25 : decode cX9_endAt 25 = .ok (.iadd, 1) := by decide +kernel
theorem dX9_endAt_26 : decode cX9_endAt 26 = .ok (.ireturn, 1) := by decide +kernel
theorem dX9_readFrom_0 : decode cX9_readFrom 0 = .ok (.aload_n 0, 1) := by decide +kernel
theorem dX9_readFrom_1 : decode cX9_readFrom 1 = .ok (.invokevirtual 53, 3) := by decide +kernel
theorem dX9_readFrom_4 : decode cX9_readFrom 4 = .ok (.iconst 0, 1) := by decide +kernel
theorem dX9_readFrom_5 : decode cX9_readFrom 5 = .ok (.istore_n 2, 1) := by decide +kernel
theorem dX9_readFrom_6 : decode cX9_readFrom 6 = .ok (.aload_n 1, 1) := by decide +kernel
theorem dX9_readFrom_7 : decode cX9_readFrom 7 = .ok (.invokevirtual 56, 3) := by decide +kernel
theorem dX9_readFrom_10 : decode cX9_readFrom 10 = .ok (.iconst 0, 1) := by decide +kernel
theorem dX9_readFrom_11 : decode cX9_readFrom 11 = .ok (.istore_n 3, 1) := by decide +kernel
theorem dX9_readFrom_12 : decode cX9_readFrom 12 = .ok (.iload_n 3, 1) := by decide +kernel
theorem dX9_readFrom_13 : decode cX9_readFrom 13 = .ok (.sipush 500, 3) := by decide +kernel
theorem dX9_readFrom_16 : decode cX9_readFrom 16 = .ok (.if_icmp .ge 86, 3) := by decide +kernel
theorem dX9_readFrom_19 : decode cX9_readFrom 19 = .ok (.aload_n 1, 1) := by decide +kernel
theorem dX9_readFrom_20 : decode cX9_readFrom 20 = .ok (.getfield 61, 3) := by decide +kernel
theorem dX9_readFrom_23 : decode cX9_readFrom 23 = .ok (.ifCond .eq 79, 3) := by decide +kernel
theorem dX9_readFrom_26 : decode cX9_readFrom 26 = .ok (.aload_n 1, 1) := by decide +kernel
theorem dX9_readFrom_27 : decode cX9_readFrom 27 = .ok (.getfield 61, 3) := by decide +kernel
theorem dX9_readFrom_30 : decode cX9_readFrom 30 = .ok (.iconst 1, 1) := by decide +kernel
theorem dX9_readFrom_31 : decode cX9_readFrom 31 = .ok (.if_icmp .ne 18, 3) := by decide +kernel
theorem dX9_readFrom_34 : decode cX9_readFrom 34 = .ok (.aload_n 0, 1) := by decide +kernel
theorem dX9_readFrom_35 : decode cX9_readFrom 35 = .ok (.aload_n 1, 1) := by decide +kernel
theorem dX9_readFrom_36 : decode cX9_readFrom 36 = .ok (.invokevirtual 64, 3) := by decide +kernel
theorem dX9_readFrom_39 : decode cX9_readFrom 39 = .ok (.ifCond .ne 5, 3) := by decide +kernel
theorem dX9_readFrom_42 : decode cX9_readFrom 42 = .ok (.iconst 0, 1) := by decide +kernel
theorem dX9_readFrom_43 : decode cX9_readFrom 43 = .ok (.ireturn, 1) := by decide +kernel
theorem dX9_readFrom_44 : decode cX9_readFrom 44 = .ok (.iconst 1, 1) := by decide +kernel
theorem dX9_readFrom_45 : decode cX9_readFrom 45 = .ok (.istore_n 2, 1) := by decide +kernel
theorem dX9_readFrom_46 : decode cX9_readFrom 46 = .ok (.goto 50, 3) := by decide +kernel
theorem dX9_readFrom_49 : decode cX9_readFrom 49 = .ok (.aload_n 1, 1) := by decide +kernel
theorem dX9_readFrom_50 : decode cX9_readFrom 50 = .ok (.getfield 61, 3) := by decide +kernel
theorem dX9_readFrom_53 : decode cX9_readFrom 53 = .ok (.bipush 6, 2) := by decide +kernel
theorem dX9_readFrom_55 : decode cX9_readFrom 55 = .ok (.if_icmp .ne 35, 3) := by decide +kernel
theorem dX9_readFrom_58 : decode cX9_readFrom 58 = .ok (.iload_n 2, 1) := by decide +kernel
theorem dX9_readFrom_59 : decode cX9_readFrom 59 = .ok (.ifCond .eq 31, 3) := by decide +kernel
theorem dX9_readFrom_62 : decode cX9_readFrom 62 = .ok (.aload_n 0, 1) := by decide +kernel
theorem dX9_readFrom_63 : decode cX9_readFrom 63 = .ok (.getfield 9, 3) := by decide +kernel
theorem dX9_readFrom_66 : decode cX9_readFrom 66 = .ok (.ifCond .le 24, 3) := by decide +kernel
theorem dX9_readFrom_69 : decode cX9_readFrom 69 = .ok (.aload_n 0, 1) := by decide +kernel
theorem dX9_readFrom_70 : decode cX9_readFrom 70 = .ok (.getfield 32, 3) := by decide +kernel
theorem dX9_readFrom_73 : decode cX9_readFrom 73 = .ok (.aload_n 0, 1) := by decide +kernel
theorem dX9_readFrom_74 : decode cX9_readFrom 74 = .ok (.getfield 9, 3) := by decide +kernel
theorem dX9_readFrom_77 : decode cX9_readFrom 77 = .ok (.iconst 1, 1) := by decide +kernel
theorem dX9_readFrom_78 : decode cX9_readFrom 78 = .ok (.isub, 1) := by decide +kernel
theorem dX9_readFrom_79 : decode cX9_readFrom 79 = .ok (.iconst 1, 1) := by decide +kernel
theorem dX9_readFrom_80 : decode cX9_readFrom 80 = .ok (.bastore, 1) := by decide +kernel
theorem dX9_readFrom_81 : decode cX9_readFrom 81 = .ok (.iconst 0, 1) := by decide +kernel
theorem dX9_readFrom_82 : decode cX9_readFrom 82 = .ok (.istore_n 2, 1) := by decide +kernel
theorem dX9_readFrom_83 : decode cX9_readFrom 83 = .ok (.aload_n 1, 1) := by decide +kernel
theorem dX9_readFrom_84 : decode cX9_readFrom 84 = .ok (.invokevirtual 68, 3) := by decide +kernel
theorem dX9_readFrom_87 : decode cX9_readFrom 87 = .ok (.goto 9, 3) := by decide +kernel
theorem dX9_readFrom_90 : decode cX9_readFrom 90 = .ok (.aload_n 1, 1) := by decide +kernel
theorem dX9_readFrom_91 : decode cX9_readFrom 91 = .ok (.iconst 1, 1) := by decide +kernel
theorem dX9_readFrom_92 : decode cX9_readFrom 92 = .ok (.invokevirtual 71, 3) := by decide +kernel
theorem dX9_readFrom_95 : decode cX9_readFrom 95 = .ok (.ireturn, 1) := by decide +kernel
theorem dX9_readFrom_96 : decode cX9_readFrom 96 = .ok (.iinc 3 1, 3) := by decide +kernel
theorem dX9_readFrom_99 : decode cX9_readFrom 99 = .ok (.goto (-87), 3) := by decide +kernel
theorem dX9_readFrom_102 : decode cX9_readFrom 102 = .ok (.iload_n 2, 1) := by decide +kernel
theorem dX9_readFrom_103 : decode cX9_readFrom 103 = .ok (.ifCond .eq 11, 3) := by decide +kernel
theorem dX9_readFrom_106 : decode cX9_readFrom 106 = .ok (.aload_n 1, 1) := by decide +kernel
theorem dX9_readFrom_107 : decode cX9_readFrom 107 = .ok (.iconst 1, 1) := by decide +kernel
theorem dX9_readFrom_108 : decode cX9_readFrom 108 = .ok (.invokevirtual 71, 3) := by decide +kernel
theorem dX9_readFrom_111 : decode cX9_readFrom 111 = .ok (.goto 4, 3) := by decide +kernel
theorem dX9_readFrom_114 : decode cX9_readFrom 114 = .ok (.iconst 1, 1) := by decide +kernel
theorem dX9_readFrom_115 : decode cX9_readFrom 115 = .ok (.ireturn, 1) := by decide +kernel
theorem dX9_readWord_0 : decode cX9_readWord 0 = .ok (.aload_n 1, 1) := by decide +kernel
theorem dX9_readWord_1 : decode cX9_readWord 1 = .ok (.invokevirtual 75, 3) := by decide +kernel
theorem dX9_readWord_4 : decode cX9_readWord 4 = .ok (.istore_n 2, 1) := by decide +kernel
theorem dX9_readWord_5 : decode cX9_readWord 5 = .ok (.iload_n 2, 1) := by decide +kernel
theorem dX9_readWord_6 : decode cX9_readWord 6 = .ok (.bipush 20, 2) := by decide +kernel
theorem dX9_readWord_8 : decode cX9_readWord 8 = .ok (.if_icmp .le 9, 3) := by decide +kernel
theorem dX9_readWord_11 : decode cX9_readWord 11 = .ok (.aload_n 1, 1) := by decide +kernel
theorem dX9_readWord_12 : decode cX9_readWord 12 = .ok (.iconst 2, 1) := by decide +kernel
theorem dX9_readWord_13 : decode cX9_readWord 13 = .ok (.invokevirtual 71, 3) := by decide +kernel
theorem dX9_readWord_16 : decode cX9_readWord 16 = .ok (.ireturn, 1) := by decide +kernel
theorem dX9_readWord_17 : decode cX9_readWord 17 = .ok (.aload_n 0, 1) := by decide +kernel
theorem dX9_readWord_18 : decode cX9_readWord 18 = .ok (.getfield 9, 3) := by decide +kernel
theorem dX9_readWord_21 : decode cX9_readWord 21 = .ok (.bipush 60, 2) := by decide +kernel
theorem dX9_readWord_23 : decode cX9_readWord 23 = .ok (.if_icmp .ge 15, 3) := by decide +kernel
theorem dX9_readWord_26 : decode cX9_readWord 26 = .ok (.iload_n 2, 1) := by decide +kernel
theorem dX9_readWord_27 : decode cX9_readWord 27 = .ok (.sipush 500, 3) := by decide +kernel
theorem dX9_readWord_30 : decode cX9_readWord 30 = .ok (.aload_n 0, 1) := by decide +kernel
theorem dX9_readWord_31 : decode cX9_readWord 31 = .ok (.getfield 15, 3) := by decide +kernel
theorem dX9_readWord_34 : decode cX9_readWord 34 = .ok (.isub, 1) := by decide +kernel
theorem dX9_readWord_35 : decode cX9_readWord 35 = .ok (.if_icmp .le 9, 3) := by decide +kernel
theorem dX9_readWord_38 : decode cX9_readWord 38 = .ok (.aload_n 1, 1) := by decide +kernel
theorem dX9_readWord_39 : decode cX9_readWord 39 = .ok (.iconst 4, 1) := by decide +kernel
theorem dX9_readWord_40 : decode cX9_readWord 40 = .ok (.invokevirtual 71, 3) := by decide +kernel
theorem dX9_readWord_43 : decode cX9_readWord 43 = .ok (.ireturn, 1) := by decide +kernel
theorem dX9_readWord_44 : decode cX9_readWord 44 = .ok (.aload_n 1, 1) := by decide +kernel
theorem dX9_readWord_45 : decode cX9_readWord 45 = .ok (.getfield 78, 3) := by decide +kernel
theorem dX9_readWord_48 : decode cX9_readWord 48 = .ok (.aload_n 1, 1) := by decide +kernel
theorem dX9_readWord_49 : decode cX9_readWord 49 = .ok (.getfield 81, 3) := by decide +kernel
theorem dX9_readWord_52 : decode cX9_readWord 52 = .ok (.aload_n 0, 1) := by decide +kernel
theorem dX9_readWord_53 : decode cX9_readWord 53 = .ok (.getfield 18, 3) := by decide +kernel
theorem dX9_readWord_56 : decode cX9_readWord 56 = .ok (.aload_n 0, 1) := by decide +kernel
theorem dX9_readWord_57 : decode cX9_readWord 57 = .ok (.getfield 15, 3) := by decide +kernel
theorem dX9_readWord_60 : decode cX9_readWord 60 = .ok (.iload_n 2, 1) := by decide +kernel
theorem dX9_readWord_61 : decode cX9_readWord 61 = .ok (.invokestatic 36, 3) := by decide +kernel
theorem dX9_readWord_64 : decode cX9_readWord 64 = .ok (.aload_n 0, 1) := by decide +kernel
theorem dX9_readWord_65 : decode cX9_readWord 65 = .ok (.getfield 22, 3) := by decide +kernel
theorem dX9_readWord_68 : decode cX9_readWord 68 = .ok (.aload_n 0, 1) := by decide +kernel
theorem dX9_readWord_69 : decode cX9_readWord 69 = .ok (.getfield 9, 3) := by decide +kernel
theorem dX9_readWord_72 : decode cX9_readWord 72 = .ok (.aload_n 0, 1) := by decide +kernel
theorem dX9_readWord_73 : decode cX9_readWord 73 = .ok (.getfield 15, 3) := by decide +kernel
theorem dX9_readWord_76 : decode cX9_readWord 76 = .ok (.iastore, 1) := by decide +kernel
theorem dX9_readWord_77 : decode cX9_readWord 77 = .ok (.aload_n 0, 1) := by decide +kernel
theorem dX9_readWord_78 : decode cX9_readWord 78 = .ok (.getfield 26, 3) := by decide +kernel
theorem dX9_readWord_81 : decode cX9_readWord 81 = .ok (.aload_n 0, 1) := by decide +kernel
theorem dX9_readWord_82 : decode cX9_readWord 82 = .ok (.getfield 9, 3) := by decide +kernel
theorem dX9_readWord_85 : decode cX9_readWord 85 = .ok (.iload_n 2, 1) := by decide +kernel
theorem dX9_readWord_86 : decode cX9_readWord 86 = .ok (.iastore, 1) := by decide +kernel
theorem dX9_readWord_87 : decode cX9_readWord 87 = .ok (.aload_n 0, 1) := by decide +kernel
theorem dX9_readWord_88 : decode cX9_readWord 88 = .ok (.getfield 32, 3) := by decide +kernel
theorem dX9_readWord_91 : decode cX9_readWord 91 = .ok (.aload_n 0, 1) := by decide +kernel
theorem dX9_readWord_92 : decode cX9_readWord 92 = .ok (.getfield 9, 3) := by decide +kernel
theorem dX9_readWord_95 : decode cX9_readWord 95 = .ok (.iconst 0, 1) := by decide +kernel
theorem dX9_readWord_96 : decode cX9_readWord 96 = .ok (.bastore, 1) := by decide +kernel
theorem dX9_readWord_97 : decode cX9_readWord 97 = .ok (.aload_n 0, 1) := by decide +kernel
theorem dX9_readWord_98 : decode cX9_readWord 98 = .ok (.getfield 29, 3) := by decide +kernel
theorem dX9_readWord_101 : decode cX9_readWord 101 = .ok (.aload_n 0, 1) := by decide +kernel
theorem dX9_readWord_102 : decode cX9_readWord 102 = .ok (.getfield 9, 3) := by decide +kernel
theorem dX9_readWord_105 : decode cX9_readWord 105 = .ok (.aload_n 0, 1) := by decide +kernel
theorem dX9_readWord_106 : decode cX9_readWord 106 = .ok (.aload_n 0, 1) := by decide +kernel
theorem dX9_readWord_107 : decode cX9_readWord 107 = .ok (.getfield 15, 3) := by decide +kernel
theorem dX9_readWord_110 : decode cX9_readWord 110 = .ok (.iload_n 2, 1) := by decide +kernel
theorem dX9_readWord_111 : decode cX9_readWord 111 = .ok (.invokevirtual 84, 3) := by decide +kernel
theorem dX9_readWord_114 : decode cX9_readWord 114 = .ok (.iastore, 1) := by decide +kernel
theorem dX9_readWord_115 : decode cX9_readWord 115 = .ok (.aload_n 0, 1) := by decide +kernel
theorem dX9_readWord_116 : decode cX9_readWord 116 = .ok (.dup, 1) := by decide +kernel
theorem dX9_readWord_117 : decode cX9_readWord 117 = .ok (.getfield 15, 3) := by decide +kernel
theorem dX9_readWord_120 : decode cX9_readWord 120 = .ok (.iload_n 2, 1) := by decide +kernel
theorem dX9_readWord_121 : decode cX9_readWord 121 = .ok (.iadd, 1) := by decide +kernel
theorem dX9_readWord_122 : decode cX9_readWord 122 = .ok (.putfield 15, 3) := by decide +kernel
theorem dX9_readWord_125 : decode cX9_readWord 125 = .ok (.aload_n 0, 1) := by decide +kernel
theorem dX9_readWord_126 : decode cX9_readWord 126 = .ok (.dup, 1) := by decide +kernel
theorem dX9_readWord_127 : decode cX9_readWord 127 = .ok (.getfield 9, 3) := by decide +kernel
theorem dX9_readWord_130 : decode cX9_readWord 130 = .ok (.iconst 1, 1) := by decide +kernel
theorem dX9_readWord_131 : decode cX9_readWord 131 = .ok (.iadd, 1) := by decide +kernel
theorem dX9_readWord_132 : decode cX9_readWord 132 = .ok (.putfield 9, 3) := by decide +kernel
theorem dX9_readWord_135 : decode cX9_readWord 135 = .ok (.aload_n 1, 1) := by decide +kernel
theorem dX9_readWord_136 : decode cX9_readWord 136 = .ok (.invokevirtual 68, 3) := by decide +kernel
theorem dX9_readWord_139 : decode cX9_readWord 139 = .ok (.iconst 1, 1) := by decide +kernel
theorem dX9_readWord_140 : decode cX9_readWord 140 = .ok (.ireturn, 1) := by decide +kernel
theorem dX9_syllablesOf_0 : decode cX9_syllablesOf 0 = .ok (.iconst 0, 1) := by decide +kernel
theorem dX9_syllablesOf_1 : decode cX9_syllablesOf 1 = .ok (.istore_n 3, 1) := by decide +kernel
theorem dX9_syllablesOf_2 : decode cX9_syllablesOf 2 = .ok (.iconst 0, 1) := by decide +kernel
theorem dX9_syllablesOf_3 : decode cX9_syllablesOf 3 = .ok (.istore 4, 2) := by decide +kernel
theorem dX9_syllablesOf_5 : decode cX9_syllablesOf 5 = .ok (.iload_n 1, 1) := by decide +kernel
theorem dX9_syllablesOf_6 : decode cX9_syllablesOf 6 = .ok (.istore 5, 2) := by decide +kernel
theorem dX9_syllablesOf_8 : decode cX9_syllablesOf 8 = .ok (.iload 5, 2) := by decide +kernel
theorem dX9_syllablesOf_10 : decode cX9_syllablesOf 10 = .ok (.iload_n 1, 1) := by decide +kernel
theorem dX9_syllablesOf_11 : decode cX9_syllablesOf 11 = .ok (.iload_n 2, 1) := by decide +kernel
theorem dX9_syllablesOf_12 : decode cX9_syllablesOf 12 = .ok (.iadd, 1) := by decide +kernel
theorem dX9_syllablesOf_13 : decode cX9_syllablesOf 13 = .ok (.if_icmp .ge 38, 3) := by decide +kernel
theorem dX9_syllablesOf_16 : decode cX9_syllablesOf 16 = .ok (.aload_n 0, 1) := by decide +kernel
theorem dX9_syllablesOf_17 : decode cX9_syllablesOf 17 = .ok (.getfield 18, 3) := by decide +kernel
theorem dX9_syllablesOf_20 : decode cX9_syllablesOf 20 = .ok (.iload 5, 2) := by decide +kernel
theorem dX9_syllablesOf_22 : decode cX9_syllablesOf 22 = .ok (.baload, 1) := by decide +kernel
theorem dX9_syllablesOf_23 : decode cX9_syllablesOf 23 = .ok (.invokestatic 88, 3) := by decide +kernel
theorem dX9_syllablesOf_26 : decode cX9_syllablesOf 26 = .ok (.istore 6, 2) := by decide +kernel
theorem dX9_syllablesOf_28 : decode cX9_syllablesOf 28 = .ok (.iload 6, 2) := by decide +kernel
theorem dX9_syllablesOf_30 : decode cX9_syllablesOf 30 = .ok (.ifCond .eq 11, 3) := by decide +kernel
theorem dX9_syllablesOf_33 : decode cX9_syllablesOf 33 = .ok (.iload 4, 2) := by decide +kernel
theorem dX9_syllablesOf_35 : decode cX9_syllablesOf 35 = .ok (.ifCond .ne 6, 3) := by decide +kernel
theorem dX9_syllablesOf_38 : decode cX9_syllablesOf 38 = .ok (.iinc 3 1, 3) := by decide +kernel
theorem dX9_syllablesOf_41 : decode cX9_syllablesOf 41 = .ok (.iload 6, 2) := by decide +kernel
theorem dX9_syllablesOf_43 : decode cX9_syllablesOf 43 = .ok (.istore 4, 2) := by decide +kernel
theorem dX9_syllablesOf_45 : decode cX9_syllablesOf 45 = .ok (.iinc 5 1, 3) := by decide +kernel
theorem dX9_syllablesOf_48 : decode cX9_syllablesOf 48 = .ok (.goto (-40), 3) := by decide +kernel
theorem dX9_syllablesOf_51 : decode cX9_syllablesOf 51 = .ok (.iload_n 3, 1) := by decide +kernel
theorem dX9_syllablesOf_52 : decode cX9_syllablesOf 52 = .ok (.iconst 1, 1) := by decide +kernel
theorem dX9_syllablesOf_53 : decode cX9_syllablesOf 53 = .ok (.invokestatic 91, 3) := by decide +kernel
theorem dX9_syllablesOf_56 : decode cX9_syllablesOf 56 = .ok (.ireturn, 1) := by decide +kernel
theorem dX9_isVowel_0 : decode cX9_isVowel 0 = .ok (.iload_n 0, 1) := by decide +kernel
theorem dX9_isVowel_1 : decode cX9_isVowel 1 = .ok (.bipush 97, 2) := by decide +kernel
theorem dX9_isVowel_3 : decode cX9_isVowel 3 = .ok (.if_icmp .eq 33, 3) := by decide +kernel
theorem dX9_isVowel_6 : decode cX9_isVowel 6 = .ok (.iload_n 0, 1) := by decide +kernel
theorem dX9_isVowel_7 : decode cX9_isVowel 7 = .ok (.bipush 101, 2) := by decide +kernel
theorem dX9_isVowel_9 : decode cX9_isVowel 9 = .ok (.if_icmp .eq 27, 3) := by decide +kernel
theorem dX9_isVowel_12 : decode cX9_isVowel 12 = .ok (.iload_n 0, 1) := by decide +kernel
theorem dX9_isVowel_13 : decode cX9_isVowel 13 = .ok (.bipush 105, 2) := by decide +kernel
theorem dX9_isVowel_15 : decode cX9_isVowel 15 = .ok (.if_icmp .eq 21, 3) := by decide +kernel
theorem dX9_isVowel_18 : decode cX9_isVowel 18 = .ok (.iload_n 0, 1) := by decide +kernel
theorem dX9_isVowel_19 : decode cX9_isVowel 19 = .ok (.bipush 111, 2) := by decide +kernel
theorem dX9_isVowel_21 : decode cX9_isVowel 21 = .ok (.if_icmp .eq 15, 3) := by decide +kernel
theorem dX9_isVowel_24 : decode cX9_isVowel 24 = .ok (.iload_n 0, 1) := by decide +kernel
theorem dX9_isVowel_25 : decode cX9_isVowel 25 = .ok (.bipush 117, 2) := by decide +kernel
theorem dX9_isVowel_27 : decode cX9_isVowel 27 = .ok (.if_icmp .eq 9, 3) := by decide +kernel
theorem dX9_isVowel_30 : decode cX9_isVowel 30 = .ok (.iload_n 0, 1) := by decide +kernel
theorem dX9_isVowel_31 : decode cX9_isVowel 31 = .ok (.bipush 121, 2) := by decide +kernel
theorem dX9_isVowel_33 : decode cX9_isVowel 33 = .ok (.if_icmp .ne 7, 3) := by decide +kernel
theorem dX9_isVowel_36 : decode cX9_isVowel 36 = .ok (.iconst 1, 1) := by decide +kernel
theorem dX9_isVowel_37 : decode cX9_isVowel 37 = .ok (.goto 4, 3) := by decide +kernel
theorem dX9_isVowel_40 : decode cX9_isVowel 40 = .ok (.iconst 0, 1) := by decide +kernel
theorem dX9_isVowel_41 : decode cX9_isVowel 41 = .ok (.ireturn, 1) := by decide +kernel
theorem dX10_init_0 : decode cX10_init 0 = .ok (.aload_n 0, 1) := by decide +kernel
theorem dX10_init_1 : decode cX10_init 1 = .ok (.invokespecial 3, 3) := by decide +kernel
theorem dX10_init_4 : decode cX10_init 4 = .ok (.aload_n 0, 1) := by decide +kernel
theorem dX10_init_5 : decode cX10_init 5 = .ok (.new 9, 3) := by decide +kernel
theorem dX10_init_8 : decode cX10_init 8 = .ok (.dup, 1) := by decide +kernel
theorem dX10_init_9 : decode cX10_init 9 = .ok (.invokespecial 11, 3) := by decide +kernel
theorem dX10_init_12 : decode cX10_init 12 = .ok (.putfield 12, 3) := by decide +kernel
theorem dX10_init_15 : decode cX10_init 15 = .ok (.aload_n 0, 1) := by decide +kernel
theorem dX10_init_16 : decode cX10_init 16 = .ok (.new 16, 3) := by decide +kernel
theorem dX10_init_19 : decode cX10_init 19 = .ok (.dup, 1) := by decide +kernel
theorem dX10_init_20 : decode cX10_init 20 = .ok (.invokespecial 18, 3) := by decide +kernel
theorem dX10_init_23 : decode cX10_init 23 = .ok (.putfield 19, 3) := by decide +kernel
theorem dX10_init_26 : decode cX10_init 26 = .ok (.aload_n 0, 1) := by decide +kernel
theorem dX10_init_27 : decode cX10_init 27 = .ok (.new 23, 3) := by decide +kernel
theorem dX10_init_30 : decode cX10_init 30 = .ok (.dup, 1) := by decide +kernel
theorem dX10_init_31 : decode cX10_init 31 = .ok (.invokespecial 25, 3) := by decide +kernel
theorem dX10_init_34 : decode cX10_init 34 = .ok (.putfield 26, 3) := by decide +kernel
theorem dX10_init_37 : decode cX10_init 37 = .ok (.aload_n 0, 1) := by decide +kernel
theorem dX10_init_38 : decode cX10_init 38 = .ok (.new 23, 3) := by decide +kernel
theorem dX10_init_41 : decode cX10_init 41 = .ok (.dup, 1) := by decide +kernel
theorem dX10_init_42 : decode cX10_init 42 = .ok (.invokespecial 25, 3) := by decide +kernel
theorem dX10_init_45 : decode cX10_init 45 = .ok (.putfield 30, 3) := by decide +kernel
theorem dX10_init_48 : decode cX10_init 48 = .ok (.aload_n 0, 1) := by decide +kernel
theorem dX10_init_49 : decode cX10_init 49 = .ok (.bipush 8, 2) := by decide +kernel
theorem dX10_init_51 : decode cX10_init 51 = .ok (.anewarray 23, 3) := by decide +kernel
theorem dX10_init_54 : decode cX10_init 54 = .ok (.putfield 33, 3) := by decide +kernel
theorem dX10_init_57 : decode cX10_init 57 = .ok (.aload_n 0, 1) := by decide +kernel
theorem dX10_init_58 : decode cX10_init 58 = .ok (.iconst 0, 1) := by decide +kernel
theorem dX10_init_59 : decode cX10_init 59 = .ok (.putfield 37, 3) := by decide +kernel
theorem dX10_init_62 : decode cX10_init 62 = .ok (.aload_n 0, 1) := by decide +kernel
theorem dX10_init_63 : decode cX10_init 63 = .ok (.iconst 0, 1) := by decide +kernel
theorem dX10_init_64 : decode cX10_init 64 = .ok (.putfield 41, 3) := by decide +kernel
theorem dX10_init_67 : decode cX10_init 67 = .ok (.aload_n 0, 1) := by decide +kernel
theorem dX10_init_68 : decode cX10_init 68 = .ok (.iconst 2, 1) := by decide +kernel
theorem dX10_init_69 : decode cX10_init 69 = .ok (.anewarray 23, 3) := by decide +kernel
theorem dX10_init_72 : decode cX10_init 72 = .ok (.putfield 44, 3) := by decide +kernel
theorem dX10_init_75 : decode cX10_init 75 = .ok (.aload_n 0, 1) := by decide +kernel
theorem dX10_init_76 : decode cX10_init 76 = .ok (.iconst 2, 1) := by decide +kernel
theorem dX10_init_77 : decode cX10_init 77 = .ok (.newarray .boolean, 2) := by decide +kernel
theorem dX10_init_79 : decode cX10_init 79 = .ok (.putfield 47, 3) := by decide +kernel
theorem dX10_init_82 : decode cX10_init 82 = .ok (.aload_n 0, 1) := by decide +kernel
theorem dX10_init_83 : decode cX10_init 83 = .ok (.new 51, 3) := by decide +kernel
theorem dX10_init_86 : decode cX10_init 86 = .ok (.dup, 1) := by decide +kernel
theorem dX10_init_87 : decode cX10_init 87 = .ok (.invokespecial 53, 3) := by decide +kernel
theorem dX10_init_90 : decode cX10_init 90 = .ok (.putfield 54, 3) := by decide +kernel
theorem dX10_init_93 : decode cX10_init 93 = .ok (.aload_n 0, 1) := by decide +kernel
theorem dX10_init_94 : decode cX10_init 94 = .ok (.new 58, 3) := by decide +kernel
theorem dX10_init_97 : decode cX10_init 97 = .ok (.dup, 1) := by decide +kernel
theorem dX10_init_98 : decode cX10_init 98 = .ok (.invokespecial 60, 3) := by decide +kernel
theorem dX10_init_101 : decode cX10_init 101 = .ok (.putfield 61, 3) := by decide +kernel
theorem dX10_init_104 : decode cX10_init 104 = .ok (.aload_n 0, 1) := by decide +kernel
theorem dX10_init_105 : decode cX10_init 105 = .ok (.new 65, 3) := by decide +kernel
theorem dX10_init_108 : decode cX10_init 108 = .ok (.dup, 1) := by decide +kernel
theorem dX10_init_109 : decode cX10_init 109 = .ok (.invokespecial 67, 3) := by decide +kernel
theorem dX10_init_112 : decode cX10_init 112 = .ok (.putfield 68, 3) := by decide +kernel
theorem dX10_init_115 : decode cX10_init 115 = .ok (.aload_n 0, 1) := by decide +kernel
theorem dX10_init_116 : decode cX10_init 116 = .ok (.new 72, 3) := by decide +kernel
theorem dX10_init_119 : decode cX10_init 119 = .ok (.dup, 1) := by decide +kernel
theorem dX10_init_120 : decode cX10_init 120 = .ok (.invokespecial 74, 3) := by decide +kernel
theorem dX10_init_123 : decode cX10_init 123 = .ok (.putfield 75, 3) := by decide +kernel
theorem dX10_init_126 : decode cX10_init 126 = .ok (.aload_n 0, 1) := by decide +kernel
theorem dX10_init_127 : decode cX10_init 127 = .ok (.bipush 7, 2) := by decide +kernel
theorem dX10_init_129 : decode cX10_init 129 = .ok (.newarray .int, 2) := by decide +kernel
theorem dX10_init_131 : decode cX10_init 131 = .ok (.putfield 79, 3) := by decide +kernel
theorem dX10_init_134 : decode cX10_init 134 = .ok (.iconst 0, 1) := by decide +kernel
theorem dX10_init_135 : decode cX10_init 135 = .ok (.istore_n 1, 1) := by decide +kernel
theorem dX10_init_136 : decode cX10_init 136 = .ok (.iload_n 1, 1) := by decide +kernel
theorem dX10_init_137 : decode cX10_init 137 = .ok (.bipush 8, 2) := by decide +kernel
theorem dX10_init_139 : decode cX10_init 139 = .ok (.if_icmp .ge 22, 3) := by decide +kernel
theorem dX10_init_142 : decode cX10_init 142 = .ok (.aload_n 0, 1) := by decide +kernel
theorem dX10_init_143 : decode cX10_init 143 = .ok (.getfield 33, 3) := by decide +kernel
theorem dX10_init_146 : decode cX10_init 146 = .ok (.iload_n 1, 1) := by decide +kernel
theorem dX10_init_147 : decode cX10_init 147 = .ok (.new 23, 3) := by decide +kernel
theorem dX10_init_150 : decode cX10_init 150 = .ok (.dup, 1) := by decide +kernel
theorem dX10_init_151 : decode cX10_init 151 = .ok (.invokespecial 25, 3) := by decide +kernel
theorem dX10_init_154 : decode cX10_init 154 = .ok (.aastore, 1) := by decide +kernel
theorem dX10_init_155 : decode cX10_init 155 = .ok (.iinc 1 1, 3) := by decide +kernel
theorem dX10_init_158 : decode cX10_init 158 = .ok (.goto (-22), 3) := by decide +kernel
theorem dX10_init_161 : decode cX10_init 161 = .ok (.iconst 0, 1) := by decide +kernel
theorem dX10_init_162 : decode cX10_init 162 = .ok (.istore_n 1, 1) := by decide +kernel
theorem dX10_init_163 : decode cX10_init 163 = .ok (.iload_n 1, 1) := by decide +kernel
theorem dX10_init_164 : decode cX10_init 164 = .ok (.iconst 2, 1) := by decide +kernel
theorem dX10_init_165 : decode cX10_init 165 = .ok (.if_icmp .ge 22, 3) := by decide +kernel
theorem dX10_init_168 : decode cX10_init 168 = .ok (.aload_n 0, 1) := by decide +kernel
theorem dX10_init_169 : decode cX10_init 169 = .ok (.getfield 44, 3) := by decide +kernel
theorem dX10_init_172 : decode cX10_init 172 = .ok (.iload_n 1, 1) := by decide +kernel
theorem dX10_init_173 : decode cX10_init 173 = .ok (.new 23, 3) := by decide +kernel
theorem dX10_init_176 : decode cX10_init 176 = .ok (.dup, 1) := by decide +kernel
theorem dX10_init_177 : decode cX10_init 177 = .ok (.invokespecial 25, 3) := by decide +kernel
theorem dX10_init_180 : decode cX10_init 180 = .ok (.aastore, 1) := by decide +kernel
theorem dX10_init_181 : decode cX10_init 181 = .ok (.iinc 1 1, 3) := by decide +kernel
theorem dX10_init_184 : decode cX10_init 184 = .ok (.goto (-21), 3) := by decide +kernel
theorem dX10_init_187 : decode cX10_init 187 = .ok (.return_, 1) := by decide +kernel
theorem dX10_appendText_0 : decode cX10_appendText 0 = .ok (.aload_n 0, 1) := by decide +kernel
theorem dX10_appendText_1 : decode cX10_appendText 1 = .ok (.getfield 12, 3) := by decide +kernel
theorem dX10_appendText_4 : decode cX10_appendText 4 = .ok (.getfield 83, 3) := by decide +kernel
theorem dX10_appendText_7 : decode cX10_appendText 7 = .ok (.sipush 496, 3) := by decide +kernel
theorem dX10_appendText_10 : decode cX10_appendText 10 = .ok (.if_icmp .le 13, 3) := by decide +kernel
theorem dX10_appendText_13 : decode cX10_appendText 13 = .ok (.new 86, 3) := by decide +kernel
theorem dX10_appendText_16 : decode cX10_appendText 16 = .ok (.dup, 1) := by decide +kernel
theorem dX10_appendText_17 : decode cX10_appendText 17 = .ok (.ldc 88, 2) := by decide +kernel
theorem dX10_appendText_19 : decode cX10_appendText 19 = .ok (.invokespecial 90, 3) := by decide +kernel
theorem dX10_appendText_22 : decode cX10_appendText 22 = .ok (.athrow, 1) := by decide +kernel
theorem dX10_appendText_23 : decode cX10_appendText 23 = .ok (.aload_n 0, 1) := by decide +kernel
theorem dX10_appendText_24 : decode cX10_appendText 24 = .ok (.getfield 12, 3) := by decide +kernel
theorem dX10_appendText_27 : decode cX10_appendText 27 = .ok (.iload_n 1, 1) := by decide +kernel
theorem dX10_appendText_28 : decode cX10_appendText 28 = .ok (.invokevirtual 93, 3) := by decide +kernel
theorem dX10_appendText_31 : decode cX10_appendText 31 = .ok (.aload_n 0, 1) := by decide +kernel
theorem dX10_appendText_32 : decode cX10_appendText 32 = .ok (.getfield 12, 3) := by decide +kernel
theorem dX10_appendText_35 : decode cX10_appendText 35 = .ok (.getfield 83, 3) := by decide +kernel
theorem dX10_appendText_38 : decode cX10_appendText 38 = .ok (.ireturn, 1) := by decide +kernel
theorem dX10_truncateText_0 : decode cX10_truncateText 0 = .ok (.iload_n 1, 1) := by decide +kernel
theorem dX10_truncateText_1 : decode cX10_truncateText 1 = .ok (.iconst 0, 1) := by decide +kernel
theorem dX10_truncateText_2 : decode cX10_truncateText 2 = .ok (.aload_n 0, 1) := by decide +kernel
theorem dX10_truncateText_3 : decode cX10_truncateText 3 = .ok (.getfield 12, 3) := by decide +kernel
theorem dX10_truncateText_6 : decode cX10_truncateText 6 = .ok (.getfield 83, 3) := by decide +kernel
theorem dX10_truncateText_9 : decode cX10_truncateText 9 = .ok (.invokestatic 97, 3) := by decide +kernel
theorem dX10_truncateText_12 : decode cX10_truncateText 12 = .ok (.aload_n 0, 1) := by decide +kernel
theorem dX10_truncateText_13 : decode cX10_truncateText 13 = .ok (.getfield 12, 3) := by decide +kernel
theorem dX10_truncateText_16 : decode cX10_truncateText 16 = .ok (.iload_n 1, 1) := by decide +kernel
theorem dX10_truncateText_17 : decode cX10_truncateText 17 = .ok (.putfield 83, 3) := by decide +kernel
theorem dX10_truncateText_20 : decode cX10_truncateText 20 = .ok (.iload_n 1, 1) := by decide +kernel
theorem dX10_truncateText_21 : decode cX10_truncateText 21 = .ok (.ireturn, 1) := by decide +kernel
theorem dX10_load_0 : decode cX10_load 0 = .ok (.aload_n 0, 1) := by decide +kernel
theorem dX10_load_1 : decode cX10_load 1 = .ok (.getfield 30, 3) := by decide +kernel
theorem dX10_load_4 : decode cX10_load 4 = .ok (.getfield 101, 3) := by decide +kernel
theorem dX10_load_7 : decode cX10_load 7 = .ok (.aload_n 0, 1) := by decide +kernel
theorem dX10_load_8 : decode cX10_load 8 = .ok (.getfield 12, 3) := by decide +kernel
theorem dX10_load_11 : decode cX10_load 11 = .ok (.invokevirtual 105, 3) := by decide +kernel
theorem dX10_load_14 : decode cX10_load 14 = .ok (.istore_n 1, 1) := by decide +kernel
theorem dX10_load_15 : decode cX10_load 15 = .ok (.aload_n 0, 1) := by decide +kernel
theorem dX10_load_16 : decode cX10_load 16 = .ok (.getfield 12, 3) := by decide +kernel
theorem dX10_load_19 : decode cX10_load 19 = .ok (.iconst 0, 1) := by decide +kernel
theorem dX10_load_20 : decode cX10_load 20 = .ok (.putfield 83, 3) := by decide +kernel
theorem dX10_load_23 : decode cX10_load 23 = .ok (.iload_n 1, 1) := by decide +kernel
theorem dX10_load_24 : decode cX10_load 24 = .ok (.ifCond .ne 5, 3) := by decide +kernel
theorem dX10_load_27 : decode cX10_load 27 = .ok (.iconst (-1), 1) := by decide +kernel
theorem dX10_load_28 : decode cX10_load 28 = .ok (.ireturn, 1) := by decide +kernel
theorem dX10_load_29 : decode cX10_load 29 = .ok (.aload_n 0, 1) := by decide +kernel
theorem dX10_load_30 : decode cX10_load 30 = .ok (.getfield 30, 3) := by decide +kernel
theorem dX10_load_33 : decode cX10_load 33 = .ok (.getfield 111, 3) := by decide +kernel
theorem dX10_load_36 : decode cX10_load 36 = .ok (.invokevirtual 115, 3) := by decide +kernel
theorem dX10_load_39 : decode cX10_load 39 = .ok (.aload_n 0, 1) := by decide +kernel
theorem dX10_load_40 : decode cX10_load 40 = .ok (.getfield 30, 3) := by decide +kernel
theorem dX10_load_43 : decode cX10_load 43 = .ok (.getfield 120, 3) := by decide +kernel
theorem dX10_load_46 : decode cX10_load 46 = .ok (.invokevirtual 124, 3) := by decide +kernel
theorem dX10_load_49 : decode cX10_load 49 = .ok (.aload_n 0, 1) := by decide +kernel
theorem dX10_load_50 : decode cX10_load 50 = .ok (.getfield 26, 3) := by decide +kernel
theorem dX10_load_53 : decode cX10_load 53 = .ok (.aload_n 0, 1) := by decide +kernel
theorem dX10_load_54 : decode cX10_load 54 = .ok (.getfield 30, 3) := by decide +kernel
theorem dX10_load_57 : decode cX10_load 57 = .ok (.invokevirtual 127, 3) := by decide +kernel
theorem dX10_load_60 : decode cX10_load 60 = .ok (.aload_n 0, 1) := by decide +kernel
theorem dX10_load_61 : decode cX10_load 61 = .ok (.invokevirtual 131, 3) := by decide +kernel
theorem dX10_load_64 : decode cX10_load 64 = .ok (.aload_n 0, 1) := by decide +kernel
theorem dX10_load_65 : decode cX10_load 65 = .ok (.invokevirtual 134, 3) := by decide +kernel
theorem dX10_load_68 : decode cX10_load 68 = .ok (.aload_n 0, 1) := by decide +kernel
theorem dX10_load_69 : decode cX10_load 69 = .ok (.getfield 26, 3) := by decide +kernel
theorem dX10_load_72 : decode cX10_load 72 = .ok (.getfield 101, 3) := by decide +kernel
theorem dX10_load_75 : decode cX10_load 75 = .ok (.getfield 137, 3) := by decide +kernel
theorem dX10_load_78 : decode cX10_load 78 = .ok (.ireturn, 1) := by decide +kernel
theorem dX10_errorCode_0 : decode cX10_errorCode 0 = .ok (.aload_n 0, 1) := by decide +kernel
theorem dX10_errorCode_1 : decode cX10_errorCode 1 = .ok (.getfield 12, 3) := by decide +kernel
theorem dX10_errorCode_4 : decode cX10_errorCode 4 = .ok (.getfield 140, 3) := by decide +kernel
theorem dX10_errorCode_7 : decode cX10_errorCode 7 = .ok (.ireturn, 1) := by decide +kernel
theorem dX10_errorPosition_0 : decode cX10_errorPosition 0 = .ok (.aload_n 0, 1) := by decide +kernel
theorem dX10_errorPosition_1 : decode cX10_errorPosition 1 = .ok (.getfield 12, 3) := by decide +kernel
theorem dX10_errorPosition_4 : decode cX10_errorPosition 4 = .ok (.getfield 143, 3) := by decide +kernel
theorem dX10_errorPosition_7 : decode cX10_errorPosition 7 = .ok (.ireturn, 1) := by decide +kernel
theorem dX10_count_0 : decode cX10_count 0 = .ok (.iload_n 1, 1) := by decide +kernel
theorem dX10_count_1 : decode cX10_count 1 = .ok (.iconst 0, 1) := by decide +kernel
theorem dX10_count_2 : decode cX10_count 2 = .ok (.bipush 13, 2) := by decide +kernel
theorem dX10_count_4 : decode cX10_count 4 = .ok (.invokestatic 97, 3) := by decide +kernel
theorem dX10_count_7 : decode cX10_count 7 = .ok (.iload_n 1, 1) := by decide +kernel
theorem dX10_count_8 : decode cX10_count 8 = .ok (.tableswitch 165 0 13 #[72, 83, 94, 165, 165, 165, 165, 165, 105, 116, 127, 138, 149, 160], 72) := by decide +kernel
theorem dX10_count_80 : decode cX10_count 80 = .ok (.aload_n 0, 1) := by decide +kernel
theorem dX10_count_81 : decode cX10_count 81 = .ok (.getfield 26, 3) := by decide +kernel
theorem dX10_count_84 : decode cX10_count 84 = .ok (.getfield 101, 3) := by decide +kernel
theorem dX10_count_87 : decode cX10_count 87 = .ok (.getfield 137, 3) := by decide +kernel
theorem dX10_count_90 : decode cX10_count 90 = .ok (.ireturn, 1) := by decide +kernel
theorem dX10_count_91 : decode cX10_count 91 = .ok (.aload_n 0, 1) := by decide +kernel
theorem dX10_count_92 : decode cX10_count 92 = .ok (.getfield 26, 3) := by decide +kernel
theorem dX10_count_95 : decode cX10_count 95 = .ok (.getfield 101, 3) := by decide +kernel
theorem dX10_count_98 : decode cX10_count 98 = .ok (.getfield 146, 3) := by decide +kernel
theorem dX10_count_101 : decode cX10_count 101 = .ok (.ireturn, 1) := by decide +kernel
theorem dX10_count_102 : decode cX10_count 102 = .ok (.aload_n 0, 1) := by decide +kernel
theorem dX10_count_103 : decode cX10_count 103 = .ok (.getfield 26, 3) := by decide +kernel
theorem dX10_count_106 : decode cX10_count 106 = .ok (.getfield 101, 3) := by decide +kernel
theorem dX10_count_109 : decode cX10_count 109 = .ok (.getfield 149, 3) := by decide +kernel
theorem dX10_count_112 : decode cX10_count 112 = .ok (.ireturn, 1) := by decide +kernel
theorem dX10_count_113 : decode cX10_count 113 = .ok (.aload_n 0, 1) := by decide +kernel
theorem dX10_count_114 : decode cX10_count 114 = .ok (.getfield 26, 3) := by decide +kernel
theorem dX10_count_117 : decode cX10_count 117 = .ok (.getfield 111, 3) := by decide +kernel
theorem dX10_count_120 : decode cX10_count 120 = .ok (.invokevirtual 152, 3) := by decide +kernel
theorem dX10_count_123 : decode cX10_count 123 = .ok (.ireturn, 1) := by decide +kernel
theorem dX10_count_124 : decode cX10_count 124 = .ok (.aload_n 0, 1) := by decide +kernel
theorem dX10_count_125 : decode cX10_count 125 = .ok (.getfield 26, 3) := by decide +kernel
theorem dX10_count_128 : decode cX10_count 128 = .ok (.getfield 111, 3) := by decide +kernel
theorem dX10_count_131 : decode cX10_count 131 = .ok (.getfield 156, 3) := by decide +kernel
theorem dX10_count_134 : decode cX10_count 134 = .ok (.ireturn, 1) := by decide +kernel
theorem dX10_count_135 : decode cX10_count 135 = .ok (.aload_n 0, 1) := by decide +kernel
theorem dX10_count_136 : decode cX10_count 136 = .ok (.getfield 26, 3) := by decide +kernel
theorem dX10_count_139 : decode cX10_count 139 = .ok (.getfield 120, 3) := by decide +kernel
theorem dX10_count_142 : decode cX10_count 142 = .ok (.getfield 159, 3) := by decide +kernel
theorem dX10_count_145 : decode cX10_count 145 = .ok (.ireturn, 1) := by decide +kernel
theorem dX10_count_146 : decode cX10_count 146 = .ok (.aload_n 0, 1) := by decide +kernel
theorem dX10_count_147 : decode cX10_count 147 = .ok (.getfield 26, 3) := by decide +kernel
theorem dX10_count_150 : decode cX10_count 150 = .ok (.getfield 120, 3) := by decide +kernel
theorem dX10_count_153 : decode cX10_count 153 = .ok (.invokevirtual 162, 3) := by decide +kernel
theorem dX10_count_156 : decode cX10_count 156 = .ok (.ireturn, 1) := by decide +kernel
theorem dX10_count_157 : decode cX10_count 157 = .ok (.aload_n 0, 1) := by decide +kernel
theorem dX10_count_158 : decode cX10_count 158 = .ok (.getfield 26, 3) := by decide +kernel
theorem dX10_count_161 : decode cX10_count 161 = .ok (.getfield 120, 3) := by decide +kernel
theorem dX10_count_164 : decode cX10_count 164 = .ok (.invokevirtual 165, 3) := by decide +kernel
theorem dX10_count_167 : decode cX10_count 167 = .ok (.ireturn, 1) := by decide +kernel
theorem dX10_count_168 : decode cX10_count 168 = .ok (.aload_n 0, 1) := by decide +kernel
theorem dX10_count_169 : decode cX10_count 169 = .ok (.getfield 37, 3) := by decide +kernel
theorem dX10_count_172 : decode cX10_count 172 = .ok (.ireturn, 1) := by decide +kernel
theorem dX10_count_173 : decode cX10_count 173 = .ok (.aload_n 0, 1) := by decide +kernel
theorem dX10_count_174 : decode cX10_count 174 = .ok (.getfield 26, 3) := by decide +kernel
theorem dX10_count_177 : decode cX10_count 177 = .ok (.getfield 101, 3) := by decide +kernel
theorem dX10_count_180 : decode cX10_count 180 = .ok (.iload_n 1, 1) := by decide +kernel
theorem dX10_count_181 : decode cX10_count 181 = .ok (.iconst 3, 1) := by decide +kernel
theorem dX10_count_182 : decode cX10_count 182 = .ok (.isub, 1) := by decide +kernel
theorem dX10_count_183 : decode cX10_count 183 = .ok (.invokevirtual 168, 3) := by decide +kernel
theorem dX10_count_186 : decode cX10_count 186 = .ok (.ireturn, 1) := by decide +kernel
theorem dX10_shot_0 : decode cX10_shot 0 = .ok (.iload_n 1, 1) := by decide +kernel
theorem dX10_shot_1 : decode cX10_shot 1 = .ok (.aload_n 0, 1) := by decide +kernel
theorem dX10_shot_2 : decode cX10_shot 2 = .ok (.getfield 26, 3) := by decide +kernel
theorem dX10_shot_5 : decode cX10_shot 5 = .ok (.getfield 101, 3) := by decide +kernel
theorem dX10_shot_8 : decode cX10_shot 8 = .ok (.getfield 137, 3) := by decide +kernel
theorem dX10_shot_11 : decode cX10_shot 11 = .ok (.invokestatic 172, 3) := by decide +kernel
theorem dX10_shot_14 : decode cX10_shot 14 = .ok (.iload_n 2, 1) := by decide +kernel
theorem dX10_shot_15 : decode cX10_shot 15 = .ok (.iconst 0, 1) := by decide +kernel
theorem dX10_shot_16 : decode cX10_shot 16 = .ok (.iconst 4, 1) := by decide +kernel
theorem dX10_shot_17 : decode cX10_shot 17 = .ok (.invokestatic 97, 3) := by decide +kernel
theorem dX10_shot_20 : decode cX10_shot 20 = .ok (.iload_n 2, 1) := by decide +kernel
theorem dX10_shot_21 : decode cX10_shot 21 = .ok (.tableswitch 79 0 3 #[31, 43, 55, 69], 31) := by decide +kernel
theorem dX10_shot_52 : decode cX10_shot 52 = .ok (.aload_n 0, 1) := by decide +kernel
theorem dX10_shot_53 : decode cX10_shot 53 = .ok (.getfield 26, 3) := by decide +kernel
theorem dX10_shot_56 : decode cX10_shot 56 = .ok (.getfield 101, 3) := by decide +kernel
theorem dX10_shot_59 : decode cX10_shot 59 = .ok (.iload_n 1, 1) := by decide +kernel
theorem dX10_shot_60 : decode cX10_shot 60 = .ok (.invokevirtual 176, 3) := by decide +kernel
theorem dX10_shot_63 : decode cX10_shot 63 = .ok (.ireturn, 1) := by decide +kernel
theorem dX10_shot_64 : decode cX10_shot 64 = .ok (.aload_n 0, 1) := by decide +kernel
theorem dX10_shot_65 : decode cX10_shot 65 = .ok (.getfield 26, 3) := by decide +kernel
theorem dX10_shot_68 : decode cX10_shot 68 = .ok (.getfield 101, 3) := by decide +kernel
theorem dX10_shot_71 : decode cX10_shot 71 = .ok (.iload_n 1, 1) := by decide +kernel
theorem dX10_shot_72 : decode cX10_shot 72 = .ok (.invokevirtual 179, 3) := by decide +kernel
theorem dX10_shot_75 : decode cX10_shot 75 = .ok (.ireturn, 1) := by decide +kernel
theorem dX10_shot_76 : decode cX10_shot 76 = .ok (.aload_n 0, 1) := by decide +kernel
theorem dX10_shot_77 : decode cX10_shot 77 = .ok (.iload_n 1, 1) := by decide +kernel
theorem dX10_shot_78 : decode cX10_shot 78 = .ok (.invokevirtual 182, 3) := by decide +kernel
theorem dX10_shot_81 : decode cX10_shot 81 = .ok (.ifCond .eq 7, 3) := by decide +kernel
theorem dX10_shot_84 : decode cX10_shot 84 = .ok (.iconst 1, 1) := by decide +kernel
theorem dX10_shot_85 : decode cX10_shot 85 = .ok (.goto 4, 3) := by decide +kernel
theorem dX10_shot_88 : decode cX10_shot 88 = .ok (.iconst 0, 1) := by decide +kernel
theorem dX10_shot_89 : decode cX10_shot 89 = .ok (.ireturn, 1) := by decide +kernel
theorem dX10_shot_90 : decode cX10_shot 90 = .ok (.aload_n 0, 1) := by decide +kernel
theorem dX10_shot_91 : decode cX10_shot 91 = .ok (.getfield 54, 3) := by decide +kernel
theorem dX10_shot_94 : decode cX10_shot 94 = .ok (.iconst 0, 1) := by decide +kernel
theorem dX10_shot_95 : decode cX10_shot 95 = .ok (.iload_n 1, 1) := by decide +kernel
theorem dX10_shot_96 : decode cX10_shot 96 = .ok (.invokevirtual 186, 3) := by decide +kernel
theorem dX10_shot_99 : decode cX10_shot 99 = .ok (.ireturn, 1) := by decide +kernel
theorem dX10_shot_100 : decode cX10_shot 100 = .ok (.aload_n 0, 1) := by decide +kernel
theorem dX10_shot_101 : decode cX10_shot 101 = .ok (.getfield 54, 3) := by decide +kernel
theorem dX10_shot_104 : decode cX10_shot 104 = .ok (.iconst 0, 1) := by decide +kernel
theorem dX10_shot_105 : decode cX10_shot 105 = .ok (.iload_n 1, 1) := by decide +kernel
theorem dX10_shot_106 : decode cX10_shot 106 = .ok (.invokevirtual 190, 3) := by decide +kernel
theorem dX10_shot_109 : decode cX10_shot 109 = .ok (.ireturn, 1) := by decide +kernel
theorem dX10_map_0 : decode cX10_map 0 = .ok (.iload_n 1, 1) := by decide +kernel
theorem dX10_map_1 : decode cX10_map 1 = .ok (.aload_n 0, 1) := by decide +kernel
theorem dX10_map_2 : decode cX10_map 2 = .ok (.getfield 26, 3) := by decide +kernel
theorem dX10_map_5 : decode cX10_map 5 = .ok (.getfield 101, 3) := by decide +kernel
theorem dX10_map_8 : decode cX10_map 8 = .ok (.getfield 146, 3) := by decide +kernel
theorem dX10_map_11 : decode cX10_map 11 = .ok (.invokestatic 172, 3) := by decide +kernel
theorem dX10_map_14 : decode cX10_map 14 = .ok (.iload_n 2, 1) := by decide +kernel
theorem dX10_map_15 : decode cX10_map 15 = .ok (.iconst 0, 1) := by decide +kernel
theorem dX10_map_16 : decode cX10_map 16 = .ok (.iconst 3, 1) := by decide +kernel
theorem dX10_map_17 : decode cX10_map 17 = .ok (.invokestatic 97, 3) := by decide +kernel
theorem dX10_map_20 : decode cX10_map 20 = .ok (.iload_n 2, 1) := by decide +kernel
theorem dX10_map_21 : decode cX10_map 21 = .ok (.tableswitch 58 0 2 #[27, 39, 48], 27) := by decide +kernel
theorem dX10_map_48 : decode cX10_map 48 = .ok (.aload_n 0, 1) := by decide +kernel
theorem dX10_map_49 : decode cX10_map 49 = .ok (.getfield 26, 3) := by decide +kernel
theorem dX10_map_52 : decode cX10_map 52 = .ok (.getfield 101, 3) := by decide +kernel
theorem dX10_map_55 : decode cX10_map 55 = .ok (.iload_n 1, 1) := by decide +kernel
theorem dX10_map_56 : decode cX10_map 56 = .ok (.invokevirtual 193, 3) := by decide +kernel
theorem dX10_map_59 : decode cX10_map 59 = .ok (.ireturn, 1) := by decide +kernel
theorem dX10_map_60 : decode cX10_map 60 = .ok (.aload_n 0, 1) := by decide +kernel
theorem dX10_map_61 : decode cX10_map 61 = .ok (.getfield 61, 3) := by decide +kernel
theorem dX10_map_64 : decode cX10_map 64 = .ok (.iload_n 1, 1) := by decide +kernel
theorem dX10_map_65 : decode cX10_map 65 = .ok (.invokevirtual 196, 3) := by decide +kernel
theorem dX10_map_68 : decode cX10_map 68 = .ok (.ireturn, 1) := by decide +kernel
theorem dX10_map_69 : decode cX10_map 69 = .ok (.aload_n 0, 1) := by decide +kernel
theorem dX10_map_70 : decode cX10_map 70 = .ok (.getfield 54, 3) := by decide +kernel
theorem dX10_map_73 : decode cX10_map 73 = .ok (.iconst 1, 1) := by decide +kernel
theorem dX10_map_74 : decode cX10_map 74 = .ok (.iload_n 1, 1) := by decide +kernel
theorem dX10_map_75 : decode cX10_map 75 = .ok (.invokevirtual 186, 3) := by decide +kernel
theorem dX10_map_78 : decode cX10_map 78 = .ok (.ireturn, 1) := by decide +kernel
theorem dX10_map_79 : decode cX10_map 79 = .ok (.aload_n 0, 1) := by decide +kernel
theorem dX10_map_80 : decode cX10_map 80 = .ok (.iload_n 1, 1) := by decide +kernel
theorem dX10_map_81 : decode cX10_map 81 = .ok (.invokevirtual 198, 3) := by decide +kernel
theorem dX10_map_84 : decode cX10_map 84 = .ok (.ireturn, 1) := by decide +kernel
theorem dX10_ban_0 : decode cX10_ban 0 = .ok (.iload_n 1, 1) := by decide +kernel
theorem dX10_ban_1 : decode cX10_ban 1 = .ok (.aload_n 0, 1) := by decide +kernel
theorem dX10_ban_2 : decode cX10_ban 2 = .ok (.getfield 26, 3) := by decide +kernel
theorem dX10_ban_5 : decode cX10_ban 5 = .ok (.getfield 101, 3) := by decide +kernel
theorem dX10_ban_8 : decode cX10_ban 8 = .ok (.getfield 149, 3) := by decide +kernel
theorem dX10_ban_11 : decode cX10_ban 11 = .ok (.invokestatic 172, 3) := by decide +kernel
theorem dX10_ban_14 : decode cX10_ban 14 = .ok (.iload_n 2, 1) := by decide +kernel
theorem dX10_ban_15 : decode cX10_ban 15 = .ok (.iconst 0, 1) := by decide +kernel
theorem dX10_ban_16 : decode cX10_ban 16 = .ok (.iconst 3, 1) := by decide +kernel
theorem dX10_ban_17 : decode cX10_ban 17 = .ok (.invokestatic 97, 3) := by decide +kernel
theorem dX10_ban_20 : decode cX10_ban 20 = .ok (.iload_n 2, 1) := by decide +kernel
theorem dX10_ban_21 : decode cX10_ban 21 = .ok (.tableswitch 66 0 2 #[27, 40, 53], 27) := by decide +kernel
theorem dX10_ban_48 : decode cX10_ban 48 = .ok (.aload_n 0, 1) := by decide +kernel
theorem dX10_ban_49 : decode cX10_ban 49 = .ok (.getfield 26, 3) := by decide +kernel
theorem dX10_ban_52 : decode cX10_ban 52 = .ok (.getfield 101, 3) := by decide +kernel
theorem dX10_ban_55 : decode cX10_ban 55 = .ok (.getfield 201, 3) := by decide +kernel
theorem dX10_ban_58 : decode cX10_ban 58 = .ok (.iload_n 1, 1) := by decide +kernel
theorem dX10_ban_59 : decode cX10_ban 59 = .ok (.iaload, 1) := by decide +kernel
theorem dX10_ban_60 : decode cX10_ban 60 = .ok (.ireturn, 1) := by decide +kernel
theorem dX10_ban_61 : decode cX10_ban 61 = .ok (.aload_n 0, 1) := by decide +kernel
theorem dX10_ban_62 : decode cX10_ban 62 = .ok (.getfield 26, 3) := by decide +kernel
theorem dX10_ban_65 : decode cX10_ban 65 = .ok (.getfield 101, 3) := by decide +kernel
theorem dX10_ban_68 : decode cX10_ban 68 = .ok (.getfield 204, 3) := by decide +kernel
theorem dX10_ban_71 : decode cX10_ban 71 = .ok (.iload_n 1, 1) := by decide +kernel
theorem dX10_ban_72 : decode cX10_ban 72 = .ok (.iaload, 1) := by decide +kernel
theorem dX10_ban_73 : decode cX10_ban 73 = .ok (.ireturn, 1) := by decide +kernel
theorem dX10_ban_74 : decode cX10_ban 74 = .ok (.aload_n 0, 1) := by decide +kernel
theorem dX10_ban_75 : decode cX10_ban 75 = .ok (.getfield 26, 3) := by decide +kernel
theorem dX10_ban_78 : decode cX10_ban 78 = .ok (.getfield 101, 3) := by decide +kernel
theorem dX10_ban_81 : decode cX10_ban 81 = .ok (.getfield 207, 3) := by decide +kernel
theorem dX10_ban_84 : decode cX10_ban 84 = .ok (.iload_n 1, 1) := by decide +kernel
theorem dX10_ban_85 : decode cX10_ban 85 = .ok (.iaload, 1) := by decide +kernel
theorem dX10_ban_86 : decode cX10_ban 86 = .ok (.ireturn, 1) := by decide +kernel
theorem dX10_ban_87 : decode cX10_ban 87 = .ok (.aload_n 0, 1) := by decide +kernel
theorem dX10_ban_88 : decode cX10_ban 88 = .ok (.getfield 26, 3) := by decide +kernel
theorem dX10_ban_91 : decode cX10_ban 91 = .ok (.getfield 101, 3) := by decide +kernel
theorem dX10_ban_94 : decode cX10_ban 94 = .ok (.aload_n 0, 1) := by decide +kernel
theorem dX10_ban_95 : decode cX10_ban 95 = .ok (.getfield 26, 3) := by decide +kernel
theorem dX10_ban_98 : decode cX10_ban 98 = .ok (.getfield 101, 3) := by decide +kernel
theorem dX10_ban_101 : decode cX10_ban 101 = .ok (.getfield 201, 3) := by decide +kernel
theorem dX10_ban_104 : decode cX10_ban 104 = .ok (.iload_n 1, 1) := by decide +kernel
theorem dX10_ban_105 : decode cX10_ban 105 = .ok (.iaload, 1) := by decide +kernel
theorem dX10_ban_106 : decode cX10_ban 106 = .ok (.invokevirtual 210, 3) := by decide +kernel
theorem dX10_ban_109 : decode cX10_ban 109 = .ok (.ireturn, 1) := by decide +kernel
theorem dX10_word_0 : decode cX10_word 0 = .ok (.iload_n 1, 1) := by decide +kernel
theorem dX10_word_1 : decode cX10_word 1 = .ok (.aload_n 0, 1) := by decide +kernel
theorem dX10_word_2 : decode cX10_word 2 = .ok (.getfield 26, 3) := by decide +kernel
theorem dX10_word_5 : decode cX10_word 5 = .ok (.getfield 120, 3) := by decide +kernel
theorem dX10_word_8 : decode cX10_word 8 = .ok (.getfield 159, 3) := by decide +kernel
theorem dX10_word_11 : decode cX10_word 11 = .ok (.invokestatic 172, 3) := by decide +kernel
theorem dX10_word_14 : decode cX10_word 14 = .ok (.iload_n 2, 1) := by decide +kernel
theorem dX10_word_15 : decode cX10_word 15 = .ok (.iconst 0, 1) := by decide +kernel
theorem dX10_word_16 : decode cX10_word 16 = .ok (.iconst 5, 1) := by decide +kernel
theorem dX10_word_17 : decode cX10_word 17 = .ok (.invokestatic 97, 3) := by decide +kernel
theorem dX10_word_20 : decode cX10_word 20 = .ok (.iload_n 2, 1) := by decide +kernel
theorem dX10_word_21 : decode cX10_word 21 = .ok (.tableswitch 91 0 4 #[35, 48, 61, 71, 81], 35) := by decide +kernel
theorem dX10_word_56 : decode cX10_word 56 = .ok (.aload_n 0, 1) := by decide +kernel
theorem dX10_word_57 : decode cX10_word 57 = .ok (.getfield 26, 3) := by decide +kernel
theorem dX10_word_60 : decode cX10_word 60 = .ok (.getfield 120, 3) := by decide +kernel
theorem dX10_word_63 : decode cX10_word 63 = .ok (.getfield 213, 3) := by decide +kernel
theorem dX10_word_66 : decode cX10_word 66 = .ok (.iload_n 1, 1) := by decide +kernel
theorem dX10_word_67 : decode cX10_word 67 = .ok (.iaload, 1) := by decide +kernel
theorem dX10_word_68 : decode cX10_word 68 = .ok (.ireturn, 1) := by decide +kernel
theorem dX10_word_69 : decode cX10_word 69 = .ok (.aload_n 0, 1) := by decide +kernel
theorem dX10_word_70 : decode cX10_word 70 = .ok (.getfield 26, 3) := by decide +kernel
theorem dX10_word_73 : decode cX10_word 73 = .ok (.getfield 120, 3) := by decide +kernel
theorem dX10_word_76 : decode cX10_word 76 = .ok (.getfield 216, 3) := by decide +kernel
theorem dX10_word_79 : decode cX10_word 79 = .ok (.iload_n 1, 1) := by decide +kernel
theorem dX10_word_80 : decode cX10_word 80 = .ok (.iaload, 1) := by decide +kernel
theorem dX10_word_81 : decode cX10_word 81 = .ok (.ireturn, 1) := by decide +kernel
theorem dX10_word_82 : decode cX10_word 82 = .ok (.aload_n 0, 1) := by decide +kernel
theorem dX10_word_83 : decode cX10_word 83 = .ok (.getfield 61, 3) := by decide +kernel
theorem dX10_word_86 : decode cX10_word 86 = .ok (.getfield 219, 3) := by decide +kernel
theorem dX10_word_89 : decode cX10_word 89 = .ok (.iload_n 1, 1) := by decide +kernel
theorem dX10_word_90 : decode cX10_word 90 = .ok (.iaload, 1) := by decide +kernel
theorem dX10_word_91 : decode cX10_word 91 = .ok (.ireturn, 1) := by decide +kernel
theorem dX10_word_92 : decode cX10_word 92 = .ok (.aload_n 0, 1) := by decide +kernel
theorem dX10_word_93 : decode cX10_word 93 = .ok (.getfield 61, 3) := by decide +kernel
theorem dX10_word_96 : decode cX10_word 96 = .ok (.getfield 222, 3) := by decide +kernel
theorem dX10_word_99 : decode cX10_word 99 = .ok (.iload_n 1, 1) := by decide +kernel
theorem dX10_word_100 : decode cX10_word 100 = .ok (.iaload, 1) := by decide +kernel
theorem dX10_word_101 : decode cX10_word 101 = .ok (.ireturn, 1) := by decide +kernel
theorem dX10_word_102 : decode cX10_word 102 = .ok (.aload_n 0, 1) := by decide +kernel
theorem dX10_word_103 : decode cX10_word 103 = .ok (.getfield 61, 3) := by decide +kernel
theorem dX10_word_106 : decode cX10_word 106 = .ok (.getfield 225, 3) := by decide +kernel
theorem dX10_word_109 : decode cX10_word 109 = .ok (.iload_n 1, 1) := by decide +kernel
theorem dX10_word_110 : decode cX10_word 110 = .ok (.iaload, 1) := by decide +kernel
theorem dX10_word_111 : decode cX10_word 111 = .ok (.ireturn, 1) := by decide +kernel
theorem dX10_word_112 : decode cX10_word 112 = .ok (.aload_n 0, 1) := by decide +kernel
theorem dX10_word_113 : decode cX10_word 113 = .ok (.getfield 26, 3) := by decide +kernel
theorem dX10_word_116 : decode cX10_word 116 = .ok (.getfield 120, 3) := by decide +kernel
theorem dX10_word_119 : decode cX10_word 119 = .ok (.iload_n 1, 1) := by decide +kernel
theorem dX10_word_120 : decode cX10_word 120 = .ok (.invokevirtual 227, 3) := by decide +kernel
theorem dX10_word_123 : decode cX10_word 123 = .ok (.ireturn, 1) := by decide +kernel
theorem dX10_piece_0 : decode cX10_piece 0 = .ok (.iload_n 1, 1) := by decide +kernel
theorem dX10_piece_1 : decode cX10_piece 1 = .ok (.aload_n 0, 1) := by decide +kernel
theorem dX10_piece_2 : decode cX10_piece 2 = .ok (.getfield 54, 3) := by decide +kernel
theorem dX10_piece_5 : decode cX10_piece 5 = .ok (.getfield 230, 3) := by decide +kernel
theorem dX10_piece_8 : decode cX10_piece 8 = .ok (.invokestatic 172, 3) := by decide +kernel
theorem dX10_piece_11 : decode cX10_piece 11 = .ok (.iload_n 2, 1) := by decide +kernel
theorem dX10_piece_12 : decode cX10_piece 12 = .ok (.iconst 0, 1) := by decide +kernel
theorem dX10_piece_13 : decode cX10_piece 13 = .ok (.bipush 6, 2) := by decide +kernel
theorem dX10_piece_15 : decode cX10_piece 15 = .ok (.invokestatic 97, 3) := by decide +kernel
theorem dX10_piece_18 : decode cX10_piece 18 = .ok (.iload_n 2, 1) := by decide +kernel
theorem dX10_piece_19 : decode cX10_piece 19 = .ok (.tableswitch 96 0 5 #[37, 47, 57, 67, 77, 87], 37) := by decide +kernel
theorem dX10_piece_56 : decode cX10_piece 56 = .ok (.aload_n 0, 1) := by decide +kernel
theorem dX10_piece_57 : decode cX10_piece 57 = .ok (.getfield 54, 3) := by decide +kernel
theorem dX10_piece_60 : decode cX10_piece 60 = .ok (.getfield 231, 3) := by decide +kernel
theorem dX10_piece_63 : decode cX10_piece 63 = .ok (.iload_n 1, 1) := by decide +kernel
theorem dX10_piece_64 : decode cX10_piece 64 = .ok (.iaload, 1) := by decide +kernel
theorem dX10_piece_65 : decode cX10_piece 65 = .ok (.ireturn, 1) := by decide +kernel
theorem dX10_piece_66 : decode cX10_piece 66 = .ok (.aload_n 0, 1) := by decide +kernel
theorem dX10_piece_67 : decode cX10_piece 67 = .ok (.getfield 54, 3) := by decide +kernel
theorem dX10_piece_70 : decode cX10_piece 70 = .ok (.getfield 234, 3) := by decide +kernel
theorem dX10_piece_73 : decode cX10_piece 73 = .ok (.iload_n 1, 1) := by decide +kernel
theorem dX10_piece_74 : decode cX10_piece 74 = .ok (.iaload, 1) := by decide +kernel
theorem dX10_piece_75 : decode cX10_piece 75 = .ok (.ireturn, 1) := by decide +kernel
theorem dX10_piece_76 : decode cX10_piece 76 = .ok (.aload_n 0, 1) := by decide +kernel
theorem dX10_piece_77 : decode cX10_piece 77 = .ok (.getfield 54, 3) := by decide +kernel
theorem dX10_piece_80 : decode cX10_piece 80 = .ok (.getfield 237, 3) := by decide +kernel
theorem dX10_piece_83 : decode cX10_piece 83 = .ok (.iload_n 1, 1) := by decide +kernel
theorem dX10_piece_84 : decode cX10_piece 84 = .ok (.iaload, 1) := by decide +kernel
theorem dX10_piece_85 : decode cX10_piece 85 = .ok (.ireturn, 1) := by decide +kernel
theorem dX10_piece_86 : decode cX10_piece 86 = .ok (.aload_n 0, 1) := by decide +kernel
theorem dX10_piece_87 : decode cX10_piece 87 = .ok (.getfield 54, 3) := by decide +kernel
theorem dX10_piece_90 : decode cX10_piece 90 = .ok (.getfield 240, 3) := by decide +kernel
theorem dX10_piece_93 : decode cX10_piece 93 = .ok (.iload_n 1, 1) := by decide +kernel
theorem dX10_piece_94 : decode cX10_piece 94 = .ok (.iaload, 1) := by decide +kernel
theorem dX10_piece_95 : decode cX10_piece 95 = .ok (.ireturn, 1) := by decide +kernel
theorem dX10_piece_96 : decode cX10_piece 96 = .ok (.aload_n 0, 1) := by decide +kernel
theorem dX10_piece_97 : decode cX10_piece 97 = .ok (.getfield 54, 3) := by decide +kernel
theorem dX10_piece_100 : decode cX10_piece 100 = .ok (.getfield 243, 3) := by decide +kernel
theorem dX10_piece_103 : decode cX10_piece 103 = .ok (.iload_n 1, 1) := by decide +kernel
theorem dX10_piece_104 : decode cX10_piece 104 = .ok (.iaload, 1) := by decide +kernel
theorem dX10_piece_105 : decode cX10_piece 105 = .ok (.ireturn, 1) := by decide +kernel
theorem dX10_piece_106 : decode cX10_piece 106 = .ok (.aload_n 0, 1) := by decide +kernel
theorem dX10_piece_107 : decode cX10_piece 107 = .ok (.getfield 54, 3) := by decide +kernel
theorem dX10_piece_110 : decode cX10_piece 110 = .ok (.iload_n 1, 1) := by decide +kernel
theorem dX10_piece_111 : decode cX10_piece 111 = .ok (.invokevirtual 244, 3) := by decide +kernel
theorem dX10_piece_114 : decode cX10_piece 114 = .ok (.ireturn, 1) := by decide +kernel
theorem dX10_piece_115 : decode cX10_piece 115 = .ok (.aload_n 0, 1) := by decide +kernel
theorem dX10_piece_116 : decode cX10_piece 116 = .ok (.getfield 54, 3) := by decide +kernel
theorem dX10_piece_119 : decode cX10_piece 119 = .ok (.getfield 247, 3) := by decide +kernel
theorem dX10_piece_122 : decode cX10_piece 122 = .ok (.iload_n 1, 1) := by decide +kernel
theorem dX10_piece_123 : decode cX10_piece 123 = .ok (.iaload, 1) := by decide +kernel
theorem dX10_piece_124 : decode cX10_piece 124 = .ok (.ireturn, 1) := by decide +kernel
theorem dX10_reel_0 : decode cX10_reel 0 = .ok (.iload_n 1, 1) := by decide +kernel
theorem dX10_reel_1 : decode cX10_reel 1 = .ok (.iconst 0, 1) := by decide +kernel
theorem dX10_reel_2 : decode cX10_reel 2 = .ok (.bipush 6, 2) := by decide +kernel
theorem dX10_reel_4 : decode cX10_reel 4 = .ok (.invokestatic 97, 3) := by decide +kernel
theorem dX10_reel_7 : decode cX10_reel 7 = .ok (.iload_n 1, 1) := by decide +kernel
theorem dX10_reel_8 : decode cX10_reel 8 = .ok (.tableswitch 99 0 5 #[40, 48, 56, 64, 80, 91], 40) := by decide +kernel
theorem dX10_reel_48 : decode cX10_reel 48 = .ok (.aload_n 0, 1) := by decide +kernel
theorem dX10_reel_49 : decode cX10_reel 49 = .ok (.getfield 54, 3) := by decide +kernel
theorem dX10_reel_52 : decode cX10_reel 52 = .ok (.getfield 230, 3) := by decide +kernel
theorem dX10_reel_55 : decode cX10_reel 55 = .ok (.ireturn, 1) := by decide +kernel
theorem dX10_reel_56 : decode cX10_reel 56 = .ok (.aload_n 0, 1) := by decide +kernel
theorem dX10_reel_57 : decode cX10_reel 57 = .ok (.getfield 54, 3) := by decide +kernel
theorem dX10_reel_60 : decode cX10_reel 60 = .ok (.getfield 250, 3) := by decide +kernel
theorem dX10_reel_63 : decode cX10_reel 63 = .ok (.ireturn, 1) := by decide +kernel
theorem dX10_reel_64 : decode cX10_reel 64 = .ok (.aload_n 0, 1) := by decide +kernel
theorem dX10_reel_65 : decode cX10_reel 65 = .ok (.getfield 61, 3) := by decide +kernel
theorem dX10_reel_68 : decode cX10_reel 68 = .ok (.getfield 253, 3) := by decide +kernel
theorem dX10_reel_71 : decode cX10_reel 71 = .ok (.ireturn, 1) := by decide +kernel
theorem dX10_reel_72 : decode cX10_reel 72 = .ok (.aload_n 0, 1) := by decide +kernel
theorem dX10_reel_73 : decode cX10_reel 73 = .ok (.getfield 54, 3) := by decide +kernel
theorem dX10_reel_76 : decode cX10_reel 76 = .ok (.getfield 250, 3) := by decide +kernel
theorem dX10_reel_79 : decode cX10_reel 79 = .ok (.aload_n 0, 1) := by decide +kernel
theorem dX10_reel_80 : decode cX10_reel 80 = .ok (.getfield 61, 3) := by decide +kernel
theorem dX10_reel_83 : decode cX10_reel 83 = .ok (.getfield 253, 3) := by decide +kernel
theorem dX10_reel_86 : decode cX10_reel 86 = .ok (.isub, 1) := by decide +kernel
theorem dX10_reel_87 : decode cX10_reel 87 = .ok (.ireturn, 1) := by decide +kernel
theorem dX10_reel_88 : decode cX10_reel 88 = .ok (.aload_n 0, 1) := by decide +kernel
theorem dX10_reel_89 : decode cX10_reel 89 = .ok (.getfield 26, 3) := by decide +kernel
theorem dX10_reel_92 : decode cX10_reel 92 = .ok (.getfield 111, 3) := by decide +kernel
theorem dX10_reel_95 : decode cX10_reel 95 = .ok (.invokevirtual 254, 3) := by decide +kernel
theorem dX10_reel_98 : decode cX10_reel 98 = .ok (.ireturn, 1) := by decide +kernel
theorem dX10_reel_99 : decode cX10_reel 99 = .ok (.aload_n 0, 1) := by decide +kernel
theorem dX10_reel_100 : decode cX10_reel 100 = .ok (.getfield 54, 3) := by decide +kernel
theorem dX10_reel_103 : decode cX10_reel 103 = .ok (.invokevirtual 257, 3) := by decide +kernel
theorem dX10_reel_106 : decode cX10_reel 106 = .ok (.ireturn, 1) := by decide +kernel
theorem dX10_reel_107 : decode cX10_reel 107 = .ok (.aload_n 0, 1) := by decide +kernel
theorem dX10_reel_108 : decode cX10_reel 108 = .ok (.getfield 54, 3) := by decide +kernel
theorem dX10_reel_111 : decode cX10_reel 111 = .ok (.invokevirtual 260, 3) := by decide +kernel
theorem dX10_reel_114 : decode cX10_reel 114 = .ok (.ireturn, 1) := by decide +kernel
theorem dX10_screen_0 : decode cX10_screen 0 = .ok (.aload_n 0, 1) := by decide +kernel
theorem dX10_screen_1 : decode cX10_screen 1 = .ok (.getfield 54, 3) := by decide +kernel
theorem dX10_screen_4 : decode cX10_screen 4 = .ok (.iload_n 1, 1) := by decide +kernel
theorem dX10_screen_5 : decode cX10_screen 5 = .ok (.invokevirtual 263, 3) := by decide +kernel
theorem dX10_screen_8 : decode cX10_screen 8 = .ok (.ireturn, 1) := by decide +kernel
theorem dX10_spoken_0 : decode cX10_spoken 0 = .ok (.aload_n 0, 1) := by decide +kernel
theorem dX10_spoken_1 : decode cX10_spoken 1 = .ok (.getfield 61, 3) := by decide +kernel
theorem dX10_spoken_4 : decode cX10_spoken 4 = .ok (.iload_n 1, 1) := by decide +kernel
theorem dX10_spoken_5 : decode cX10_spoken 5 = .ok (.invokevirtual 266, 3) := by decide +kernel
theorem dX10_spoken_8 : decode cX10_spoken 8 = .ok (.ireturn, 1) := by decide +kernel
theorem dX10_account_0 : decode cX10_account 0 = .ok (.iload_n 1, 1) := by decide +kernel
theorem dX10_account_1 : decode cX10_account 1 = .ok (.iconst 0, 1) := by decide +kernel
theorem dX10_account_2 : decode cX10_account 2 = .ok (.bipush 6, 2) := by decide +kernel
theorem dX10_account_4 : decode cX10_account 4 = .ok (.invokestatic 97, 3) := by decide +kernel
theorem dX10_account_7 : decode cX10_account 7 = .ok (.aload_n 0, 1) := by decide +kernel
theorem dX10_account_8 : decode cX10_account 8 = .ok (.getfield 79, 3) := by decide +kernel
theorem dX10_account_11 : decode cX10_account 11 = .ok (.iload_n 1, 1) := by decide +kernel
theorem dX10_account_12 : decode cX10_account 12 = .ok (.iaload, 1) := by decide +kernel
theorem dX10_account_13 : decode cX10_account 13 = .ok (.ireturn, 1) := by decide +kernel
theorem dX10_faults_0 : decode cX10_faults 0 = .ok (.iload_n 1, 1) := by decide +kernel
theorem dX10_faults_1 : decode cX10_faults 1 = .ok (.iconst 0, 1) := by decide +kernel
theorem dX10_faults_2 : decode cX10_faults 2 = .ok (.iconst 5, 1) := by decide +kernel
theorem dX10_faults_3 : decode cX10_faults 3 = .ok (.invokestatic 97, 3) := by decide +kernel
theorem dX10_faults_6 : decode cX10_faults 6 = .ok (.aload_n 0, 1) := by decide +kernel
theorem dX10_faults_7 : decode cX10_faults 7 = .ok (.getfield 68, 3) := by decide +kernel
theorem dX10_faults_10 : decode cX10_faults 10 = .ok (.aload_n 0, 1) := by decide +kernel
theorem dX10_faults_11 : decode cX10_faults 11 = .ok (.getfield 26, 3) := by decide +kernel
theorem dX10_faults_14 : decode cX10_faults 14 = .ok (.aload_n 0, 1) := by decide +kernel
theorem dX10_faults_15 : decode cX10_faults 15 = .ok (.getfield 54, 3) := by decide +kernel
theorem dX10_faults_18 : decode cX10_faults 18 = .ok (.aload_n 0, 1) := by decide +kernel
theorem dX10_faults_19 : decode cX10_faults 19 = .ok (.getfield 61, 3) := by decide +kernel
theorem dX10_faults_22 : decode cX10_faults 22 = .ok (.invokevirtual 269, 3) := by decide +kernel
theorem dX10_faults_25 : decode cX10_faults 25 = .ok (.iload_n 1, 1) := by decide +kernel
theorem dX10_faults_26 : decode cX10_faults 26 = .ok (.ifCond .ne 13, 3) := by decide +kernel
theorem dX10_faults_29 : decode cX10_faults 29 = .ok (.aload_n 0, 1) := by decide +kernel
theorem dX10_faults_30 : decode cX10_faults 30 = .ok (.getfield 68, 3) := by decide +kernel
theorem dX10_faults_33 : decode cX10_faults 33 = .ok (.getfield 273, 3) := by decide +kernel
theorem dX10_faults_36 : decode cX10_faults 36 = .ok (.goto 11, 3) := by decide +kernel
theorem dX10_faults_39 : decode cX10_faults 39 = .ok (.aload_n 0, 1) := by decide +kernel
theorem dX10_faults_40 : decode cX10_faults 40 = .ok (.getfield 68, 3) := by decide +kernel
theorem dX10_faults_43 : decode cX10_faults 43 = .ok (.iload_n 1, 1) := by decide +kernel
theorem dX10_faults_44 : decode cX10_faults 44 = .ok (.invokevirtual 274, 3) := by decide +kernel
theorem dX10_faults_47 : decode cX10_faults 47 = .ok (.ireturn, 1) := by decide +kernel
theorem dX10_fault_0 : decode cX10_fault 0 = .ok (.aload_n 0, 1) := by decide +kernel
theorem dX10_fault_1 : decode cX10_fault 1 = .ok (.getfield 68, 3) := by decide +kernel
theorem dX10_fault_4 : decode cX10_fault 4 = .ok (.aload_n 0, 1) := by decide +kernel
theorem dX10_fault_5 : decode cX10_fault 5 = .ok (.getfield 26, 3) := by decide +kernel
theorem dX10_fault_8 : decode cX10_fault 8 = .ok (.aload_n 0, 1) := by decide +kernel
theorem dX10_fault_9 : decode cX10_fault 9 = .ok (.getfield 54, 3) := by decide +kernel
theorem dX10_fault_12 : decode cX10_fault 12 = .ok (.aload_n 0, 1) := by decide +kernel
theorem dX10_fault_13 : decode cX10_fault 13 = .ok (.getfield 61, 3) := by decide +kernel
theorem dX10_fault_16 : decode cX10_fault 16 = .ok (.invokevirtual 269, 3) := by decide +kernel
theorem dX10_fault_19 : decode cX10_fault 19 = .ok (.iload_n 1, 1) := by decide +kernel
theorem dX10_fault_20 : decode cX10_fault 20 = .ok (.aload_n 0, 1) := by decide +kernel
theorem dX10_fault_21 : decode cX10_fault 21 = .ok (.getfield 68, 3) := by decide +kernel
theorem dX10_fault_24 : decode cX10_fault 24 = .ok (.getfield 273, 3) := by decide +kernel
theorem dX10_fault_27 : decode cX10_fault 27 = .ok (.invokestatic 172, 3) := by decide +kernel
theorem dX10_fault_30 : decode cX10_fault 30 = .ok (.iload_n 2, 1) := by decide +kernel
theorem dX10_fault_31 : decode cX10_fault 31 = .ok (.iconst 0, 1) := by decide +kernel
theorem dX10_fault_32 : decode cX10_fault 32 = .ok (.iconst 1, 1) := by decide +kernel
theorem dX10_fault_33 : decode cX10_fault 33 = .ok (.invokestatic 97, 3) := by decide +kernel
theorem dX10_fault_36 : decode cX10_fault 36 = .ok (.iload_n 2, 1) := by decide +kernel
theorem dX10_fault_37 : decode cX10_fault 37 = .ok (.ifCond .ne 15, 3) := by decide +kernel
theorem dX10_fault_40 : decode cX10_fault 40 = .ok (.aload_n 0, 1) := by decide +kernel
theorem dX10_fault_41 : decode cX10_fault 41 = .ok (.getfield 68, 3) := by decide +kernel
theorem dX10_fault_44 : decode cX10_fault 44 = .ok (.getfield 275, 3) := by decide +kernel
theorem dX10_fault_47 : decode cX10_fault 47 = .ok (.iload_n 1, 1) := by decide +kernel
theorem dX10_fault_48 : decode cX10_fault 48 = .ok (.iaload, 1) := by decide +kernel
theorem dX10_fault_49 : decode cX10_fault 49 = .ok (.goto 12, 3) := by decide +kernel
theorem dX10_fault_52 : decode cX10_fault 52 = .ok (.aload_n 0, 1) := by decide +kernel
theorem dX10_fault_53 : decode cX10_fault 53 = .ok (.getfield 68, 3) := by decide +kernel
theorem dX10_fault_56 : decode cX10_fault 56 = .ok (.getfield 276, 3) := by decide +kernel
theorem dX10_fault_59 : decode cX10_fault 59 = .ok (.iload_n 1, 1) := by decide +kernel
theorem dX10_fault_60 : decode cX10_fault 60 = .ok (.iaload, 1) := by decide +kernel
theorem dX10_fault_61 : decode cX10_fault 61 = .ok (.ireturn, 1) := by decide +kernel
theorem dX10_fits_0 : decode cX10_fits 0 = .ok (.aload_n 0, 1) := by decide +kernel
theorem dX10_fits_1 : decode cX10_fits 1 = .ok (.getfield 68, 3) := by decide +kernel
theorem dX10_fits_4 : decode cX10_fits 4 = .ok (.aload_n 0, 1) := by decide +kernel
theorem dX10_fits_5 : decode cX10_fits 5 = .ok (.getfield 26, 3) := by decide +kernel
theorem dX10_fits_8 : decode cX10_fits 8 = .ok (.aload_n 0, 1) := by decide +kernel
theorem dX10_fits_9 : decode cX10_fits 9 = .ok (.getfield 54, 3) := by decide +kernel
theorem dX10_fits_12 : decode cX10_fits 12 = .ok (.aload_n 0, 1) := by decide +kernel
theorem dX10_fits_13 : decode cX10_fits 13 = .ok (.getfield 61, 3) := by decide +kernel
theorem dX10_fits_16 : decode cX10_fits 16 = .ok (.invokevirtual 269, 3) := by decide +kernel
theorem dX10_fits_19 : decode cX10_fits 19 = .ok (.aload_n 0, 1) := by decide +kernel
theorem dX10_fits_20 : decode cX10_fits 20 = .ok (.getfield 68, 3) := by decide +kernel
theorem dX10_fits_23 : decode cX10_fits 23 = .ok (.getfield 273, 3) := by decide +kernel
theorem dX10_fits_26 : decode cX10_fits 26 = .ok (.ifCond .ne 7, 3) := by decide +kernel
theorem dX10_fits_29 : decode cX10_fits 29 = .ok (.iconst 1, 1) := by decide +kernel
theorem dX10_fits_30 : decode cX10_fits 30 = .ok (.goto 4, 3) := by decide +kernel
theorem dX10_fits_33 : decode cX10_fits 33 = .ok (.iconst 0, 1) := by decide +kernel
theorem dX10_fits_34 : decode cX10_fits 34 = .ok (.ireturn, 1) := by decide +kernel
theorem dX10_share_0 : decode cX10_share 0 = .ok (.iload_n 1, 1) := by decide +kernel
theorem dX10_share_1 : decode cX10_share 1 = .ok (.bipush 6, 2) := by decide +kernel
theorem dX10_share_3 : decode cX10_share 3 = .ok (.invokestatic 172, 3) := by decide +kernel
theorem dX10_share_6 : decode cX10_share 6 = .ok (.aload_n 0, 1) := by decide +kernel
theorem dX10_share_7 : decode cX10_share 7 = .ok (.getfield 54, 3) := by decide +kernel
theorem dX10_share_10 : decode cX10_share 10 = .ok (.getfield 250, 3) := by decide +kernel
theorem dX10_share_13 : decode cX10_share 13 = .ok (.ifCond .ne 5, 3) := by decide +kernel
theorem dX10_share_16 : decode cX10_share 16 = .ok (.dconst 0, 1) := by decide +kernel
theorem dX10_share_17 : decode cX10_share 17 = .ok (.dreturn, 1) := by decide +kernel
theorem dX10_share_18 : decode cX10_share 18 = .ok (.iconst 0, 1) := by decide +kernel
theorem dX10_share_19 : decode cX10_share 19 = .ok (.istore_n 2, 1) := by decide +kernel
theorem dX10_share_20 : decode cX10_share 20 = .ok (.iconst 0, 1) := by decide +kernel
theorem dX10_share_21 : decode cX10_share 21 = .ok (.istore_n 3, 1) := by decide +kernel
theorem dX10_share_22 : decode cX10_share 22 = .ok (.iload_n 3, 1) := by decide +kernel
theorem dX10_share_23 : decode cX10_share 23 = .ok (.aload_n 0, 1) := by decide +kernel
theorem dX10_share_24 : decode cX10_share 24 = .ok (.getfield 54, 3) := by decide +kernel
theorem dX10_share_27 : decode cX10_share 27 = .ok (.getfield 230, 3) := by decide +kernel
theorem dX10_share_30 : decode cX10_share 30 = .ok (.if_icmp .ge 39, 3) := by decide +kernel
theorem dX10_share_33 : decode cX10_share 33 = .ok (.aload_n 0, 1) := by decide +kernel
theorem dX10_share_34 : decode cX10_share 34 = .ok (.getfield 54, 3) := by decide +kernel
theorem dX10_share_37 : decode cX10_share 37 = .ok (.iload_n 3, 1) := by decide +kernel
theorem dX10_share_38 : decode cX10_share 38 = .ok (.aload_n 0, 1) := by decide +kernel
theorem dX10_share_39 : decode cX10_share 39 = .ok (.getfield 26, 3) := by decide +kernel
theorem dX10_share_42 : decode cX10_share 42 = .ok (.getfield 101, 3) := by decide +kernel
theorem dX10_share_45 : decode cX10_share 45 = .ok (.invokevirtual 279, 3) := by decide +kernel
theorem dX10_share_48 : decode cX10_share 48 = .ok (.iload_n 1, 1) := by decide +kernel
theorem dX10_share_49 : decode cX10_share 49 = .ok (.if_icmp .ne 14, 3) := by decide +kernel
theorem dX10_share_52 : decode cX10_share 52 = .ok (.iload_n 2, 1) := by decide +kernel
theorem dX10_share_53 : decode cX10_share 53 = .ok (.aload_n 0, 1) := by decide +kernel
theorem dX10_share_54 : decode cX10_share 54 = .ok (.getfield 54, 3) := by decide +kernel
theorem dX10_share_57 : decode cX10_share 57 = .ok (.iload_n 3, 1) := by decide +kernel
theorem dX10_share_58 : decode cX10_share 58 = .ok (.invokevirtual 282, 3) := by decide +kernel
theorem dX10_share_61 : decode cX10_share 61 = .ok (.iadd, 1) := by decide +kernel
theorem dX10_share_62 : decode cX10_share 62 = .ok (.istore_n 2, 1) := by decide +kernel
theorem dX10_share_63 : decode cX10_share 63 = .ok (.iinc 3 1, 3) := by decide +kernel
theorem dX10_share_66 : decode cX10_share 66 = .ok (.goto (-44), 3) := by decide +kernel
theorem dX10_share_69 : decode cX10_share 69 = .ok (.iload_n 2, 1) := by decide +kernel
theorem dX10_share_70 : decode cX10_share 70 = .ok (.i2d, 1) := by decide +kernel
theorem dX10_share_71 : decode cX10_share 71 = .ok (.aload_n 0, 1) := by decide +kernel
theorem dX10_share_72 : decode cX10_share 72 = .ok (.getfield 54, 3) := by decide +kernel
theorem dX10_share_75 : decode cX10_share 75 = .ok (.getfield 250, 3) := by decide +kernel
theorem dX10_share_78 : decode cX10_share 78 = .ok (.i2d, 1) := by decide +kernel
theorem dX10_share_79 : decode cX10_share 79 = .ok (.ddiv, 1) := by decide +kernel
theorem dX10_share_80 : decode cX10_share 80 = .ok (.dreturn, 1) := by decide +kernel
theorem dX10_pace_0 : decode cX10_pace 0 = .ok (.aload_n 0, 1) := by decide +kernel
theorem dX10_pace_1 : decode cX10_pace 1 = .ok (.getfield 26, 3) := by decide +kernel
theorem dX10_pace_4 : decode cX10_pace 4 = .ok (.getfield 120, 3) := by decide +kernel
theorem dX10_pace_7 : decode cX10_pace 7 = .ok (.getfield 159, 3) := by decide +kernel
theorem dX10_pace_10 : decode cX10_pace 10 = .ok (.ifCond .ne 5, 3) := by decide +kernel
theorem dX10_pace_13 : decode cX10_pace 13 = .ok (.fconst 0, 1) := by decide +kernel
theorem dX10_pace_14 : decode cX10_pace 14 = .ok (.freturn, 1) := by decide +kernel
theorem dX10_pace_15 : decode cX10_pace 15 = .ok (.aload_n 0, 1) := by decide +kernel
theorem dX10_pace_16 : decode cX10_pace 16 = .ok (.getfield 26, 3) := by decide +kernel
theorem dX10_pace_19 : decode cX10_pace 19 = .ok (.getfield 120, 3) := by decide +kernel
theorem dX10_pace_22 : decode cX10_pace 22 = .ok (.invokevirtual 162, 3) := by decide +kernel
theorem dX10_pace_25 : decode cX10_pace 25 = .ok (.i2f, 1) := by decide +kernel
theorem dX10_pace_26 : decode cX10_pace 26 = .ok (.aload_n 0, 1) := by decide +kernel
theorem dX10_pace_27 : decode cX10_pace 27 = .ok (.getfield 26, 3) := by decide +kernel
theorem dX10_pace_30 : decode cX10_pace 30 = .ok (.getfield 120, 3) := by decide +kernel
theorem dX10_pace_33 : decode cX10_pace 33 = .ok (.getfield 159, 3) := by decide +kernel
theorem dX10_pace_36 : decode cX10_pace 36 = .ok (.i2f, 1) := by decide +kernel
theorem dX10_pace_37 : decode cX10_pace 37 = .ok (.fdiv, 1) := by decide +kernel
theorem dX10_pace_38 : decode cX10_pace 38 = .ok (.freturn, 1) := by decide +kernel
theorem dX10_best_0 : decode cX10_best 0 = .ok (.iload_n 1, 1) := by decide +kernel
theorem dX10_best_1 : decode cX10_best 1 = .ok (.iconst 0, 1) := by decide +kernel
theorem dX10_best_2 : decode cX10_best 2 = .ok (.iconst 2, 1) := by decide +kernel
theorem dX10_best_3 : decode cX10_best 3 = .ok (.invokestatic 97, 3) := by decide +kernel
theorem dX10_best_6 : decode cX10_best 6 = .ok (.aload_n 0, 1) := by decide +kernel
theorem dX10_best_7 : decode cX10_best 7 = .ok (.aload_n 0, 1) := by decide +kernel
theorem dX10_best_8 : decode cX10_best 8 = .ok (.getfield 26, 3) := by decide +kernel
theorem dX10_best_11 : decode cX10_best 11 = .ok (.getfield 101, 3) := by decide +kernel
theorem dX10_best_14 : decode cX10_best 14 = .ok (.iconst 0, 1) := by decide +kernel
theorem dX10_best_15 : decode cX10_best 15 = .ok (.invokevirtual 168, 3) := by decide +kernel
theorem dX10_best_18 : decode cX10_best 18 = .ok (.invokevirtual 285, 3) := by decide +kernel
theorem dX10_best_21 : decode cX10_best 21 = .ok (.iload_n 1, 1) := by decide +kernel
theorem dX10_best_22 : decode cX10_best 22 = .ok (.lookupswitch 42 #[(0, 26), (1, 34)], 26) := by decide +kernel
theorem dX10_best_48 : decode cX10_best 48 = .ok (.aload_n 0, 1) := by decide +kernel
theorem dX10_best_49 : decode cX10_best 49 = .ok (.getfield 75, 3) := by decide +kernel
theorem dX10_best_52 : decode cX10_best 52 = .ok (.getfield 288, 3) := by decide +kernel
theorem dX10_best_55 : decode cX10_best 55 = .ok (.ireturn, 1) := by decide +kernel
theorem dX10_best_56 : decode cX10_best 56 = .ok (.aload_n 0, 1) := by decide +kernel
theorem dX10_best_57 : decode cX10_best 57 = .ok (.getfield 75, 3) := by decide +kernel
theorem dX10_best_60 : decode cX10_best 60 = .ok (.getfield 291, 3) := by decide +kernel
theorem dX10_best_63 : decode cX10_best 63 = .ok (.ireturn, 1) := by decide +kernel
theorem dX10_best_64 : decode cX10_best 64 = .ok (.aload_n 0, 1) := by decide +kernel
theorem dX10_best_65 : decode cX10_best 65 = .ok (.getfield 75, 3) := by decide +kernel
theorem dX10_best_68 : decode cX10_best 68 = .ok (.getfield 294, 3) := by decide +kernel
theorem dX10_best_71 : decode cX10_best 71 = .ok (.ireturn, 1) := by decide +kernel
theorem dX10_bestWeek_0 : decode cX10_bestWeek 0 = .ok (.iconst (-1), 1) := by decide +kernel
theorem dX10_bestWeek_1 : decode cX10_bestWeek 1 = .ok (.istore_n 1, 1) := by decide +kernel
theorem dX10_bestWeek_2 : decode cX10_bestWeek 2 = .ok (.iconst (-1), 1) := by decide +kernel
theorem dX10_bestWeek_3 : decode cX10_bestWeek 3 = .ok (.istore_n 2, 1) := by decide +kernel
theorem dX10_bestWeek_4 : decode cX10_bestWeek 4 = .ok (.iconst (-1), 1) := by decide +kernel
theorem dX10_bestWeek_5 : decode cX10_bestWeek 5 = .ok (.istore_n 3, 1) := by decide +kernel
theorem dX10_bestWeek_6 : decode cX10_bestWeek 6 = .ok (.aload_n 0, 1) := by decide +kernel
theorem dX10_bestWeek_7 : decode cX10_bestWeek 7 = .ok (.getfield 26, 3) := by decide +kernel
theorem dX10_bestWeek_10 : decode cX10_bestWeek 10 = .ok (.getfield 101, 3) := by decide +kernel
theorem dX10_bestWeek_13 : decode cX10_bestWeek 13 = .ok (.iconst 0, 1) := by decide +kernel
theorem dX10_bestWeek_14 : decode cX10_bestWeek 14 = .ok (.invokevirtual 168, 3) := by decide +kernel
theorem dX10_bestWeek_17 : decode cX10_bestWeek 17 = .ok (.istore 4, 2) := by decide +kernel
theorem dX10_bestWeek_19 : decode cX10_bestWeek 19 = .ok (.iload 4, 2) := by decide +kernel
theorem dX10_bestWeek_21 : decode cX10_bestWeek 21 = .ok (.bipush 99, 2) := by decide +kernel
theorem dX10_bestWeek_23 : decode cX10_bestWeek 23 = .ok (.if_icmp .gt 76, 3) := by decide +kernel
theorem dX10_bestWeek_26 : decode cX10_bestWeek 26 = .ok (.aload_n 0, 1) := by decide +kernel
theorem dX10_bestWeek_27 : decode cX10_bestWeek 27 = .ok (.getfield 26, 3) := by decide +kernel
theorem dX10_bestWeek_30 : decode cX10_bestWeek 30 = .ok (.getfield 101, 3) := by decide +kernel
theorem dX10_bestWeek_33 : decode cX10_bestWeek 33 = .ok (.iload 4, 2) := by decide +kernel
theorem dX10_bestWeek_35 : decode cX10_bestWeek 35 = .ok (.invokevirtual 297, 3) := by decide +kernel
theorem dX10_bestWeek_38 : decode cX10_bestWeek 38 = .ok (.istore 5, 2) := by decide +kernel
theorem dX10_bestWeek_40 : decode cX10_bestWeek 40 = .ok (.iload 5, 2) := by decide +kernel
theorem dX10_bestWeek_42 : decode cX10_bestWeek 42 = .ok (.iload_n 3, 1) := by decide +kernel
theorem dX10_bestWeek_43 : decode cX10_bestWeek 43 = .ok (.if_icmp .eq 47, 3) := by decide +kernel
theorem dX10_bestWeek_46 : decode cX10_bestWeek 46 = .ok (.aload_n 0, 1) := by decide +kernel
theorem dX10_bestWeek_47 : decode cX10_bestWeek 47 = .ok (.iload 4, 2) := by decide +kernel
theorem dX10_bestWeek_49 : decode cX10_bestWeek 49 = .ok (.invokevirtual 285, 3) := by decide +kernel
theorem dX10_bestWeek_52 : decode cX10_bestWeek 52 = .ok (.aload_n 0, 1) := by decide +kernel
theorem dX10_bestWeek_53 : decode cX10_bestWeek 53 = .ok (.getfield 75, 3) := by decide +kernel
theorem dX10_bestWeek_56 : decode cX10_bestWeek 56 = .ok (.getfield 288, 3) := by decide +kernel
theorem dX10_bestWeek_59 : decode cX10_bestWeek 59 = .ok (.iconst (-1), 1) := by decide +kernel
theorem dX10_bestWeek_60 : decode cX10_bestWeek 60 = .ok (.if_icmp .eq 30, 3) := by decide +kernel
theorem dX10_bestWeek_63 : decode cX10_bestWeek 63 = .ok (.iload_n 1, 1) := by decide +kernel
theorem dX10_bestWeek_64 : decode cX10_bestWeek 64 = .ok (.iconst (-1), 1) := by decide +kernel
theorem dX10_bestWeek_65 : decode cX10_bestWeek 65 = .ok (.if_icmp .eq 14, 3) := by decide +kernel
theorem dX10_bestWeek_68 : decode cX10_bestWeek 68 = .ok (.aload_n 0, 1) := by decide +kernel
theorem dX10_bestWeek_69 : decode cX10_bestWeek 69 = .ok (.getfield 75, 3) := by decide +kernel
theorem dX10_bestWeek_72 : decode cX10_bestWeek 72 = .ok (.getfield 291, 3) := by decide +kernel
theorem dX10_bestWeek_75 : decode cX10_bestWeek 75 = .ok (.iload_n 2, 1) := by decide +kernel
theorem dX10_bestWeek_76 : decode cX10_bestWeek 76 = .ok (.if_icmp .ge 14, 3) := by decide +kernel
theorem dX10_bestWeek_79 : decode cX10_bestWeek 79 = .ok (.iload 4, 2) := by decide +kernel
theorem dX10_bestWeek_81 : decode cX10_bestWeek 81 = .ok (.istore_n 1, 1) := by decide +kernel
theorem dX10_bestWeek_82 : decode cX10_bestWeek 82 = .ok (.aload_n 0, 1) := by decide +kernel
theorem dX10_bestWeek_83 : decode cX10_bestWeek 83 = .ok (.getfield 75, 3) := by decide +kernel
theorem dX10_bestWeek_86 : decode cX10_bestWeek 86 = .ok (.getfield 291, 3) := by decide +kernel
theorem dX10_bestWeek_89 : decode cX10_bestWeek 89 = .ok (.istore_n 2, 1) := by decide +kernel
theorem dX10_bestWeek_90 : decode cX10_bestWeek 90 = .ok (.iload 5, 2) := by decide +kernel
theorem dX10_bestWeek_92 : decode cX10_bestWeek 92 = .ok (.istore_n 3, 1) := by decide +kernel
theorem dX10_bestWeek_93 : decode cX10_bestWeek 93 = .ok (.iinc 4 1, 3) := by decide +kernel
theorem dX10_bestWeek_96 : decode cX10_bestWeek 96 = .ok (.goto (-77), 3) := by decide +kernel
theorem dX10_bestWeek_99 : decode cX10_bestWeek 99 = .ok (.iload_n 1, 1) := by decide +kernel
theorem dX10_bestWeek_100 : decode cX10_bestWeek 100 = .ok (.ireturn, 1) := by decide +kernel
theorem dX10_bestSpeed_0 : decode cX10_bestSpeed 0 = .ok (.iconst 1, 1) := by decide +kernel
theorem dX10_bestSpeed_1 : decode cX10_bestSpeed 1 = .ok (.istore_n 1, 1) := by decide +kernel
theorem dX10_bestSpeed_2 : decode cX10_bestSpeed 2 = .ok (.aload_n 0, 1) := by decide +kernel
theorem dX10_bestSpeed_3 : decode cX10_bestSpeed 3 = .ok (.iconst 1, 1) := by decide +kernel
theorem dX10_bestSpeed_4 : decode cX10_bestSpeed 4 = .ok (.invokevirtual 300, 3) := by decide +kernel
theorem dX10_bestSpeed_7 : decode cX10_bestSpeed 7 = .ok (.istore_n 2, 1) := by decide +kernel
theorem dX10_bestSpeed_8 : decode cX10_bestSpeed 8 = .ok (.iconst 2, 1) := by decide +kernel
theorem dX10_bestSpeed_9 : decode cX10_bestSpeed 9 = .ok (.istore_n 3, 1) := by decide +kernel
theorem dX10_bestSpeed_10 : decode cX10_bestSpeed 10 = .ok (.iload_n 3, 1) := by decide +kernel
theorem dX10_bestSpeed_11 : decode cX10_bestSpeed 11 = .ok (.bipush 20, 2) := by decide +kernel
theorem dX10_bestSpeed_13 : decode cX10_bestSpeed 13 = .ok (.if_icmp .gt 27, 3) := by decide +kernel
theorem dX10_bestSpeed_16 : decode cX10_bestSpeed 16 = .ok (.aload_n 0, 1) := by decide +kernel
theorem dX10_bestSpeed_17 : decode cX10_bestSpeed 17 = .ok (.iload_n 3, 1) := by decide +kernel
theorem dX10_bestSpeed_18 : decode cX10_bestSpeed 18 = .ok (.invokevirtual 300, 3) := by decide +kernel
theorem dX10_bestSpeed_21 : decode cX10_bestSpeed 21 = .ok (.istore 4, 2) := by decide +kernel
theorem dX10_bestSpeed_23 : decode cX10_bestSpeed 23 = .ok (.iload 4, 2) := by decide +kernel
theorem dX10_bestSpeed_25 : decode cX10_bestSpeed 25 = .ok (.iload_n 2, 1) := by decide +kernel
theorem dX10_bestSpeed_26 : decode cX10_bestSpeed 26 = .ok (.if_icmp .ge 8, 3) := by decide +kernel
theorem dX10_bestSpeed_29 : decode cX10_bestSpeed 29 = .ok (.iload_n 3, 1) := by decide +kernel
theorem dX10_bestSpeed_30 : decode cX10_bestSpeed 30 = .ok (.istore_n 1, 1) := by decide +kernel
theorem dX10_bestSpeed_31 : decode cX10_bestSpeed 31 = .ok (.iload 4, 2) := by decide +kernel
theorem dX10_bestSpeed_33 : decode cX10_bestSpeed 33 = .ok (.istore_n 2, 1) := by decide +kernel
theorem dX10_bestSpeed_34 : decode cX10_bestSpeed 34 = .ok (.iinc 3 1, 3) := by decide +kernel
theorem dX10_bestSpeed_37 : decode cX10_bestSpeed 37 = .ok (.goto (-27), 3) := by decide +kernel
theorem dX10_bestSpeed_40 : decode cX10_bestSpeed 40 = .ok (.iload_n 1, 1) := by decide +kernel
theorem dX10_bestSpeed_41 : decode cX10_bestSpeed 41 = .ok (.ireturn, 1) := by decide +kernel
theorem dX10_edit_0 : decode cX10_edit 0 = .ok (.aload_n 0, 1) := by decide +kernel
theorem dX10_edit_1 : decode cX10_edit 1 = .ok (.getfield 30, 3) := by decide +kernel
theorem dX10_edit_4 : decode cX10_edit 4 = .ok (.getfield 111, 3) := by decide +kernel
theorem dX10_edit_7 : decode cX10_edit 7 = .ok (.aload_n 0, 1) := by decide +kernel
theorem dX10_edit_8 : decode cX10_edit 8 = .ok (.getfield 12, 3) := by decide +kernel
theorem dX10_edit_11 : decode cX10_edit 11 = .ok (.aload_n 0, 1) := by decide +kernel
theorem dX10_edit_12 : decode cX10_edit 12 = .ok (.getfield 26, 3) := by decide +kernel
theorem dX10_edit_15 : decode cX10_edit 15 = .ok (.getfield 101, 3) := by decide +kernel
theorem dX10_edit_18 : decode cX10_edit 18 = .ok (.invokevirtual 303, 3) := by decide +kernel
theorem dX10_edit_21 : decode cX10_edit 21 = .ok (.istore_n 1, 1) := by decide +kernel
theorem dX10_edit_22 : decode cX10_edit 22 = .ok (.aload_n 0, 1) := by decide +kernel
theorem dX10_edit_23 : decode cX10_edit 23 = .ok (.getfield 12, 3) := by decide +kernel
theorem dX10_edit_26 : decode cX10_edit 26 = .ok (.iconst 0, 1) := by decide +kernel
theorem dX10_edit_27 : decode cX10_edit 27 = .ok (.putfield 83, 3) := by decide +kernel
theorem dX10_edit_30 : decode cX10_edit 30 = .ok (.iload_n 1, 1) := by decide +kernel
theorem dX10_edit_31 : decode cX10_edit 31 = .ok (.ifCond .ne 9, 3) := by decide +kernel
theorem dX10_edit_34 : decode cX10_edit 34 = .ok (.aload_n 0, 1) := by decide +kernel
theorem dX10_edit_35 : decode cX10_edit 35 = .ok (.iconst 1, 1) := by decide +kernel
theorem dX10_edit_36 : decode cX10_edit 36 = .ok (.invokevirtual 306, 3) := by decide +kernel
theorem dX10_edit_39 : decode cX10_edit 39 = .ok (.ireturn, 1) := by decide +kernel
theorem dX10_edit_40 : decode cX10_edit 40 = .ok (.aload_n 0, 1) := by decide +kernel
theorem dX10_edit_41 : decode cX10_edit 41 = .ok (.getfield 30, 3) := by decide +kernel
theorem dX10_edit_44 : decode cX10_edit 44 = .ok (.getfield 111, 3) := by decide +kernel
theorem dX10_edit_47 : decode cX10_edit 47 = .ok (.invokevirtual 309, 3) := by decide +kernel
theorem dX10_edit_50 : decode cX10_edit 50 = .ok (.bipush 60, 2) := by decide +kernel
theorem dX10_edit_52 : decode cX10_edit 52 = .ok (.if_icmp .le 9, 3) := by decide +kernel
theorem dX10_edit_55 : decode cX10_edit 55 = .ok (.aload_n 0, 1) := by decide +kernel
theorem dX10_edit_56 : decode cX10_edit 56 = .ok (.iconst 2, 1) := by decide +kernel
theorem dX10_edit_57 : decode cX10_edit 57 = .ok (.invokevirtual 306, 3) := by decide +kernel
theorem dX10_edit_60 : decode cX10_edit 60 = .ok (.ireturn, 1) := by decide +kernel
theorem dX10_edit_61 : decode cX10_edit 61 = .ok (.aload_n 0, 1) := by decide +kernel
theorem dX10_edit_62 : decode cX10_edit 62 = .ok (.invokevirtual 312, 3) := by decide +kernel
theorem dX10_edit_65 : decode cX10_edit 65 = .ok (.aload_n 0, 1) := by decide +kernel
theorem dX10_edit_66 : decode cX10_edit 66 = .ok (.getfield 26, 3) := by decide +kernel
theorem dX10_edit_69 : decode cX10_edit 69 = .ok (.getfield 111, 3) := by decide +kernel
theorem dX10_edit_72 : decode cX10_edit 72 = .ok (.aload_n 0, 1) := by decide +kernel
theorem dX10_edit_73 : decode cX10_edit 73 = .ok (.getfield 30, 3) := by decide +kernel
theorem dX10_edit_76 : decode cX10_edit 76 = .ok (.getfield 111, 3) := by decide +kernel
theorem dX10_edit_79 : decode cX10_edit 79 = .ok (.invokevirtual 315, 3) := by decide +kernel
theorem dX10_edit_82 : decode cX10_edit 82 = .ok (.aload_n 0, 1) := by decide +kernel
theorem dX10_edit_83 : decode cX10_edit 83 = .ok (.invokevirtual 134, 3) := by decide +kernel
theorem dX10_edit_86 : decode cX10_edit 86 = .ok (.aload_n 0, 1) := by decide +kernel
theorem dX10_edit_87 : decode cX10_edit 87 = .ok (.getfield 54, 3) := by decide +kernel
theorem dX10_edit_90 : decode cX10_edit 90 = .ok (.getfield 230, 3) := by decide +kernel
theorem dX10_edit_93 : decode cX10_edit 93 = .ok (.ireturn, 1) := by decide +kernel
theorem dX10_say_0 : decode cX10_say 0 = .ok (.aload_n 0, 1) := by decide +kernel
theorem dX10_say_1 : decode cX10_say 1 = .ok (.getfield 30, 3) := by decide +kernel
theorem dX10_say_4 : decode cX10_say 4 = .ok (.getfield 120, 3) := by decide +kernel
theorem dX10_say_7 : decode cX10_say 7 = .ok (.aload_n 0, 1) := by decide +kernel
theorem dX10_say_8 : decode cX10_say 8 = .ok (.getfield 12, 3) := by decide +kernel
theorem dX10_say_11 : decode cX10_say 11 = .ok (.invokevirtual 318, 3) := by decide +kernel
theorem dX10_say_14 : decode cX10_say 14 = .ok (.istore_n 1, 1) := by decide +kernel
theorem dX10_say_15 : decode cX10_say 15 = .ok (.aload_n 0, 1) := by decide +kernel
theorem dX10_say_16 : decode cX10_say 16 = .ok (.getfield 12, 3) := by decide +kernel
theorem dX10_say_19 : decode cX10_say 19 = .ok (.iconst 0, 1) := by decide +kernel
theorem dX10_say_20 : decode cX10_say 20 = .ok (.putfield 83, 3) := by decide +kernel
theorem dX10_say_23 : decode cX10_say 23 = .ok (.iload_n 1, 1) := by decide +kernel
theorem dX10_say_24 : decode cX10_say 24 = .ok (.ifCond .ne 9, 3) := by decide +kernel
theorem dX10_say_27 : decode cX10_say 27 = .ok (.aload_n 0, 1) := by decide +kernel
theorem dX10_say_28 : decode cX10_say 28 = .ok (.iconst 1, 1) := by decide +kernel
theorem dX10_say_29 : decode cX10_say 29 = .ok (.invokevirtual 306, 3) := by decide +kernel
theorem dX10_say_32 : decode cX10_say 32 = .ok (.ireturn, 1) := by decide +kernel
theorem dX10_say_33 : decode cX10_say 33 = .ok (.aload_n 0, 1) := by decide +kernel
theorem dX10_say_34 : decode cX10_say 34 = .ok (.invokevirtual 312, 3) := by decide +kernel
theorem dX10_say_37 : decode cX10_say 37 = .ok (.aload_n 0, 1) := by decide +kernel
theorem dX10_say_38 : decode cX10_say 38 = .ok (.getfield 26, 3) := by decide +kernel
theorem dX10_say_41 : decode cX10_say 41 = .ok (.getfield 120, 3) := by decide +kernel
theorem dX10_say_44 : decode cX10_say 44 = .ok (.aload_n 0, 1) := by decide +kernel
theorem dX10_say_45 : decode cX10_say 45 = .ok (.getfield 30, 3) := by decide +kernel
theorem dX10_say_48 : decode cX10_say 48 = .ok (.getfield 120, 3) := by decide +kernel
theorem dX10_say_51 : decode cX10_say 51 = .ok (.invokevirtual 319, 3) := by decide +kernel
theorem dX10_say_54 : decode cX10_say 54 = .ok (.aload_n 0, 1) := by decide +kernel
theorem dX10_say_55 : decode cX10_say 55 = .ok (.invokevirtual 134, 3) := by decide +kernel
theorem dX10_say_58 : decode cX10_say 58 = .ok (.aload_n 0, 1) := by decide +kernel
theorem dX10_say_59 : decode cX10_say 59 = .ok (.getfield 26, 3) := by decide +kernel
theorem dX10_say_62 : decode cX10_say 62 = .ok (.getfield 120, 3) := by decide +kernel
theorem dX10_say_65 : decode cX10_say 65 = .ok (.getfield 159, 3) := by decide +kernel
theorem dX10_say_68 : decode cX10_say 68 = .ok (.ireturn, 1) := by decide +kernel
theorem dX10_assemble_0 : decode cX10_assemble 0 = .ok (.aload_n 0, 1) := by decide +kernel
theorem dX10_assemble_1 : decode cX10_assemble 1 = .ok (.aload_n 0, 1) := by decide +kernel
theorem dX10_assemble_2 : decode cX10_assemble 2 = .ok (.getfield 26, 3) := by decide +kernel
theorem dX10_assemble_5 : decode cX10_assemble 5 = .ok (.getfield 101, 3) := by decide +kernel
theorem dX10_assemble_8 : decode cX10_assemble 8 = .ok (.iconst 0, 1) := by decide +kernel
theorem dX10_assemble_9 : decode cX10_assemble 9 = .ok (.invokevirtual 168, 3) := by decide +kernel
theorem dX10_assemble_12 : decode cX10_assemble 12 = .ok (.invokevirtual 285, 3) := by decide +kernel
theorem dX10_assemble_15 : decode cX10_assemble 15 = .ok (.aload_n 0, 1) := by decide +kernel
theorem dX10_assemble_16 : decode cX10_assemble 16 = .ok (.getfield 75, 3) := by decide +kernel
theorem dX10_assemble_19 : decode cX10_assemble 19 = .ok (.getfield 288, 3) := by decide +kernel
theorem dX10_assemble_22 : decode cX10_assemble 22 = .ok (.iconst (-1), 1) := by decide +kernel
theorem dX10_assemble_23 : decode cX10_assemble 23 = .ok (.if_icmp .ne 9, 3) := by decide +kernel
theorem dX10_assemble_26 : decode cX10_assemble 26 = .ok (.aload_n 0, 1) := by decide +kernel
theorem dX10_assemble_27 : decode cX10_assemble 27 = .ok (.iconst 3, 1) := by decide +kernel
theorem dX10_assemble_28 : decode cX10_assemble 28 = .ok (.invokevirtual 306, 3) := by decide +kernel
theorem dX10_assemble_31 : decode cX10_assemble 31 = .ok (.ireturn, 1) := by decide +kernel
theorem dX10_assemble_32 : decode cX10_assemble 32 = .ok (.aload_n 0, 1) := by decide +kernel
theorem dX10_assemble_33 : decode cX10_assemble 33 = .ok (.invokevirtual 312, 3) := by decide +kernel
theorem dX10_assemble_36 : decode cX10_assemble 36 = .ok (.aload_n 0, 1) := by decide +kernel
theorem dX10_assemble_37 : decode cX10_assemble 37 = .ok (.getfield 26, 3) := by decide +kernel
theorem dX10_assemble_40 : decode cX10_assemble 40 = .ok (.getfield 111, 3) := by decide +kernel
theorem dX10_assemble_43 : decode cX10_assemble 43 = .ok (.invokevirtual 115, 3) := by decide +kernel
theorem dX10_assemble_46 : decode cX10_assemble 46 = .ok (.iconst 0, 1) := by decide +kernel
theorem dX10_assemble_47 : decode cX10_assemble 47 = .ok (.istore_n 1, 1) := by decide +kernel
theorem dX10_assemble_48 : decode cX10_assemble 48 = .ok (.iload_n 1, 1) := by decide +kernel
theorem dX10_assemble_49 : decode cX10_assemble 49 = .ok (.aload_n 0, 1) := by decide +kernel
theorem dX10_assemble_50 : decode cX10_assemble 50 = .ok (.getfield 26, 3) := by decide +kernel
theorem dX10_assemble_53 : decode cX10_assemble 53 = .ok (.getfield 101, 3) := by decide +kernel
theorem dX10_assemble_56 : decode cX10_assemble 56 = .ok (.getfield 137, 3) := by decide +kernel
theorem dX10_assemble_59 : decode cX10_assemble 59 = .ok (.if_icmp .ge 50, 3) := by decide +kernel
theorem dX10_assemble_62 : decode cX10_assemble 62 = .ok (.aload_n 0, 1) := by decide +kernel
theorem dX10_assemble_63 : decode cX10_assemble 63 = .ok (.getfield 75, 3) := by decide +kernel
theorem dX10_assemble_66 : decode cX10_assemble 66 = .ok (.getfield 288, 3) := by decide +kernel
theorem dX10_assemble_69 : decode cX10_assemble 69 = .ok (.iload_n 1, 1) := by decide +kernel
theorem dX10_assemble_70 : decode cX10_assemble 70 = .ok (.ishr, 1) := by decide +kernel
theorem dX10_assemble_71 : decode cX10_assemble 71 = .ok (.iconst 1, 1) := by decide +kernel
theorem dX10_assemble_72 : decode cX10_assemble 72 = .ok (.iand, 1) := by decide +kernel
theorem dX10_assemble_73 : decode cX10_assemble 73 = .ok (.ifCond .eq 30, 3) := by decide +kernel
theorem dX10_assemble_76 : decode cX10_assemble 76 = .ok (.aload_n 0, 1) := by decide +kernel
theorem dX10_assemble_77 : decode cX10_assemble 77 = .ok (.getfield 26, 3) := by decide +kernel
theorem dX10_assemble_80 : decode cX10_assemble 80 = .ok (.getfield 111, 3) := by decide +kernel
theorem dX10_assemble_83 : decode cX10_assemble 83 = .ok (.iconst 0, 1) := by decide +kernel
theorem dX10_assemble_84 : decode cX10_assemble 84 = .ok (.iload_n 1, 1) := by decide +kernel
theorem dX10_assemble_85 : decode cX10_assemble 85 = .ok (.iconst 0, 1) := by decide +kernel
theorem dX10_assemble_86 : decode cX10_assemble 86 = .ok (.aload_n 0, 1) := by decide +kernel
theorem dX10_assemble_87 : decode cX10_assemble 87 = .ok (.getfield 26, 3) := by decide +kernel
theorem dX10_assemble_90 : decode cX10_assemble 90 = .ok (.getfield 101, 3) := by decide +kernel
theorem dX10_assemble_93 : decode cX10_assemble 93 = .ok (.iload_n 1, 1) := by decide +kernel
theorem dX10_assemble_94 : decode cX10_assemble 94 = .ok (.invokevirtual 179, 3) := by decide +kernel
theorem dX10_assemble_97 : decode cX10_assemble 97 = .ok (.iconst 1, 1) := by decide +kernel
theorem dX10_assemble_98 : decode cX10_assemble 98 = .ok (.isub, 1) := by decide +kernel
theorem dX10_assemble_99 : decode cX10_assemble 99 = .ok (.iconst 0, 1) := by decide +kernel
theorem dX10_assemble_100 : decode cX10_assemble 100 = .ok (.invokevirtual 322, 3) := by decide +kernel
theorem dX10_assemble_103 : decode cX10_assemble 103 = .ok (.iinc 1 1, 3) := by decide +kernel
theorem dX10_assemble_106 : decode cX10_assemble 106 = .ok (.goto (-58), 3) := by decide +kernel
theorem dX10_assemble_109 : decode cX10_assemble 109 = .ok (.aload_n 0, 1) := by decide +kernel
theorem dX10_assemble_110 : decode cX10_assemble 110 = .ok (.getfield 26, 3) := by decide +kernel
theorem dX10_assemble_113 : decode cX10_assemble 113 = .ok (.getfield 111, 3) := by decide +kernel
theorem dX10_assemble_116 : decode cX10_assemble 116 = .ok (.aload_n 0, 1) := by decide +kernel
theorem dX10_assemble_117 : decode cX10_assemble 117 = .ok (.getfield 26, 3) := by decide +kernel
theorem dX10_assemble_120 : decode cX10_assemble 120 = .ok (.getfield 111, 3) := by decide +kernel
theorem dX10_assemble_123 : decode cX10_assemble 123 = .ok (.getfield 156, 3) := by decide +kernel
theorem dX10_assemble_126 : decode cX10_assemble 126 = .ok (.iconst 1, 1) := by decide +kernel
theorem dX10_assemble_127 : decode cX10_assemble 127 = .ok (.isub, 1) := by decide +kernel
theorem dX10_assemble_128 : decode cX10_assemble 128 = .ok (.aload_n 0, 1) := by decide +kernel
theorem dX10_assemble_129 : decode cX10_assemble 129 = .ok (.getfield 75, 3) := by decide +kernel
theorem dX10_assemble_132 : decode cX10_assemble 132 = .ok (.getfield 291, 3) := by decide +kernel
theorem dX10_assemble_135 : decode cX10_assemble 135 = .ok (.invokevirtual 326, 3) := by decide +kernel
theorem dX10_assemble_138 : decode cX10_assemble 138 = .ok (.aload_n 0, 1) := by decide +kernel
theorem dX10_assemble_139 : decode cX10_assemble 139 = .ok (.invokevirtual 134, 3) := by decide +kernel
theorem dX10_assemble_142 : decode cX10_assemble 142 = .ok (.aload_n 0, 1) := by decide +kernel
theorem dX10_assemble_143 : decode cX10_assemble 143 = .ok (.getfield 75, 3) := by decide +kernel
theorem dX10_assemble_146 : decode cX10_assemble 146 = .ok (.getfield 291, 3) := by decide +kernel
theorem dX10_assemble_149 : decode cX10_assemble 149 = .ok (.ireturn, 1) := by decide +kernel
theorem dX10_insert_0 : decode cX10_insert 0 = .ok (.aload_n 0, 1) := by decide +kernel
theorem dX10_insert_1 : decode cX10_insert 1 = .ok (.getfield 26, 3) := by decide +kernel
theorem dX10_insert_4 : decode cX10_insert 4 = .ok (.getfield 111, 3) := by decide +kernel
theorem dX10_insert_7 : decode cX10_insert 7 = .ok (.invokevirtual 152, 3) := by decide +kernel
theorem dX10_insert_10 : decode cX10_insert 10 = .ok (.istore 4, 2) := by decide +kernel
theorem dX10_insert_12 : decode cX10_insert 12 = .ok (.iload_n 1, 1) := by decide +kernel
theorem dX10_insert_13 : decode cX10_insert 13 = .ok (.iload 4, 2) := by decide +kernel
theorem dX10_insert_15 : decode cX10_insert 15 = .ok (.iconst 1, 1) := by decide +kernel
theorem dX10_insert_16 : decode cX10_insert 16 = .ok (.iadd, 1) := by decide +kernel
theorem dX10_insert_17 : decode cX10_insert 17 = .ok (.invokestatic 172, 3) := by decide +kernel
theorem dX10_insert_20 : decode cX10_insert 20 = .ok (.iload_n 2, 1) := by decide +kernel
theorem dX10_insert_21 : decode cX10_insert 21 = .ok (.aload_n 0, 1) := by decide +kernel
theorem dX10_insert_22 : decode cX10_insert 22 = .ok (.getfield 26, 3) := by decide +kernel
theorem dX10_insert_25 : decode cX10_insert 25 = .ok (.getfield 101, 3) := by decide +kernel
theorem dX10_insert_28 : decode cX10_insert 28 = .ok (.getfield 146, 3) := by decide +kernel
theorem dX10_insert_31 : decode cX10_insert 31 = .ok (.invokestatic 172, 3) := by decide +kernel
theorem dX10_insert_34 : decode cX10_insert 34 = .ok (.iload_n 3, 1) := by decide +kernel
theorem dX10_insert_35 : decode cX10_insert 35 = .ok (.iconst 1, 1) := by decide +kernel
theorem dX10_insert_36 : decode cX10_insert 36 = .ok (.sipush 400, 3) := by decide +kernel
theorem dX10_insert_39 : decode cX10_insert 39 = .ok (.invokestatic 97, 3) := by decide +kernel
theorem dX10_insert_42 : decode cX10_insert 42 = .ok (.aload_n 0, 1) := by decide +kernel
theorem dX10_insert_43 : decode cX10_insert 43 = .ok (.getfield 26, 3) := by decide +kernel
theorem dX10_insert_46 : decode cX10_insert 46 = .ok (.getfield 111, 3) := by decide +kernel
theorem dX10_insert_49 : decode cX10_insert 49 = .ok (.getfield 156, 3) := by decide +kernel
theorem dX10_insert_52 : decode cX10_insert 52 = .ok (.bipush 30, 2) := by decide +kernel
theorem dX10_insert_54 : decode cX10_insert 54 = .ok (.if_icmp .lt 9, 3) := by decide +kernel
theorem dX10_insert_57 : decode cX10_insert 57 = .ok (.aload_n 0, 1) := by decide +kernel
theorem dX10_insert_58 : decode cX10_insert 58 = .ok (.iconst 4, 1) := by decide +kernel
theorem dX10_insert_59 : decode cX10_insert 59 = .ok (.invokevirtual 306, 3) := by decide +kernel
theorem dX10_insert_62 : decode cX10_insert 62 = .ok (.ireturn, 1) := by decide +kernel
theorem dX10_insert_63 : decode cX10_insert 63 = .ok (.aload_n 0, 1) := by decide +kernel
theorem dX10_insert_64 : decode cX10_insert 64 = .ok (.getfield 54, 3) := by decide +kernel
theorem dX10_insert_67 : decode cX10_insert 67 = .ok (.getfield 230, 3) := by decide +kernel
theorem dX10_insert_70 : decode cX10_insert 70 = .ok (.bipush 60, 2) := by decide +kernel
theorem dX10_insert_72 : decode cX10_insert 72 = .ok (.if_icmp .lt 9, 3) := by decide +kernel
theorem dX10_insert_75 : decode cX10_insert 75 = .ok (.aload_n 0, 1) := by decide +kernel
theorem dX10_insert_76 : decode cX10_insert 76 = .ok (.iconst 2, 1) := by decide +kernel
theorem dX10_insert_77 : decode cX10_insert 77 = .ok (.invokevirtual 306, 3) := by decide +kernel
theorem dX10_insert_80 : decode cX10_insert 80 = .ok (.ireturn, 1) := by decide +kernel
theorem dX10_insert_81 : decode cX10_insert 81 = .ok (.aload_n 0, 1) := by decide +kernel
theorem dX10_insert_82 : decode cX10_insert 82 = .ok (.getfield 30, 3) := by decide +kernel
theorem dX10_insert_85 : decode cX10_insert 85 = .ok (.getfield 111, 3) := by decide +kernel
theorem dX10_insert_88 : decode cX10_insert 88 = .ok (.invokevirtual 115, 3) := by decide +kernel
theorem dX10_insert_91 : decode cX10_insert 91 = .ok (.iconst 0, 1) := by decide +kernel
theorem dX10_insert_92 : decode cX10_insert 92 = .ok (.istore 5, 2) := by decide +kernel
theorem dX10_insert_94 : decode cX10_insert 94 = .ok (.iload 5, 2) := by decide +kernel
theorem dX10_insert_96 : decode cX10_insert 96 = .ok (.iload_n 1, 1) := by decide +kernel
theorem dX10_insert_97 : decode cX10_insert 97 = .ok (.if_icmp .ge 28, 3) := by decide +kernel
theorem dX10_insert_100 : decode cX10_insert 100 = .ok (.aload_n 0, 1) := by decide +kernel
theorem dX10_insert_101 : decode cX10_insert 101 = .ok (.getfield 30, 3) := by decide +kernel
theorem dX10_insert_104 : decode cX10_insert 104 = .ok (.getfield 111, 3) := by decide +kernel
theorem dX10_insert_107 : decode cX10_insert 107 = .ok (.aload_n 0, 1) := by decide +kernel
theorem dX10_insert_108 : decode cX10_insert 108 = .ok (.getfield 26, 3) := by decide +kernel
theorem dX10_insert_111 : decode cX10_insert 111 = .ok (.getfield 111, 3) := by decide +kernel
theorem dX10_insert_114 : decode cX10_insert 114 = .ok (.iload 5, 2) := by decide +kernel
theorem dX10_insert_116 : decode cX10_insert 116 = .ok (.invokevirtual 329, 3) := by decide +kernel
theorem dX10_insert_119 : decode cX10_insert 119 = .ok (.iinc 5 1, 3) := by decide +kernel
theorem dX10_insert_122 : decode cX10_insert 122 = .ok (.goto (-28), 3) := by decide +kernel
theorem dX10_insert_125 : decode cX10_insert 125 = .ok (.aload_n 0, 1) := by decide +kernel
theorem dX10_insert_126 : decode cX10_insert 126 = .ok (.getfield 30, 3) := by decide +kernel
theorem dX10_insert_129 : decode cX10_insert 129 = .ok (.getfield 111, 3) := by decide +kernel
theorem dX10_insert_132 : decode cX10_insert 132 = .ok (.iconst 1, 1) := by decide +kernel
theorem dX10_insert_133 : decode cX10_insert 133 = .ok (.iload_n 2, 1) := by decide +kernel
theorem dX10_insert_134 : decode cX10_insert 134 = .ok (.iconst 0, 1) := by decide +kernel
theorem dX10_insert_135 : decode cX10_insert 135 = .ok (.iload_n 3, 1) := by decide +kernel
theorem dX10_insert_136 : decode cX10_insert 136 = .ok (.iconst 1, 1) := by decide +kernel
theorem dX10_insert_137 : decode cX10_insert 137 = .ok (.isub, 1) := by decide +kernel
theorem dX10_insert_138 : decode cX10_insert 138 = .ok (.iconst 0, 1) := by decide +kernel
theorem dX10_insert_139 : decode cX10_insert 139 = .ok (.invokevirtual 322, 3) := by decide +kernel
theorem dX10_insert_142 : decode cX10_insert 142 = .ok (.iload_n 1, 1) := by decide +kernel
theorem dX10_insert_143 : decode cX10_insert 143 = .ok (.istore 5, 2) := by decide +kernel
theorem dX10_insert_145 : decode cX10_insert 145 = .ok (.iload 5, 2) := by decide +kernel
theorem dX10_insert_147 : decode cX10_insert 147 = .ok (.iload 4, 2) := by decide +kernel
theorem dX10_insert_149 : decode cX10_insert 149 = .ok (.if_icmp .ge 28, 3) := by decide +kernel
theorem dX10_insert_152 : decode cX10_insert 152 = .ok (.aload_n 0, 1) := by decide +kernel
theorem dX10_insert_153 : decode cX10_insert 153 = .ok (.getfield 30, 3) := by decide +kernel
theorem dX10_insert_156 : decode cX10_insert 156 = .ok (.getfield 111, 3) := by decide +kernel
theorem dX10_insert_159 : decode cX10_insert 159 = .ok (.aload_n 0, 1) := by decide +kernel
theorem dX10_insert_160 : decode cX10_insert 160 = .ok (.getfield 26, 3) := by decide +kernel
theorem dX10_insert_163 : decode cX10_insert 163 = .ok (.getfield 111, 3) := by decide +kernel
theorem dX10_insert_166 : decode cX10_insert 166 = .ok (.iload 5, 2) := by decide +kernel
theorem dX10_insert_168 : decode cX10_insert 168 = .ok (.invokevirtual 329, 3) := by decide +kernel
theorem dX10_insert_171 : decode cX10_insert 171 = .ok (.iinc 5 1, 3) := by decide +kernel
theorem dX10_insert_174 : decode cX10_insert 174 = .ok (.goto (-29), 3) := by decide +kernel
theorem dX10_insert_177 : decode cX10_insert 177 = .ok (.aload_n 0, 1) := by decide +kernel
theorem dX10_insert_178 : decode cX10_insert 178 = .ok (.invokevirtual 333, 3) := by decide +kernel
theorem dX10_insert_181 : decode cX10_insert 181 = .ok (.ireturn, 1) := by decide +kernel
theorem dX10_trim_0 : decode cX10_trim 0 = .ok (.iload_n 1, 1) := by decide +kernel
theorem dX10_trim_1 : decode cX10_trim 1 = .ok (.aload_n 0, 1) := by decide +kernel
theorem dX10_trim_2 : decode cX10_trim 2 = .ok (.getfield 26, 3) := by decide +kernel
theorem dX10_trim_5 : decode cX10_trim 5 = .ok (.getfield 111, 3) := by decide +kernel
theorem dX10_trim_8 : decode cX10_trim 8 = .ok (.invokevirtual 152, 3) := by decide +kernel
theorem dX10_trim_11 : decode cX10_trim 11 = .ok (.invokestatic 172, 3) := by decide +kernel
theorem dX10_trim_14 : decode cX10_trim 14 = .ok (.iload_n 2, 1) := by decide +kernel
theorem dX10_trim_15 : decode cX10_trim 15 = .ok (.iconst 1, 1) := by decide +kernel
theorem dX10_trim_16 : decode cX10_trim 16 = .ok (.sipush 399, 3) := by decide +kernel
theorem dX10_trim_19 : decode cX10_trim 19 = .ok (.invokestatic 97, 3) := by decide +kernel
theorem dX10_trim_22 : decode cX10_trim 22 = .ok (.aload_n 0, 1) := by decide +kernel
theorem dX10_trim_23 : decode cX10_trim 23 = .ok (.getfield 26, 3) := by decide +kernel
theorem dX10_trim_26 : decode cX10_trim 26 = .ok (.getfield 111, 3) := by decide +kernel
theorem dX10_trim_29 : decode cX10_trim 29 = .ok (.iload_n 1, 1) := by decide +kernel
theorem dX10_trim_30 : decode cX10_trim 30 = .ok (.invokevirtual 336, 3) := by decide +kernel
theorem dX10_trim_33 : decode cX10_trim 33 = .ok (.istore_n 3, 1) := by decide +kernel
theorem dX10_trim_34 : decode cX10_trim 34 = .ok (.aload_n 0, 1) := by decide +kernel
theorem dX10_trim_35 : decode cX10_trim 35 = .ok (.getfield 26, 3) := by decide +kernel
theorem dX10_trim_38 : decode cX10_trim 38 = .ok (.getfield 111, 3) := by decide +kernel
theorem dX10_trim_41 : decode cX10_trim 41 = .ok (.iload_n 3, 1) := by decide +kernel
theorem dX10_trim_42 : decode cX10_trim 42 = .ok (.invokevirtual 339, 3) := by decide +kernel
theorem dX10_trim_45 : decode cX10_trim 45 = .ok (.ifCond .eq 9, 3) := by decide +kernel
theorem dX10_trim_48 : decode cX10_trim 48 = .ok (.aload_n 0, 1) := by decide +kernel
theorem dX10_trim_49 : decode cX10_trim 49 = .ok (.iconst 5, 1) := by decide +kernel
theorem dX10_trim_50 : decode cX10_trim 50 = .ok (.invokevirtual 306, 3) := by decide +kernel
theorem dX10_trim_53 : decode cX10_trim 53 = .ok (.ireturn, 1) := by decide +kernel
theorem dX10_trim_54 : decode cX10_trim 54 = .ok (.aload_n 0, 1) := by decide +kernel
theorem dX10_trim_55 : decode cX10_trim 55 = .ok (.getfield 26, 3) := by decide +kernel
theorem dX10_trim_58 : decode cX10_trim 58 = .ok (.getfield 111, 3) := by decide +kernel
theorem dX10_trim_61 : decode cX10_trim 61 = .ok (.iload_n 3, 1) := by decide +kernel
theorem dX10_trim_62 : decode cX10_trim 62 = .ok (.invokevirtual 342, 3) := by decide +kernel
theorem dX10_trim_65 : decode cX10_trim 65 = .ok (.iload_n 2, 1) := by decide +kernel
theorem dX10_trim_66 : decode cX10_trim 66 = .ok (.isub, 1) := by decide +kernel
theorem dX10_trim_67 : decode cX10_trim 67 = .ok (.iconst 1, 1) := by decide +kernel
theorem dX10_trim_68 : decode cX10_trim 68 = .ok (.if_icmp .ge 10, 3) := by decide +kernel
theorem dX10_trim_71 : decode cX10_trim 71 = .ok (.aload_n 0, 1) := by decide +kernel
theorem dX10_trim_72 : decode cX10_trim 72 = .ok (.bipush 6, 2) := by decide +kernel
theorem dX10_trim_74 : decode cX10_trim 74 = .ok (.invokevirtual 306, 3) := by decide +kernel
theorem dX10_trim_77 : decode cX10_trim 77 = .ok (.ireturn, 1) := by decide +kernel
theorem dX10_trim_78 : decode cX10_trim 78 = .ok (.aload_n 0, 1) := by decide +kernel
theorem dX10_trim_79 : decode cX10_trim 79 = .ok (.invokevirtual 312, 3) := by decide +kernel
theorem dX10_trim_82 : decode cX10_trim 82 = .ok (.aload_n 0, 1) := by decide +kernel
theorem dX10_trim_83 : decode cX10_trim 83 = .ok (.getfield 26, 3) := by decide +kernel
theorem dX10_trim_86 : decode cX10_trim 86 = .ok (.getfield 111, 3) := by decide +kernel
theorem dX10_trim_89 : decode cX10_trim 89 = .ok (.iload_n 3, 1) := by decide +kernel
theorem dX10_trim_90 : decode cX10_trim 90 = .ok (.iload_n 2, 1) := by decide +kernel
theorem dX10_trim_91 : decode cX10_trim 91 = .ok (.invokevirtual 326, 3) := by decide +kernel
theorem dX10_trim_94 : decode cX10_trim 94 = .ok (.aload_n 0, 1) := by decide +kernel
theorem dX10_trim_95 : decode cX10_trim 95 = .ok (.invokevirtual 134, 3) := by decide +kernel
theorem dX10_trim_98 : decode cX10_trim 98 = .ok (.aload_n 0, 1) := by decide +kernel
theorem dX10_trim_99 : decode cX10_trim 99 = .ok (.getfield 26, 3) := by decide +kernel
theorem dX10_trim_102 : decode cX10_trim 102 = .ok (.getfield 111, 3) := by decide +kernel
theorem dX10_trim_105 : decode cX10_trim 105 = .ok (.iload_n 3, 1) := by decide +kernel
theorem dX10_trim_106 : decode cX10_trim 106 = .ok (.invokevirtual 342, 3) := by decide +kernel
theorem dX10_trim_109 : decode cX10_trim 109 = .ok (.ireturn, 1) := by decide +kernel
theorem dX10_remove_0 : decode cX10_remove 0 = .ok (.aload_n 0, 1) := by decide +kernel
theorem dX10_remove_1 : decode cX10_remove 1 = .ok (.getfield 26, 3) := by decide +kernel
theorem dX10_remove_4 : decode cX10_remove 4 = .ok (.getfield 111, 3) := by decide +kernel
theorem dX10_remove_7 : decode cX10_remove 7 = .ok (.invokevirtual 152, 3) := by decide +kernel
theorem dX10_remove_10 : decode cX10_remove 10 = .ok (.istore_n 2, 1) := by decide +kernel
theorem dX10_remove_11 : decode cX10_remove 11 = .ok (.iload_n 1, 1) := by decide +kernel
theorem dX10_remove_12 : decode cX10_remove 12 = .ok (.iload_n 2, 1) := by decide +kernel
theorem dX10_remove_13 : decode cX10_remove 13 = .ok (.invokestatic 172, 3) := by decide +kernel
theorem dX10_remove_16 : decode cX10_remove 16 = .ok (.aload_n 0, 1) := by decide +kernel
theorem dX10_remove_17 : decode cX10_remove 17 = .ok (.getfield 30, 3) := by decide +kernel
theorem dX10_remove_20 : decode cX10_remove 20 = .ok (.getfield 111, 3) := by decide +kernel
theorem dX10_remove_23 : decode cX10_remove 23 = .ok (.invokevirtual 115, 3) := by decide +kernel
theorem dX10_remove_26 : decode cX10_remove 26 = .ok (.iconst 0, 1) := by decide +kernel
theorem dX10_remove_27 : decode cX10_remove 27 = .ok (.istore_n 3, 1) := by decide +kernel
theorem dX10_remove_28 : decode cX10_remove 28 = .ok (.iload_n 3, 1) := by decide +kernel
theorem dX10_remove_29 : decode cX10_remove 29 = .ok (.iload_n 2, 1) := by decide +kernel
theorem dX10_remove_30 : decode cX10_remove 30 = .ok (.if_icmp .ge 32, 3) := by decide +kernel
theorem dX10_remove_33 : decode cX10_remove 33 = .ok (.iload_n 3, 1) := by decide +kernel
theorem dX10_remove_34 : decode cX10_remove 34 = .ok (.iload_n 1, 1) := by decide +kernel
theorem dX10_remove_35 : decode cX10_remove 35 = .ok (.if_icmp .eq 21, 3) := by decide +kernel
theorem dX10_remove_38 : decode cX10_remove 38 = .ok (.aload_n 0, 1) := by decide +kernel
theorem dX10_remove_39 : decode cX10_remove 39 = .ok (.getfield 30, 3) := by decide +kernel
theorem dX10_remove_42 : decode cX10_remove 42 = .ok (.getfield 111, 3) := by decide +kernel
theorem dX10_remove_45 : decode cX10_remove 45 = .ok (.aload_n 0, 1) := by decide +kernel
theorem dX10_remove_46 : decode cX10_remove 46 = .ok (.getfield 26, 3) := by decide +kernel
theorem dX10_remove_49 : decode cX10_remove 49 = .ok (.getfield 111, 3) := by decide +kernel
theorem dX10_remove_52 : decode cX10_remove 52 = .ok (.iload_n 3, 1) := by decide +kernel
theorem dX10_remove_53 : decode cX10_remove 53 = .ok (.invokevirtual 329, 3) := by decide +kernel
theorem dX10_remove_56 : decode cX10_remove 56 = .ok (.iinc 3 1, 3) := by decide +kernel
theorem dX10_remove_59 : decode cX10_remove 59 = .ok (.goto (-31), 3) := by decide +kernel
theorem dX10_remove_62 : decode cX10_remove 62 = .ok (.aload_n 0, 1) := by decide +kernel
theorem dX10_remove_63 : decode cX10_remove 63 = .ok (.invokevirtual 333, 3) := by decide +kernel
theorem dX10_remove_66 : decode cX10_remove 66 = .ok (.ireturn, 1) := by decide +kernel
theorem dX10_move_0 : decode cX10_move 0 = .ok (.aload_n 0, 1) := by decide +kernel
theorem dX10_move_1 : decode cX10_move 1 = .ok (.getfield 26, 3) := by decide +kernel
theorem dX10_move_4 : decode cX10_move 4 = .ok (.getfield 111, 3) := by decide +kernel
theorem dX10_move_7 : decode cX10_move 7 = .ok (.invokevirtual 152, 3) := by decide +kernel
theorem dX10_move_10 : decode cX10_move 10 = .ok (.istore_n 3, 1) := by decide +kernel
theorem dX10_move_11 : decode cX10_move 11 = .ok (.iload_n 1, 1) := by decide +kernel
theorem dX10_move_12 : decode cX10_move 12 = .ok (.iload_n 3, 1) := by decide +kernel
theorem dX10_move_13 : decode cX10_move 13 = .ok (.invokestatic 172, 3) := by decide +kernel
theorem dX10_move_16 : decode cX10_move 16 = .ok (.iload_n 2, 1) := by decide +kernel
theorem dX10_move_17 : decode cX10_move 17 = .ok (.iload_n 3, 1) := by decide +kernel
theorem dX10_move_18 : decode cX10_move 18 = .ok (.invokestatic 172, 3) := by decide +kernel
theorem dX10_move_21 : decode cX10_move 21 = .ok (.aload_n 0, 1) := by decide +kernel
theorem dX10_move_22 : decode cX10_move 22 = .ok (.getfield 30, 3) := by decide +kernel
theorem dX10_move_25 : decode cX10_move 25 = .ok (.getfield 111, 3) := by decide +kernel
theorem dX10_move_28 : decode cX10_move 28 = .ok (.invokevirtual 115, 3) := by decide +kernel
theorem dX10_move_31 : decode cX10_move 31 = .ok (.iconst 0, 1) := by decide +kernel
theorem dX10_move_32 : decode cX10_move 32 = .ok (.istore 4, 2) := by decide +kernel
theorem dX10_move_34 : decode cX10_move 34 = .ok (.iload 4, 2) := by decide +kernel
theorem dX10_move_36 : decode cX10_move 36 = .ok (.iload_n 3, 1) := by decide +kernel
theorem dX10_move_37 : decode cX10_move 37 = .ok (.if_icmp .ge 33, 3) := by decide +kernel
theorem dX10_move_40 : decode cX10_move 40 = .ok (.aload_n 0, 1) := by decide +kernel
theorem dX10_move_41 : decode cX10_move 41 = .ok (.getfield 30, 3) := by decide +kernel
theorem dX10_move_44 : decode cX10_move 44 = .ok (.getfield 111, 3) := by decide +kernel
theorem dX10_move_47 : decode cX10_move 47 = .ok (.aload_n 0, 1) := by decide +kernel
theorem dX10_move_48 : decode cX10_move 48 = .ok (.getfield 26, 3) := by decide +kernel
theorem dX10_move_51 : decode cX10_move 51 = .ok (.getfield 111, 3) := by decide +kernel
theorem dX10_move_54 : decode cX10_move 54 = .ok (.iload 4, 2) := by decide +kernel
theorem dX10_move_56 : decode cX10_move 56 = .ok (.iload_n 1, 1) := by decide +kernel
theorem dX10_move_57 : decode cX10_move 57 = .ok (.iload_n 2, 1) := by decide +kernel
theorem dX10_move_58 : decode cX10_move 58 = .ok (.invokestatic 344, 3) := by decide +kernel
theorem dX10_move_61 : decode cX10_move 61 = .ok (.invokevirtual 329, 3) := by decide +kernel
theorem dX10_move_64 : decode cX10_move 64 = .ok (.iinc 4 1, 3) := by decide +kernel
theorem dX10_move_67 : decode cX10_move 67 = .ok (.goto (-33), 3) := by decide +kernel
theorem dX10_move_70 : decode cX10_move 70 = .ok (.aload_n 0, 1) := by decide +kernel
theorem dX10_move_71 : decode cX10_move 71 = .ok (.invokevirtual 333, 3) := by decide +kernel
theorem dX10_move_74 : decode cX10_move 74 = .ok (.ireturn, 1) := by decide +kernel
theorem dX10_setWeek_0 : decode cX10_setWeek 0 = .ok (.iconst 0, 1) := by decide +kernel
theorem dX10_setWeek_1 : decode cX10_setWeek 1 = .ok (.iload_n 1, 1) := by decide +kernel
theorem dX10_setWeek_2 : decode cX10_setWeek 2 = .ok (.invokestatic 348, 3) := by decide +kernel
theorem dX10_setWeek_5 : decode cX10_setWeek 5 = .ok (.aload_n 0, 1) := by decide +kernel
theorem dX10_setWeek_6 : decode cX10_setWeek 6 = .ok (.invokevirtual 312, 3) := by decide +kernel
theorem dX10_setWeek_9 : decode cX10_setWeek 9 = .ok (.aload_n 0, 1) := by decide +kernel
theorem dX10_setWeek_10 : decode cX10_setWeek 10 = .ok (.getfield 26, 3) := by decide +kernel
theorem dX10_setWeek_13 : decode cX10_setWeek 13 = .ok (.getfield 101, 3) := by decide +kernel
theorem dX10_setWeek_16 : decode cX10_setWeek 16 = .ok (.iconst 0, 1) := by decide +kernel
theorem dX10_setWeek_17 : decode cX10_setWeek 17 = .ok (.iload_n 1, 1) := by decide +kernel
theorem dX10_setWeek_18 : decode cX10_setWeek 18 = .ok (.invokevirtual 351, 3) := by decide +kernel
theorem dX10_setWeek_21 : decode cX10_setWeek 21 = .ok (.aload_n 0, 1) := by decide +kernel
theorem dX10_setWeek_22 : decode cX10_setWeek 22 = .ok (.invokevirtual 134, 3) := by decide +kernel
theorem dX10_setWeek_25 : decode cX10_setWeek 25 = .ok (.aload_n 0, 1) := by decide +kernel
theorem dX10_setWeek_26 : decode cX10_setWeek 26 = .ok (.getfield 26, 3) := by decide +kernel
theorem dX10_setWeek_29 : decode cX10_setWeek 29 = .ok (.getfield 101, 3) := by decide +kernel
theorem dX10_setWeek_32 : decode cX10_setWeek 32 = .ok (.getfield 137, 3) := by decide +kernel
theorem dX10_setWeek_35 : decode cX10_setWeek 35 = .ok (.aload_n 0, 1) := by decide +kernel
theorem dX10_setWeek_36 : decode cX10_setWeek 36 = .ok (.getfield 26, 3) := by decide +kernel
theorem dX10_setWeek_39 : decode cX10_setWeek 39 = .ok (.getfield 101, 3) := by decide +kernel
theorem dX10_setWeek_42 : decode cX10_setWeek 42 = .ok (.iload_n 1, 1) := by decide +kernel
theorem dX10_setWeek_43 : decode cX10_setWeek 43 = .ok (.invokevirtual 297, 3) := by decide +kernel
theorem dX10_setWeek_46 : decode cX10_setWeek 46 = .ok (.invokestatic 353, 3) := by decide +kernel
theorem dX10_setWeek_49 : decode cX10_setWeek 49 = .ok (.isub, 1) := by decide +kernel
theorem dX10_setWeek_50 : decode cX10_setWeek 50 = .ok (.ireturn, 1) := by decide +kernel
theorem dX10_setVoice_0 : decode cX10_setVoice 0 = .ok (.iconst 1, 1) := by decide +kernel
theorem dX10_setVoice_1 : decode cX10_setVoice 1 = .ok (.iload_n 1, 1) := by decide +kernel
theorem dX10_setVoice_2 : decode cX10_setVoice 2 = .ok (.invokestatic 348, 3) := by decide +kernel
theorem dX10_setVoice_5 : decode cX10_setVoice 5 = .ok (.iconst 2, 1) := by decide +kernel
theorem dX10_setVoice_6 : decode cX10_setVoice 6 = .ok (.iload_n 2, 1) := by decide +kernel
theorem dX10_setVoice_7 : decode cX10_setVoice 7 = .ok (.invokestatic 348, 3) := by decide +kernel
theorem dX10_setVoice_10 : decode cX10_setVoice 10 = .ok (.aload_n 0, 1) := by decide +kernel
theorem dX10_setVoice_11 : decode cX10_setVoice 11 = .ok (.invokevirtual 312, 3) := by decide +kernel
theorem dX10_setVoice_14 : decode cX10_setVoice 14 = .ok (.aload_n 0, 1) := by decide +kernel
theorem dX10_setVoice_15 : decode cX10_setVoice 15 = .ok (.getfield 26, 3) := by decide +kernel
theorem dX10_setVoice_18 : decode cX10_setVoice 18 = .ok (.getfield 101, 3) := by decide +kernel
theorem dX10_setVoice_21 : decode cX10_setVoice 21 = .ok (.iconst 1, 1) := by decide +kernel
theorem dX10_setVoice_22 : decode cX10_setVoice 22 = .ok (.iload_n 1, 1) := by decide +kernel
theorem dX10_setVoice_23 : decode cX10_setVoice 23 = .ok (.invokevirtual 351, 3) := by decide +kernel
theorem dX10_setVoice_26 : decode cX10_setVoice 26 = .ok (.aload_n 0, 1) := by decide +kernel
theorem dX10_setVoice_27 : decode cX10_setVoice 27 = .ok (.getfield 26, 3) := by decide +kernel
theorem dX10_setVoice_30 : decode cX10_setVoice 30 = .ok (.getfield 101, 3) := by decide +kernel
theorem dX10_setVoice_33 : decode cX10_setVoice 33 = .ok (.iconst 2, 1) := by decide +kernel
theorem dX10_setVoice_34 : decode cX10_setVoice 34 = .ok (.iload_n 2, 1) := by decide +kernel
theorem dX10_setVoice_35 : decode cX10_setVoice 35 = .ok (.invokevirtual 351, 3) := by decide +kernel
theorem dX10_setVoice_38 : decode cX10_setVoice 38 = .ok (.aload_n 0, 1) := by decide +kernel
theorem dX10_setVoice_39 : decode cX10_setVoice 39 = .ok (.invokevirtual 134, 3) := by decide +kernel
theorem dX10_setVoice_42 : decode cX10_setVoice 42 = .ok (.aload_n 0, 1) := by decide +kernel
theorem dX10_setVoice_43 : decode cX10_setVoice 43 = .ok (.getfield 61, 3) := by decide +kernel
theorem dX10_setVoice_46 : decode cX10_setVoice 46 = .ok (.getfield 253, 3) := by decide +kernel
theorem dX10_setVoice_49 : decode cX10_setVoice 49 = .ok (.ireturn, 1) := by decide +kernel
theorem dX10_setSlack_0 : decode cX10_setSlack 0 = .ok (.iconst 4, 1) := by decide +kernel
theorem dX10_setSlack_1 : decode cX10_setSlack 1 = .ok (.iload_n 1, 1) := by decide +kernel
theorem dX10_setSlack_2 : decode cX10_setSlack 2 = .ok (.invokestatic 348, 3) := by decide +kernel
theorem dX10_setSlack_5 : decode cX10_setSlack 5 = .ok (.aload_n 0, 1) := by decide +kernel
theorem dX10_setSlack_6 : decode cX10_setSlack 6 = .ok (.getfield 26, 3) := by decide +kernel
theorem dX10_setSlack_9 : decode cX10_setSlack 9 = .ok (.getfield 101, 3) := by decide +kernel
theorem dX10_setSlack_12 : decode cX10_setSlack 12 = .ok (.iconst 4, 1) := by decide +kernel
theorem dX10_setSlack_13 : decode cX10_setSlack 13 = .ok (.invokevirtual 168, 3) := by decide +kernel
theorem dX10_setSlack_16 : decode cX10_setSlack 16 = .ok (.istore_n 2, 1) := by decide +kernel
theorem dX10_setSlack_17 : decode cX10_setSlack 17 = .ok (.aload_n 0, 1) := by decide +kernel
theorem dX10_setSlack_18 : decode cX10_setSlack 18 = .ok (.invokevirtual 312, 3) := by decide +kernel
theorem dX10_setSlack_21 : decode cX10_setSlack 21 = .ok (.aload_n 0, 1) := by decide +kernel
theorem dX10_setSlack_22 : decode cX10_setSlack 22 = .ok (.getfield 26, 3) := by decide +kernel
theorem dX10_setSlack_25 : decode cX10_setSlack 25 = .ok (.getfield 101, 3) := by decide +kernel
theorem dX10_setSlack_28 : decode cX10_setSlack 28 = .ok (.iconst 4, 1) := by decide +kernel
theorem dX10_setSlack_29 : decode cX10_setSlack 29 = .ok (.iload_n 1, 1) := by decide +kernel
theorem dX10_setSlack_30 : decode cX10_setSlack 30 = .ok (.invokevirtual 351, 3) := by decide +kernel
theorem dX10_setSlack_33 : decode cX10_setSlack 33 = .ok (.aload_n 0, 1) := by decide +kernel
theorem dX10_setSlack_34 : decode cX10_setSlack 34 = .ok (.invokevirtual 134, 3) := by decide +kernel
theorem dX10_setSlack_37 : decode cX10_setSlack 37 = .ok (.iload_n 2, 1) := by decide +kernel
theorem dX10_setSlack_38 : decode cX10_setSlack 38 = .ok (.ireturn, 1) := by decide +kernel
theorem dX10_writeReel_0 : decode cX10_writeReel 0 = .ok (.aload_n 0, 1) := by decide +kernel
theorem dX10_writeReel_1 : decode cX10_writeReel 1 = .ok (.getfield 19, 3) := by decide +kernel
theorem dX10_writeReel_4 : decode cX10_writeReel 4 = .ok (.aload_n 0, 1) := by decide +kernel
theorem dX10_writeReel_5 : decode cX10_writeReel 5 = .ok (.getfield 26, 3) := by decide +kernel
theorem dX10_writeReel_8 : decode cX10_writeReel 8 = .ok (.getfield 111, 3) := by decide +kernel
theorem dX10_writeReel_11 : decode cX10_writeReel 11 = .ok (.aload_n 0, 1) := by decide +kernel
theorem dX10_writeReel_12 : decode cX10_writeReel 12 = .ok (.getfield 26, 3) := by decide +kernel
theorem dX10_writeReel_15 : decode cX10_writeReel 15 = .ok (.getfield 101, 3) := by decide +kernel
theorem dX10_writeReel_18 : decode cX10_writeReel 18 = .ok (.invokevirtual 358, 3) := by decide +kernel
theorem dX10_writeReel_21 : decode cX10_writeReel 21 = .ok (.aload_n 0, 1) := by decide +kernel
theorem dX10_writeReel_22 : decode cX10_writeReel 22 = .ok (.getfield 19, 3) := by decide +kernel
theorem dX10_writeReel_25 : decode cX10_writeReel 25 = .ok (.getfield 362, 3) := by decide +kernel
theorem dX10_writeReel_28 : decode cX10_writeReel 28 = .ok (.ireturn, 1) := by decide +kernel
theorem dX10_writeVoice_0 : decode cX10_writeVoice 0 = .ok (.aload_n 0, 1) := by decide +kernel
theorem dX10_writeVoice_1 : decode cX10_writeVoice 1 = .ok (.getfield 19, 3) := by decide +kernel
theorem dX10_writeVoice_4 : decode cX10_writeVoice 4 = .ok (.aload_n 0, 1) := by decide +kernel
theorem dX10_writeVoice_5 : decode cX10_writeVoice 5 = .ok (.getfield 26, 3) := by decide +kernel
theorem dX10_writeVoice_8 : decode cX10_writeVoice 8 = .ok (.getfield 120, 3) := by decide +kernel
theorem dX10_writeVoice_11 : decode cX10_writeVoice 11 = .ok (.invokevirtual 363, 3) := by decide +kernel
theorem dX10_writeVoice_14 : decode cX10_writeVoice 14 = .ok (.aload_n 0, 1) := by decide +kernel
theorem dX10_writeVoice_15 : decode cX10_writeVoice 15 = .ok (.getfield 19, 3) := by decide +kernel
theorem dX10_writeVoice_18 : decode cX10_writeVoice 18 = .ok (.getfield 362, 3) := by decide +kernel
theorem dX10_writeVoice_21 : decode cX10_writeVoice 21 = .ok (.ireturn, 1) := by decide +kernel
theorem dX10_output_0 : decode cX10_output 0 = .ok (.aload_n 0, 1) := by decide +kernel
theorem dX10_output_1 : decode cX10_output 1 = .ok (.getfield 19, 3) := by decide +kernel
theorem dX10_output_4 : decode cX10_output 4 = .ok (.iload_n 1, 1) := by decide +kernel
theorem dX10_output_5 : decode cX10_output 5 = .ok (.invokevirtual 366, 3) := by decide +kernel
theorem dX10_output_8 : decode cX10_output 8 = .ok (.ireturn, 1) := by decide +kernel
theorem dX10_undo_0 : decode cX10_undo 0 = .ok (.aload_n 0, 1) := by decide +kernel
theorem dX10_undo_1 : decode cX10_undo 1 = .ok (.getfield 37, 3) := by decide +kernel
theorem dX10_undo_4 : decode cX10_undo 4 = .ok (.ifCond .ne 5, 3) := by decide +kernel
theorem dX10_undo_7 : decode cX10_undo 7 = .ok (.iconst (-1), 1) := by decide +kernel
theorem dX10_undo_8 : decode cX10_undo 8 = .ok (.ireturn, 1) := by decide +kernel
theorem dX10_undo_9 : decode cX10_undo 9 = .ok (.aload_n 0, 1) := by decide +kernel
theorem dX10_undo_10 : decode cX10_undo 10 = .ok (.aload_n 0, 1) := by decide +kernel
theorem dX10_undo_11 : decode cX10_undo 11 = .ok (.getfield 41, 3) := by decide +kernel
theorem dX10_undo_14 : decode cX10_undo 14 = .ok (.ifCond .ne 8, 3) := by decide +kernel
theorem dX10_undo_17 : decode cX10_undo 17 = .ok (.bipush 7, 2) := by decide +kernel
theorem dX10_undo_19 : decode cX10_undo 19 = .ok (.goto 9, 3) := by decide +kernel
theorem dX10_undo_22 : decode cX10_undo 22 = .ok (.aload_n 0, 1) := by decide +kernel
theorem dX10_undo_23 : decode cX10_undo 23 = .ok (.getfield 41, 3) := by decide +kernel
theorem dX10_undo_26 : decode cX10_undo 26 = .ok (.iconst 1, 1) := by decide +kernel
theorem dX10_undo_27 : decode cX10_undo 27 = .ok (.isub, 1) := by decide +kernel
theorem dX10_undo_28 : decode cX10_undo 28 = .ok (.putfield 41, 3) := by decide +kernel
theorem dX10_undo_31 : decode cX10_undo 31 = .ok (.aload_n 0, 1) := by decide +kernel
theorem dX10_undo_32 : decode cX10_undo 32 = .ok (.dup, 1) := by decide +kernel
theorem dX10_undo_33 : decode cX10_undo 33 = .ok (.getfield 37, 3) := by decide +kernel
theorem dX10_undo_36 : decode cX10_undo 36 = .ok (.iconst 1, 1) := by decide +kernel
theorem dX10_undo_37 : decode cX10_undo 37 = .ok (.isub, 1) := by decide +kernel
theorem dX10_undo_38 : decode cX10_undo 38 = .ok (.putfield 37, 3) := by decide +kernel
theorem dX10_undo_41 : decode cX10_undo 41 = .ok (.aload_n 0, 1) := by decide +kernel
theorem dX10_undo_42 : decode cX10_undo 42 = .ok (.getfield 26, 3) := by decide +kernel
theorem dX10_undo_45 : decode cX10_undo 45 = .ok (.aload_n 0, 1) := by decide +kernel
theorem dX10_undo_46 : decode cX10_undo 46 = .ok (.getfield 33, 3) := by decide +kernel
theorem dX10_undo_49 : decode cX10_undo 49 = .ok (.aload_n 0, 1) := by decide +kernel
theorem dX10_undo_50 : decode cX10_undo 50 = .ok (.getfield 41, 3) := by decide +kernel
theorem dX10_undo_53 : decode cX10_undo 53 = .ok (.aaload, 1) := by decide +kernel
theorem dX10_undo_54 : decode cX10_undo 54 = .ok (.invokevirtual 127, 3) := by decide +kernel
theorem dX10_undo_57 : decode cX10_undo 57 = .ok (.aload_n 0, 1) := by decide +kernel
theorem dX10_undo_58 : decode cX10_undo 58 = .ok (.invokevirtual 134, 3) := by decide +kernel
theorem dX10_undo_61 : decode cX10_undo 61 = .ok (.aload_n 0, 1) := by decide +kernel
theorem dX10_undo_62 : decode cX10_undo 62 = .ok (.getfield 37, 3) := by decide +kernel
theorem dX10_undo_65 : decode cX10_undo 65 = .ok (.ireturn, 1) := by decide +kernel
theorem dX10_save_0 : decode cX10_save 0 = .ok (.iload_n 1, 1) := by decide +kernel
theorem dX10_save_1 : decode cX10_save 1 = .ok (.iconst 0, 1) := by decide +kernel
theorem dX10_save_2 : decode cX10_save 2 = .ok (.iconst 1, 1) := by decide +kernel
theorem dX10_save_3 : decode cX10_save 3 = .ok (.invokestatic 97, 3) := by decide +kernel
theorem dX10_save_6 : decode cX10_save 6 = .ok (.aload_n 0, 1) := by decide +kernel
theorem dX10_save_7 : decode cX10_save 7 = .ok (.getfield 44, 3) := by decide +kernel
theorem dX10_save_10 : decode cX10_save 10 = .ok (.iload_n 1, 1) := by decide +kernel
theorem dX10_save_11 : decode cX10_save 11 = .ok (.aaload, 1) := by decide +kernel
theorem dX10_save_12 : decode cX10_save 12 = .ok (.aload_n 0, 1) := by decide +kernel
theorem dX10_save_13 : decode cX10_save 13 = .ok (.getfield 26, 3) := by decide +kernel
theorem dX10_save_16 : decode cX10_save 16 = .ok (.invokevirtual 127, 3) := by decide +kernel
theorem dX10_save_19 : decode cX10_save 19 = .ok (.aload_n 0, 1) := by decide +kernel
theorem dX10_save_20 : decode cX10_save 20 = .ok (.getfield 47, 3) := by decide +kernel
theorem dX10_save_23 : decode cX10_save 23 = .ok (.iload_n 1, 1) := by decide +kernel
theorem dX10_save_24 : decode cX10_save 24 = .ok (.iconst 1, 1) := by decide +kernel
theorem dX10_save_25 : decode cX10_save 25 = .ok (.bastore, 1) := by decide +kernel
theorem dX10_save_26 : decode cX10_save 26 = .ok (.return_, 1) := by decide +kernel
theorem dX10_restore_0 : decode cX10_restore 0 = .ok (.iload_n 1, 1) := by decide +kernel
theorem dX10_restore_1 : decode cX10_restore 1 = .ok (.iconst 0, 1) := by decide +kernel
theorem dX10_restore_2 : decode cX10_restore 2 = .ok (.iconst 1, 1) := by decide +kernel
theorem dX10_restore_3 : decode cX10_restore 3 = .ok (.invokestatic 97, 3) := by decide +kernel
theorem dX10_restore_6 : decode cX10_restore 6 = .ok (.aload_n 0, 1) := by decide +kernel
theorem dX10_restore_7 : decode cX10_restore 7 = .ok (.getfield 47, 3) := by decide +kernel
theorem dX10_restore_10 : decode cX10_restore 10 = .ok (.iload_n 1, 1) := by decide +kernel
theorem dX10_restore_11 : decode cX10_restore 11 = .ok (.baload, 1) := by decide +kernel
theorem dX10_restore_12 : decode cX10_restore 12 = .ok (.ifCond .ne 14, 3) := by decide +kernel
theorem dX10_restore_15 : decode cX10_restore 15 = .ok (.new 86, 3) := by decide +kernel
theorem dX10_restore_18 : decode cX10_restore 18 = .ok (.dup, 1) := by decide +kernel
theorem dX10_restore_19 : decode cX10_restore 19 = .ok (.ldc_w 369, 3) := by decide +kernel
theorem dX10_restore_22 : decode cX10_restore 22 = .ok (.invokespecial 90, 3) := by decide +kernel
theorem dX10_restore_25 : decode cX10_restore 25 = .ok (.athrow, 1) := by decide +kernel
theorem dX10_restore_26 : decode cX10_restore 26 = .ok (.aload_n 0, 1) := by decide +kernel
theorem dX10_restore_27 : decode cX10_restore 27 = .ok (.getfield 26, 3) := by decide +kernel
theorem dX10_restore_30 : decode cX10_restore 30 = .ok (.aload_n 0, 1) := by decide +kernel
theorem dX10_restore_31 : decode cX10_restore 31 = .ok (.getfield 44, 3) := by decide +kernel
theorem dX10_restore_34 : decode cX10_restore 34 = .ok (.iload_n 1, 1) := by decide +kernel
theorem dX10_restore_35 : decode cX10_restore 35 = .ok (.aaload, 1) := by decide +kernel
theorem dX10_restore_36 : decode cX10_restore 36 = .ok (.invokevirtual 127, 3) := by decide +kernel
theorem dX10_restore_39 : decode cX10_restore 39 = .ok (.aload_n 0, 1) := by decide +kernel
theorem dX10_restore_40 : decode cX10_restore 40 = .ok (.invokevirtual 131, 3) := by decide +kernel
theorem dX10_restore_43 : decode cX10_restore 43 = .ok (.aload_n 0, 1) := by decide +kernel
theorem dX10_restore_44 : decode cX10_restore 44 = .ok (.invokevirtual 134, 3) := by decide +kernel
theorem dX10_restore_47 : decode cX10_restore 47 = .ok (.return_, 1) := by decide +kernel
theorem dX10_requireIndex_0 : decode cX10_requireIndex 0 = .ok (.iload_n 0, 1) := by decide +kernel
theorem dX10_requireIndex_1 : decode cX10_requireIndex 1 = .ok (.ifCond .lt 8, 3) := by decide +kernel
theorem dX10_requireIndex_4 : decode cX10_requireIndex 4 = .ok (.iload_n 0, 1) := by decide +kernel
theorem dX10_requireIndex_5 : decode cX10_requireIndex 5 = .ok (.iload_n 1, 1) := by decide +kernel
theorem dX10_requireIndex_6 : decode cX10_requireIndex 6 = .ok (.if_icmp .lt 14, 3) := by decide +kernel
theorem dX10_requireIndex_9 : decode cX10_requireIndex 9 = .ok (.new 371, 3) := by decide +kernel
theorem dX10_requireIndex_12 : decode cX10_requireIndex 12 = .ok (.dup, 1) := by decide +kernel
theorem dX10_requireIndex_13 : decode cX10_requireIndex 13 = .ok (.ldc_w 373, 3) := by decide +kernel
theorem dX10_requireIndex_16 : decode cX10_requireIndex 16 = .ok (.invokespecial 375, 3) := by decide +kernel
theorem dX10_requireIndex_19 : decode cX10_requireIndex 19 = .ok (.athrow, 1) := by decide +kernel
theorem dX10_requireIndex_20 : decode cX10_requireIndex 20 = .ok (.return_, 1) := by decide +kernel
theorem dX10_requireRange_0 : decode cX10_requireRange 0 = .ok (.iload_n 0, 1) := by decide +kernel
theorem dX10_requireRange_1 : decode cX10_requireRange 1 = .ok (.iload_n 1, 1) := by decide +kernel
theorem dX10_requireRange_2 : decode cX10_requireRange 2 = .ok (.if_icmp .lt 8, 3) := by decide +kernel
theorem dX10_requireRange_5 : decode cX10_requireRange 5 = .ok (.iload_n 0, 1) := by decide +kernel
theorem dX10_requireRange_6 : decode cX10_requireRange 6 = .ok (.iload_n 2, 1) := by decide +kernel
theorem dX10_requireRange_7 : decode cX10_requireRange 7 = .ok (.if_icmp .le 14, 3) := by decide +kernel
theorem dX10_requireRange_10 : decode cX10_requireRange 10 = .ok (.new 376, 3) := by decide +kernel
theorem dX10_requireRange_13 : decode cX10_requireRange 13 = .ok (.dup, 1) := by decide +kernel
theorem dX10_requireRange_14 : decode cX10_requireRange 14 = .ok (.ldc_w 378, 3) := by decide +kernel
theorem dX10_requireRange_17 : decode cX10_requireRange 17 = .ok (.invokespecial 380, 3) := by decide +kernel
theorem dX10_requireRange_20 : decode cX10_requireRange 20 = .ok (.athrow, 1) := by decide +kernel
theorem dX10_requireRange_21 : decode cX10_requireRange 21 = .ok (.return_, 1) := by decide +kernel
theorem dX10_requireSetting_0 : decode cX10_requireSetting 0 = .ok (.iload_n 0, 1) := by decide +kernel
theorem dX10_requireSetting_1 : decode cX10_requireSetting 1 = .ok (.ifCond .lt 8, 3) := by decide +kernel
theorem dX10_requireSetting_4 : decode cX10_requireSetting 4 = .ok (.iload_n 0, 1) := by decide +kernel
theorem dX10_requireSetting_5 : decode cX10_requireSetting 5 = .ok (.iconst 5, 1) := by decide +kernel
theorem dX10_requireSetting_6 : decode cX10_requireSetting 6 = .ok (.if_icmp .lt 4, 3) := by decide +kernel
theorem dX10_requireSetting_9 : decode cX10_requireSetting 9 = .ok (.return_, 1) := by decide +kernel
theorem dX10_requireSetting_10 : decode cX10_requireSetting 10 = .ok (.iload_n 1, 1) := by decide +kernel
theorem dX10_requireSetting_11 : decode cX10_requireSetting 11 = .ok (.getstatic 381, 3) := by decide +kernel
theorem dX10_requireSetting_14 : decode cX10_requireSetting 14 = .ok (.iload_n 0, 1) := by decide +kernel
theorem dX10_requireSetting_15 : decode cX10_requireSetting 15 = .ok (.iaload, 1) := by decide +kernel
theorem dX10_requireSetting_16 : decode cX10_requireSetting 16 = .ok (.getstatic 384, 3) := by decide +kernel
theorem dX10_requireSetting_19 : decode cX10_requireSetting 19 = .ok (.iload_n 0, 1) := by decide +kernel
theorem dX10_requireSetting_20 : decode cX10_requireSetting 20 = .ok (.iaload, 1) := by decide +kernel
theorem dX10_requireSetting_21 : decode cX10_requireSetting 21 = .ok (.invokestatic 97, 3) := by decide +kernel
theorem dX10_requireSetting_24 : decode cX10_requireSetting 24 = .ok (.return_, 1) := by decide +kernel
theorem dX10_refuse_0 : decode cX10_refuse 0 = .ok (.iload_n 1, 1) := by decide +kernel
theorem dX10_refuse_1 : decode cX10_refuse 1 = .ok (.iconst 1, 1) := by decide +kernel
theorem dX10_refuse_2 : decode cX10_refuse 2 = .ok (.if_icmp .lt 19, 3) := by decide +kernel
theorem dX10_refuse_5 : decode cX10_refuse 5 = .ok (.iload_n 1, 1) := by decide +kernel
theorem dX10_refuse_6 : decode cX10_refuse 6 = .ok (.bipush 6, 2) := by decide +kernel
theorem dX10_refuse_8 : decode cX10_refuse 8 = .ok (.if_icmp .gt 13, 3) := by decide +kernel
theorem dX10_refuse_11 : decode cX10_refuse 11 = .ok (.aload_n 0, 1) := by decide +kernel
theorem dX10_refuse_12 : decode cX10_refuse 12 = .ok (.getfield 79, 3) := by decide +kernel
theorem dX10_refuse_15 : decode cX10_refuse 15 = .ok (.iload_n 1, 1) := by decide +kernel
theorem dX10_refuse_16 : decode cX10_refuse 16 = .ok (.dup2, 1) := by decide +kernel
theorem dX10_refuse_17 : decode cX10_refuse 17 = .ok (.iaload, 1) := by decide +kernel
theorem dX10_refuse_18 : decode cX10_refuse 18 = .ok (.iconst 1, 1) := by decide +kernel
theorem dX10_refuse_19 : decode cX10_refuse 19 = .ok (.iadd, 1) := by decide +kernel
theorem dX10_refuse_20 : decode cX10_refuse 20 = .ok (.iastore, 1) := by decide +kernel
theorem dX10_refuse_21 : decode cX10_refuse 21 = .ok (.iload_n 1, 1) := by decide +kernel
theorem dX10_refuse_22 : decode cX10_refuse 22 = .ok (.ineg, 1) := by decide +kernel
theorem dX10_refuse_23 : decode cX10_refuse 23 = .ok (.ireturn, 1) := by decide +kernel
theorem dX10_remember_0 : decode cX10_remember 0 = .ok (.aload_n 0, 1) := by decide +kernel
theorem dX10_remember_1 : decode cX10_remember 1 = .ok (.getfield 33, 3) := by decide +kernel
theorem dX10_remember_4 : decode cX10_remember 4 = .ok (.aload_n 0, 1) := by decide +kernel
theorem dX10_remember_5 : decode cX10_remember 5 = .ok (.getfield 41, 3) := by decide +kernel
theorem dX10_remember_8 : decode cX10_remember 8 = .ok (.aaload, 1) := by decide +kernel
theorem dX10_remember_9 : decode cX10_remember 9 = .ok (.aload_n 0, 1) := by decide +kernel
theorem dX10_remember_10 : decode cX10_remember 10 = .ok (.getfield 26, 3) := by decide +kernel
theorem dX10_remember_13 : decode cX10_remember 13 = .ok (.invokevirtual 127, 3) := by decide +kernel
theorem dX10_remember_16 : decode cX10_remember 16 = .ok (.aload_n 0, 1) := by decide +kernel
theorem dX10_remember_17 : decode cX10_remember 17 = .ok (.aload_n 0, 1) := by decide +kernel
theorem dX10_remember_18 : decode cX10_remember 18 = .ok (.getfield 41, 3) := by decide +kernel
theorem dX10_remember_21 : decode cX10_remember 21 = .ok (.bipush 7, 2) := by decide +kernel
theorem dX10_remember_23 : decode cX10_remember 23 = .ok (.if_icmp .ne 7, 3) := by decide +kernel
theorem dX10_remember_26 : decode cX10_remember 26 = .ok (.iconst 0, 1) := by decide +kernel
theorem dX10_remember_27 : decode cX10_remember 27 = .ok (.goto 9, 3) := by decide +kernel
theorem dX10_remember_30 : decode cX10_remember 30 = .ok (.aload_n 0, 1) := by decide +kernel
theorem dX10_remember_31 : decode cX10_remember 31 = .ok (.getfield 41, 3) := by decide +kernel
theorem dX10_remember_34 : decode cX10_remember 34 = .ok (.iconst 1, 1) := by decide +kernel
theorem dX10_remember_35 : decode cX10_remember 35 = .ok (.iadd, 1) := by decide +kernel
theorem dX10_remember_36 : decode cX10_remember 36 = .ok (.putfield 41, 3) := by decide +kernel
theorem dX10_remember_39 : decode cX10_remember 39 = .ok (.aload_n 0, 1) := by decide +kernel
theorem dX10_remember_40 : decode cX10_remember 40 = .ok (.aload_n 0, 1) := by decide +kernel
theorem dX10_remember_41 : decode cX10_remember 41 = .ok (.getfield 37, 3) := by decide +kernel
theorem dX10_remember_44 : decode cX10_remember 44 = .ok (.iconst 1, 1) := by decide +kernel
theorem dX10_remember_45 : decode cX10_remember 45 = .ok (.iadd, 1) := by decide +kernel
theorem dX10_remember_46 : decode cX10_remember 46 = .ok (.bipush 8, 2) := by decide +kernel
theorem dX10_remember_48 : decode cX10_remember 48 = .ok (.invokestatic 387, 3) := by decide +kernel
theorem dX10_remember_51 : decode cX10_remember 51 = .ok (.putfield 37, 3) := by decide +kernel
theorem dX10_remember_54 : decode cX10_remember 54 = .ok (.aload_n 0, 1) := by decide +kernel
theorem dX10_remember_55 : decode cX10_remember 55 = .ok (.getfield 79, 3) := by decide +kernel
theorem dX10_remember_58 : decode cX10_remember 58 = .ok (.iconst 0, 1) := by decide +kernel
theorem dX10_remember_59 : decode cX10_remember 59 = .ok (.dup2, 1) := by decide +kernel
theorem dX10_remember_60 : decode cX10_remember 60 = .ok (.iaload, 1) := by decide +kernel
theorem dX10_remember_61 : decode cX10_remember 61 = .ok (.iconst 1, 1) := by decide +kernel
theorem dX10_remember_62 : decode cX10_remember 62 = .ok (.iadd, 1) := by decide +kernel
theorem dX10_remember_63 : decode cX10_remember 63 = .ok (.iastore, 1) := by decide +kernel
theorem dX10_remember_64 : decode cX10_remember 64 = .ok (.return_, 1) := by decide +kernel
theorem dX10_forgetActs_0 : decode cX10_forgetActs 0 = .ok (.aload_n 0, 1) := by decide +kernel
theorem dX10_forgetActs_1 : decode cX10_forgetActs 1 = .ok (.iconst 0, 1) := by decide +kernel
theorem dX10_forgetActs_2 : decode cX10_forgetActs 2 = .ok (.putfield 37, 3) := by decide +kernel
theorem dX10_forgetActs_5 : decode cX10_forgetActs 5 = .ok (.aload_n 0, 1) := by decide +kernel
theorem dX10_forgetActs_6 : decode cX10_forgetActs 6 = .ok (.iconst 0, 1) := by decide +kernel
theorem dX10_forgetActs_7 : decode cX10_forgetActs 7 = .ok (.putfield 41, 3) := by decide +kernel
theorem dX10_forgetActs_10 : decode cX10_forgetActs 10 = .ok (.return_, 1) := by decide +kernel
theorem dX10_settle_0 : decode cX10_settle 0 = .ok (.aload_n 0, 1) := by decide +kernel
theorem dX10_settle_1 : decode cX10_settle 1 = .ok (.getfield 54, 3) := by decide +kernel
theorem dX10_settle_4 : decode cX10_settle 4 = .ok (.aload_n 0, 1) := by decide +kernel
theorem dX10_settle_5 : decode cX10_settle 5 = .ok (.getfield 26, 3) := by decide +kernel
theorem dX10_settle_8 : decode cX10_settle 8 = .ok (.getfield 111, 3) := by decide +kernel
theorem dX10_settle_11 : decode cX10_settle 11 = .ok (.invokevirtual 392, 3) := by decide +kernel
theorem dX10_settle_14 : decode cX10_settle 14 = .ok (.aload_n 0, 1) := by decide +kernel
theorem dX10_settle_15 : decode cX10_settle 15 = .ok (.getfield 61, 3) := by decide +kernel
theorem dX10_settle_18 : decode cX10_settle 18 = .ok (.aload_n 0, 1) := by decide +kernel
theorem dX10_settle_19 : decode cX10_settle 19 = .ok (.getfield 26, 3) := by decide +kernel
theorem dX10_settle_22 : decode cX10_settle 22 = .ok (.getfield 120, 3) := by decide +kernel
theorem dX10_settle_25 : decode cX10_settle 25 = .ok (.aload_n 0, 1) := by decide +kernel
theorem dX10_settle_26 : decode cX10_settle 26 = .ok (.getfield 26, 3) := by decide +kernel
theorem dX10_settle_29 : decode cX10_settle 29 = .ok (.getfield 101, 3) := by decide +kernel
theorem dX10_settle_32 : decode cX10_settle 32 = .ok (.invokevirtual 395, 3) := by decide +kernel
theorem dX10_settle_35 : decode cX10_settle 35 = .ok (.return_, 1) := by decide +kernel
theorem dX10_takeDraftItems_0 : decode cX10_takeDraftItems 0 = .ok (.aload_n 0, 1) := by decide +kernel
theorem dX10_takeDraftItems_1 : decode cX10_takeDraftItems 1 = .ok (.invokevirtual 312, 3) := by decide +kernel
theorem dX10_takeDraftItems_4 : decode cX10_takeDraftItems 4 = .ok (.aload_n 0, 1) := by decide +kernel
theorem dX10_takeDraftItems_5 : decode cX10_takeDraftItems 5 = .ok (.getfield 26, 3) := by decide +kernel
theorem dX10_takeDraftItems_8 : decode cX10_takeDraftItems 8 = .ok (.getfield 111, 3) := by decide +kernel
theorem dX10_takeDraftItems_11 : decode cX10_takeDraftItems 11 = .ok (.aload_n 0, 1) := by decide +kernel
theorem dX10_takeDraftItems_12 : decode cX10_takeDraftItems 12 = .ok (.getfield 30, 3) := by decide +kernel
theorem dX10_takeDraftItems_15 : decode cX10_takeDraftItems 15 = .ok (.getfield 111, 3) := by decide +kernel
theorem dX10_takeDraftItems_18 : decode cX10_takeDraftItems 18 = .ok (.invokevirtual 315, 3) := by decide +kernel
theorem dX10_takeDraftItems_21 : decode cX10_takeDraftItems 21 = .ok (.aload_n 0, 1) := by decide +kernel
theorem dX10_takeDraftItems_22 : decode cX10_takeDraftItems 22 = .ok (.getfield 54, 3) := by decide +kernel
theorem dX10_takeDraftItems_25 : decode cX10_takeDraftItems 25 = .ok (.aload_n 0, 1) := by decide +kernel
theorem dX10_takeDraftItems_26 : decode cX10_takeDraftItems 26 = .ok (.getfield 26, 3) := by decide +kernel
theorem dX10_takeDraftItems_29 : decode cX10_takeDraftItems 29 = .ok (.getfield 111, 3) := by decide +kernel
theorem dX10_takeDraftItems_32 : decode cX10_takeDraftItems 32 = .ok (.invokevirtual 392, 3) := by decide +kernel
theorem dX10_takeDraftItems_35 : decode cX10_takeDraftItems 35 = .ok (.aload_n 0, 1) := by decide +kernel
theorem dX10_takeDraftItems_36 : decode cX10_takeDraftItems 36 = .ok (.getfield 54, 3) := by decide +kernel
theorem dX10_takeDraftItems_39 : decode cX10_takeDraftItems 39 = .ok (.getfield 250, 3) := by decide +kernel
theorem dX10_takeDraftItems_42 : decode cX10_takeDraftItems 42 = .ok (.ireturn, 1) := by decide +kernel
theorem dX10_topMovedTo_0 : decode cX10_topMovedTo 0 = .ok (.iload_n 0, 1) := by decide +kernel
theorem dX10_topMovedTo_1 : decode cX10_topMovedTo 1 = .ok (.iload_n 2, 1) := by decide +kernel
theorem dX10_topMovedTo_2 : decode cX10_topMovedTo 2 = .ok (.if_icmp .ne 5, 3) := by decide +kernel
theorem dX10_topMovedTo_5 : decode cX10_topMovedTo 5 = .ok (.iload_n 1, 1) := by decide +kernel
theorem dX10_topMovedTo_6 : decode cX10_topMovedTo 6 = .ok (.ireturn, 1) := by decide +kernel
theorem dX10_topMovedTo_7 : decode cX10_topMovedTo 7 = .ok (.iload_n 0, 1) := by decide +kernel
theorem dX10_topMovedTo_8 : decode cX10_topMovedTo 8 = .ok (.iload_n 2, 1) := by decide +kernel
theorem dX10_topMovedTo_9 : decode cX10_topMovedTo 9 = .ok (.if_icmp .ge 7, 3) := by decide +kernel
theorem dX10_topMovedTo_12 : decode cX10_topMovedTo 12 = .ok (.iload_n 0, 1) := by decide +kernel
theorem dX10_topMovedTo_13 : decode cX10_topMovedTo 13 = .ok (.goto 6, 3) := by decide +kernel
theorem dX10_topMovedTo_16 : decode cX10_topMovedTo 16 = .ok (.iload_n 0, 1) := by decide +kernel
theorem dX10_topMovedTo_17 : decode cX10_topMovedTo 17 = .ok (.iconst 1, 1) := by decide +kernel
theorem dX10_topMovedTo_18 : decode cX10_topMovedTo 18 = .ok (.isub, 1) := by decide +kernel
theorem dX10_topMovedTo_19 : decode cX10_topMovedTo 19 = .ok (.istore_n 3, 1) := by decide +kernel
theorem dX10_topMovedTo_20 : decode cX10_topMovedTo 20 = .ok (.iload_n 3, 1) := by decide +kernel
theorem dX10_topMovedTo_21 : decode cX10_topMovedTo 21 = .ok (.iload_n 1, 1) := by decide +kernel
theorem dX10_topMovedTo_22 : decode cX10_topMovedTo 22 = .ok (.if_icmp .ge 7, 3) := by decide +kernel
theorem dX10_topMovedTo_25 : decode cX10_topMovedTo 25 = .ok (.iload_n 3, 1) := by decide +kernel
theorem dX10_topMovedTo_26 : decode cX10_topMovedTo 26 = .ok (.goto 6, 3) := by decide +kernel
theorem dX10_topMovedTo_29 : decode cX10_topMovedTo 29 = .ok (.iload_n 3, 1) := by decide +kernel
theorem dX10_topMovedTo_30 : decode cX10_topMovedTo 30 = .ok (.iconst 1, 1) := by decide +kernel
theorem dX10_topMovedTo_31 : decode cX10_topMovedTo 31 = .ok (.iadd, 1) := by decide +kernel
theorem dX10_topMovedTo_32 : decode cX10_topMovedTo 32 = .ok (.ireturn, 1) := by decide +kernel
theorem dX10_isBanned_0 : decode cX10_isBanned 0 = .ok (.aload_n 0, 1) := by decide +kernel
theorem dX10_isBanned_1 : decode cX10_isBanned 1 = .ok (.getfield 26, 3) := by decide +kernel
theorem dX10_isBanned_4 : decode cX10_isBanned 4 = .ok (.getfield 101, 3) := by decide +kernel
theorem dX10_isBanned_7 : decode cX10_isBanned 7 = .ok (.aload_n 0, 1) := by decide +kernel
theorem dX10_isBanned_8 : decode cX10_isBanned 8 = .ok (.getfield 26, 3) := by decide +kernel
theorem dX10_isBanned_11 : decode cX10_isBanned 11 = .ok (.getfield 101, 3) := by decide +kernel
theorem dX10_isBanned_14 : decode cX10_isBanned 14 = .ok (.iconst 0, 1) := by decide +kernel
theorem dX10_isBanned_15 : decode cX10_isBanned 15 = .ok (.invokevirtual 168, 3) := by decide +kernel
theorem dX10_isBanned_18 : decode cX10_isBanned 18 = .ok (.invokevirtual 297, 3) := by decide +kernel
theorem dX10_isBanned_21 : decode cX10_isBanned 21 = .ok (.istore_n 2, 1) := by decide +kernel
theorem dX10_isBanned_22 : decode cX10_isBanned 22 = .ok (.iload_n 2, 1) := by decide +kernel
theorem dX10_isBanned_23 : decode cX10_isBanned 23 = .ok (.iload_n 1, 1) := by decide +kernel
theorem dX10_isBanned_24 : decode cX10_isBanned 24 = .ok (.ishr, 1) := by decide +kernel
theorem dX10_isBanned_25 : decode cX10_isBanned 25 = .ok (.iconst 1, 1) := by decide +kernel
theorem dX10_isBanned_26 : decode cX10_isBanned 26 = .ok (.iand, 1) := by decide +kernel
theorem dX10_isBanned_27 : decode cX10_isBanned 27 = .ok (.ifCond .ne 7, 3) := by decide +kernel
theorem dX10_isBanned_30 : decode cX10_isBanned 30 = .ok (.iconst 1, 1) := by decide +kernel
theorem dX10_isBanned_31 : decode cX10_isBanned 31 = .ok (.goto 4, 3) := by decide +kernel
theorem dX10_isBanned_34 : decode cX10_isBanned 34 = .ok (.iconst 0, 1) := by decide +kernel
theorem dX10_isBanned_35 : decode cX10_isBanned 35 = .ok (.ireturn, 1) := by decide +kernel
theorem dX10_shownWords_0 : decode cX10_shownWords 0 = .ok (.iconst 0, 1) := by decide +kernel
theorem dX10_shownWords_1 : decode cX10_shownWords 1 = .ok (.istore_n 2, 1) := by decide +kernel
theorem dX10_shownWords_2 : decode cX10_shownWords 2 = .ok (.iconst 0, 1) := by decide +kernel
theorem dX10_shownWords_3 : decode cX10_shownWords 3 = .ok (.istore_n 3, 1) := by decide +kernel
theorem dX10_shownWords_4 : decode cX10_shownWords 4 = .ok (.iload_n 3, 1) := by decide +kernel
theorem dX10_shownWords_5 : decode cX10_shownWords 5 = .ok (.aload_n 0, 1) := by decide +kernel
theorem dX10_shownWords_6 : decode cX10_shownWords 6 = .ok (.getfield 61, 3) := by decide +kernel
theorem dX10_shownWords_9 : decode cX10_shownWords 9 = .ok (.getfield 399, 3) := by decide +kernel
theorem dX10_shownWords_12 : decode cX10_shownWords 12 = .ok (.if_icmp .ge 45, 3) := by decide +kernel
theorem dX10_shownWords_15 : decode cX10_shownWords 15 = .ok (.aload_n 0, 1) := by decide +kernel
theorem dX10_shownWords_16 : decode cX10_shownWords 16 = .ok (.getfield 61, 3) := by decide +kernel
theorem dX10_shownWords_19 : decode cX10_shownWords 19 = .ok (.getfield 225, 3) := by decide +kernel
theorem dX10_shownWords_22 : decode cX10_shownWords 22 = .ok (.iload_n 3, 1) := by decide +kernel
theorem dX10_shownWords_23 : decode cX10_shownWords 23 = .ok (.iaload, 1) := by decide +kernel
theorem dX10_shownWords_24 : decode cX10_shownWords 24 = .ok (.iload_n 1, 1) := by decide +kernel
theorem dX10_shownWords_25 : decode cX10_shownWords 25 = .ok (.if_icmp .ne 26, 3) := by decide +kernel
theorem dX10_shownWords_28 : decode cX10_shownWords 28 = .ok (.aload_n 0, 1) := by decide +kernel
theorem dX10_shownWords_29 : decode cX10_shownWords 29 = .ok (.getfield 54, 3) := by decide +kernel
theorem dX10_shownWords_32 : decode cX10_shownWords 32 = .ok (.iload_n 1, 1) := by decide +kernel
theorem dX10_shownWords_33 : decode cX10_shownWords 33 = .ok (.aload_n 0, 1) := by decide +kernel
theorem dX10_shownWords_34 : decode cX10_shownWords 34 = .ok (.getfield 61, 3) := by decide +kernel
theorem dX10_shownWords_37 : decode cX10_shownWords 37 = .ok (.getfield 219, 3) := by decide +kernel
theorem dX10_shownWords_40 : decode cX10_shownWords 40 = .ok (.iload_n 3, 1) := by decide +kernel
theorem dX10_shownWords_41 : decode cX10_shownWords 41 = .ok (.iaload, 1) := by decide +kernel
theorem dX10_shownWords_42 : decode cX10_shownWords 42 = .ok (.invokevirtual 400, 3) := by decide +kernel
theorem dX10_shownWords_45 : decode cX10_shownWords 45 = .ok (.ifCond .eq 6, 3) := by decide +kernel
theorem dX10_shownWords_48 : decode cX10_shownWords 48 = .ok (.iinc 2 1, 3) := by decide +kernel
theorem dX10_shownWords_51 : decode cX10_shownWords 51 = .ok (.iinc 3 1, 3) := by decide +kernel
theorem dX10_shownWords_54 : decode cX10_shownWords 54 = .ok (.goto (-50), 3) := by decide +kernel
theorem dX10_shownWords_57 : decode cX10_shownWords 57 = .ok (.iload_n 2, 1) := by decide +kernel
theorem dX10_shownWords_58 : decode cX10_shownWords 58 = .ok (.ireturn, 1) := by decide +kernel
theorem dX10_findChoice_0 : decode cX10_findChoice 0 = .ok (.aload_n 0, 1) := by decide +kernel
theorem dX10_findChoice_1 : decode cX10_findChoice 1 = .ok (.getfield 75, 3) := by decide +kernel
theorem dX10_findChoice_4 : decode cX10_findChoice 4 = .ok (.aload_n 0, 1) := by decide +kernel
theorem dX10_findChoice_5 : decode cX10_findChoice 5 = .ok (.getfield 26, 3) := by decide +kernel
theorem dX10_findChoice_8 : decode cX10_findChoice 8 = .ok (.getfield 101, 3) := by decide +kernel
theorem dX10_findChoice_11 : decode cX10_findChoice 11 = .ok (.aload_n 0, 1) := by decide +kernel
theorem dX10_findChoice_12 : decode cX10_findChoice 12 = .ok (.getfield 26, 3) := by decide +kernel
theorem dX10_findChoice_15 : decode cX10_findChoice 15 = .ok (.getfield 101, 3) := by decide +kernel
theorem dX10_findChoice_18 : decode cX10_findChoice 18 = .ok (.iload_n 1, 1) := by decide +kernel
theorem dX10_findChoice_19 : decode cX10_findChoice 19 = .ok (.invokevirtual 297, 3) := by decide +kernel
theorem dX10_findChoice_22 : decode cX10_findChoice 22 = .ok (.aload_n 0, 1) := by decide +kernel
theorem dX10_findChoice_23 : decode cX10_findChoice 23 = .ok (.getfield 61, 3) := by decide +kernel
theorem dX10_findChoice_26 : decode cX10_findChoice 26 = .ok (.getfield 253, 3) := by decide +kernel
theorem dX10_findChoice_29 : decode cX10_findChoice 29 = .ok (.invokevirtual 404, 3) := by decide +kernel
theorem dX10_findChoice_32 : decode cX10_findChoice 32 = .ok (.return_, 1) := by decide +kernel
theorem dX10_gapAtSpeed_0 : decode cX10_gapAtSpeed 0 = .ok (.aload_n 0, 1) := by decide +kernel
theorem dX10_gapAtSpeed_1 : decode cX10_gapAtSpeed 1 = .ok (.getfield 26, 3) := by decide +kernel
theorem dX10_gapAtSpeed_4 : decode cX10_gapAtSpeed 4 = .ok (.getfield 120, 3) := by decide +kernel
theorem dX10_gapAtSpeed_7 : decode cX10_gapAtSpeed 7 = .ok (.iload_n 1, 1) := by decide +kernel
theorem dX10_gapAtSpeed_8 : decode cX10_gapAtSpeed 8 = .ok (.aload_n 0, 1) := by decide +kernel
theorem dX10_gapAtSpeed_9 : decode cX10_gapAtSpeed 9 = .ok (.getfield 26, 3) := by decide +kernel
theorem dX10_gapAtSpeed_12 : decode cX10_gapAtSpeed 12 = .ok (.getfield 101, 3) := by decide +kernel
theorem dX10_gapAtSpeed_15 : decode cX10_gapAtSpeed 15 = .ok (.iconst 2, 1) := by decide +kernel
theorem dX10_gapAtSpeed_16 : decode cX10_gapAtSpeed 16 = .ok (.invokevirtual 168, 3) := by decide +kernel
theorem dX10_gapAtSpeed_19 : decode cX10_gapAtSpeed 19 = .ok (.invokevirtual 407, 3) := by decide +kernel
theorem dX10_gapAtSpeed_22 : decode cX10_gapAtSpeed 22 = .ok (.istore_n 2, 1) := by decide +kernel
theorem dX10_gapAtSpeed_23 : decode cX10_gapAtSpeed 23 = .ok (.aload_n 0, 1) := by decide +kernel
theorem dX10_gapAtSpeed_24 : decode cX10_gapAtSpeed 24 = .ok (.getfield 54, 3) := by decide +kernel
theorem dX10_gapAtSpeed_27 : decode cX10_gapAtSpeed 27 = .ok (.getfield 250, 3) := by decide +kernel
theorem dX10_gapAtSpeed_30 : decode cX10_gapAtSpeed 30 = .ok (.iload_n 2, 1) := by decide +kernel
theorem dX10_gapAtSpeed_31 : decode cX10_gapAtSpeed 31 = .ok (.isub, 1) := by decide +kernel
theorem dX10_gapAtSpeed_32 : decode cX10_gapAtSpeed 32 = .ok (.invokestatic 410, 3) := by decide +kernel
theorem dX10_gapAtSpeed_35 : decode cX10_gapAtSpeed 35 = .ok (.ireturn, 1) := by decide +kernel
theorem dJ6_bitCount_0f7a4_0 : decode cJ6_bitCount_0f7a4 0 = .ok (.iload_n 0, 1) := by decide +kernel
theorem dJ6_bitCount_0f7a4_1 : decode cJ6_bitCount_0f7a4 1 = .ok (.iload_n 0, 1) := by decide +kernel
theorem dJ6_bitCount_0f7a4_2 : decode cJ6_bitCount_0f7a4 2 = .ok (.iconst 1, 1) := by decide +kernel
theorem dJ6_bitCount_0f7a4_3 : decode cJ6_bitCount_0f7a4 3 = .ok (.iushr, 1) := by decide +kernel
theorem dJ6_bitCount_0f7a4_4 : decode cJ6_bitCount_0f7a4 4 = .ok (.ldc_w 265, 3) := by decide +kernel
theorem dJ6_bitCount_0f7a4_7 : decode cJ6_bitCount_0f7a4 7 = .ok (.iand, 1) := by decide +kernel
theorem dJ6_bitCount_0f7a4_8 : decode cJ6_bitCount_0f7a4 8 = .ok (.isub, 1) := by decide +kernel
theorem dJ6_bitCount_0f7a4_9 : decode cJ6_bitCount_0f7a4 9 = .ok (.istore_n 0, 1) := by decide +kernel
theorem dJ6_bitCount_0f7a4_10 : decode cJ6_bitCount_0f7a4 10 = .ok (.iload_n 0, 1) := by decide +kernel
theorem dJ6_bitCount_0f7a4_11 : decode cJ6_bitCount_0f7a4 11 = .ok (.ldc_w 266, 3) := by decide +kernel
theorem dJ6_bitCount_0f7a4_14 : decode cJ6_bitCount_0f7a4 14 = .ok (.iand, 1) := by decide +kernel
theorem dJ6_bitCount_0f7a4_15 : decode cJ6_bitCount_0f7a4 15 = .ok (.iload_n 0, 1) := by decide +kernel
theorem dJ6_bitCount_0f7a4_16 : decode cJ6_bitCount_0f7a4 16 = .ok (.iconst 2, 1) := by decide +kernel
theorem dJ6_bitCount_0f7a4_17 : decode cJ6_bitCount_0f7a4 17 = .ok (.iushr, 1) := by decide +kernel
theorem dJ6_bitCount_0f7a4_18 : decode cJ6_bitCount_0f7a4 18 = .ok (.ldc_w 266, 3) := by decide +kernel
theorem dJ6_bitCount_0f7a4_21 : decode cJ6_bitCount_0f7a4 21 = .ok (.iand, 1) := by decide +kernel
theorem dJ6_bitCount_0f7a4_22 : decode cJ6_bitCount_0f7a4 22 = .ok (.iadd, 1) := by decide +kernel
theorem dJ6_bitCount_0f7a4_23 : decode cJ6_bitCount_0f7a4 23 = .ok (.istore_n 0, 1) := by decide +kernel
theorem dJ6_bitCount_0f7a4_24 : decode cJ6_bitCount_0f7a4 24 = .ok (.iload_n 0, 1) := by decide +kernel
theorem dJ6_bitCount_0f7a4_25 : decode cJ6_bitCount_0f7a4 25 = .ok (.iload_n 0, 1) := by decide +kernel
theorem dJ6_bitCount_0f7a4_26 : decode cJ6_bitCount_0f7a4 26 = .ok (.iconst 4, 1) := by decide +kernel
theorem dJ6_bitCount_0f7a4_27 : decode cJ6_bitCount_0f7a4 27 = .ok (.iushr, 1) := by decide +kernel
theorem dJ6_bitCount_0f7a4_28 : decode cJ6_bitCount_0f7a4 28 = .ok (.iadd, 1) := by decide +kernel
theorem dJ6_bitCount_0f7a4_29 : decode cJ6_bitCount_0f7a4 29 = .ok (.ldc_w 267, 3) := by decide +kernel
theorem dJ6_bitCount_0f7a4_32 : decode cJ6_bitCount_0f7a4 32 = .ok (.iand, 1) := by decide +kernel
theorem dJ6_bitCount_0f7a4_33 : decode cJ6_bitCount_0f7a4 33 = .ok (.istore_n 0, 1) := by decide +kernel
theorem dJ6_bitCount_0f7a4_34 : decode cJ6_bitCount_0f7a4 34 = .ok (.iload_n 0, 1) := by decide +kernel
theorem dJ6_bitCount_0f7a4_35 : decode cJ6_bitCount_0f7a4 35 = .ok (.iload_n 0, 1) := by decide +kernel
theorem dJ6_bitCount_0f7a4_36 : decode cJ6_bitCount_0f7a4 36 = .ok (.bipush 8, 2) := by decide +kernel
theorem dJ6_bitCount_0f7a4_38 : decode cJ6_bitCount_0f7a4 38 = .ok (.iushr, 1) := by decide +kernel
theorem dJ6_bitCount_0f7a4_39 : decode cJ6_bitCount_0f7a4 39 = .ok (.iadd, 1) := by decide +kernel
theorem dJ6_bitCount_0f7a4_40 : decode cJ6_bitCount_0f7a4 40 = .ok (.istore_n 0, 1) := by decide +kernel
theorem dJ6_bitCount_0f7a4_41 : decode cJ6_bitCount_0f7a4 41 = .ok (.iload_n 0, 1) := by decide +kernel
theorem dJ6_bitCount_0f7a4_42 : decode cJ6_bitCount_0f7a4 42 = .ok (.iload_n 0, 1) := by decide +kernel
theorem dJ6_bitCount_0f7a4_43 : decode cJ6_bitCount_0f7a4 43 = .ok (.bipush 16, 2) := by decide +kernel
theorem dJ6_bitCount_0f7a4_45 : decode cJ6_bitCount_0f7a4 45 = .ok (.iushr, 1) := by decide +kernel
theorem dJ6_bitCount_0f7a4_46 : decode cJ6_bitCount_0f7a4 46 = .ok (.iadd, 1) := by decide +kernel
theorem dJ6_bitCount_0f7a4_47 : decode cJ6_bitCount_0f7a4 47 = .ok (.istore_n 0, 1) := by decide +kernel
theorem dJ6_bitCount_0f7a4_48 : decode cJ6_bitCount_0f7a4 48 = .ok (.iload_n 0, 1) := by decide +kernel
theorem dJ6_bitCount_0f7a4_49 : decode cJ6_bitCount_0f7a4 49 = .ok (.bipush 63, 2) := by decide +kernel
theorem dJ6_bitCount_0f7a4_51 : decode cJ6_bitCount_0f7a4 51 = .ok (.iand, 1) := by decide +kernel
theorem dJ6_bitCount_0f7a4_52 : decode cJ6_bitCount_0f7a4 52 = .ok (.ireturn, 1) := by decide +kernel
theorem dJ9_abs_0f7a4_0 : decode cJ9_abs_0f7a4 0 = .ok (.iload_n 0, 1) := by decide +kernel
theorem dJ9_abs_0f7a4_1 : decode cJ9_abs_0f7a4 1 = .ok (.ifCond .ge 8, 3) := by decide +kernel
theorem dJ9_abs_0f7a4_4 : decode cJ9_abs_0f7a4 4 = .ok (.iload_n 0, 1) := by decide +kernel
theorem dJ9_abs_0f7a4_5 : decode cJ9_abs_0f7a4 5 = .ok (.ineg, 1) := by decide +kernel
theorem dJ9_abs_0f7a4_6 : decode cJ9_abs_0f7a4 6 = .ok (.goto 4, 3) := by decide +kernel
theorem dJ9_abs_0f7a4_9 : decode cJ9_abs_0f7a4 9 = .ok (.iload_n 0, 1) := by decide +kernel
theorem dJ9_abs_0f7a4_10 : decode cJ9_abs_0f7a4 10 = .ok (.ireturn, 1) := by decide +kernel
theorem dJ9_max_7cf53_0 : decode cJ9_max_7cf53 0 = .ok (.iload_n 0, 1) := by decide +kernel
theorem dJ9_max_7cf53_1 : decode cJ9_max_7cf53 1 = .ok (.iload_n 1, 1) := by decide +kernel
theorem dJ9_max_7cf53_2 : decode cJ9_max_7cf53 2 = .ok (.if_icmp .lt 7, 3) := by decide +kernel
theorem dJ9_max_7cf53_5 : decode cJ9_max_7cf53 5 = .ok (.iload_n 0, 1) := by decide +kernel
theorem dJ9_max_7cf53_6 : decode cJ9_max_7cf53 6 = .ok (.goto 4, 3) := by decide +kernel
theorem dJ9_max_7cf53_9 : decode cJ9_max_7cf53 9 = .ok (.iload_n 1, 1) := by decide +kernel
theorem dJ9_max_7cf53_10 : decode cJ9_max_7cf53 10 = .ok (.ireturn, 1) := by decide +kernel
theorem dJ9_min_7cf53_0 : decode cJ9_min_7cf53 0 = .ok (.iload_n 0, 1) := by decide +kernel
theorem dJ9_min_7cf53_1 : decode cJ9_min_7cf53 1 = .ok (.iload_n 1, 1) := by decide +kernel
theorem dJ9_min_7cf53_2 : decode cJ9_min_7cf53 2 = .ok (.if_icmp .gt 7, 3) := by decide +kernel
theorem dJ9_min_7cf53_5 : decode cJ9_min_7cf53 5 = .ok (.iload_n 0, 1) := by decide +kernel
theorem dJ9_min_7cf53_6 : decode cJ9_min_7cf53 6 = .ok (.goto 4, 3) := by decide +kernel
theorem dJ9_min_7cf53_9 : decode cJ9_min_7cf53 9 = .ok (.iload_n 1, 1) := by decide +kernel
theorem dJ9_min_7cf53_10 : decode cJ9_min_7cf53 10 = .ok (.ireturn, 1) := by decide +kernel
theorem dJ0_length_8abf5_0 : decode cJ0_length_8abf5 0 = .ok (.aload_n 0, 1) := by decide +kernel
theorem dJ0_length_8abf5_1 : decode cJ0_length_8abf5 1 = .ok (.getfield 9, 3) := by decide +kernel
theorem dJ0_length_8abf5_4 : decode cJ0_length_8abf5 4 = .ok (.arraylength, 1) := by decide +kernel
theorem dJ0_length_8abf5_5 : decode cJ0_length_8abf5 5 = .ok (.aload_n 0, 1) := by decide +kernel
theorem dJ0_length_8abf5_6 : decode cJ0_length_8abf5 6 = .ok (.invokevirtual 335, 3) := by decide +kernel
theorem dJ0_length_8abf5_9 : decode cJ0_length_8abf5 9 = .ok (.ishr, 1) := by decide +kernel
theorem dJ0_length_8abf5_10 : decode cJ0_length_8abf5 10 = .ok (.ireturn, 1) := by decide +kernel
theorem dJ0_charAt_5068e_0 : decode cJ0_charAt_5068e 0 = .ok (.aload_n 0, 1) := by decide +kernel
theorem dJ0_charAt_5068e_1 : decode cJ0_charAt_5068e 1 = .ok (.invokevirtual 492, 3) := by decide +kernel
theorem dJ0_charAt_5068e_4 : decode cJ0_charAt_5068e 4 = .ok (.ifCond .eq 12, 3) := by decide +kernel
theorem dJ0_charAt_5068e_7 : decode cJ0_charAt_5068e 7 = .ok (.aload_n 0, 1) := by decide +kernel
theorem dJ0_charAt_5068e_8 : decode cJ0_charAt_5068e 8 = .ok (.getfield 9, 3) := by decide +kernel
theorem dJ0_charAt_5068e_11 : decode cJ0_charAt_5068e 11 = .ok (.iload_n 1, 1) := by decide +kernel
theorem dJ0_charAt_5068e_12 : decode cJ0_charAt_5068e 12 = .ok (.invokestatic 495, 3) := by decide +kernel
theorem dJ0_charAt_5068e_15 : decode cJ0_charAt_5068e 15 = .ok (.ireturn, 1) := by decide +kernel
theorem dJ0_charAt_5068e_16 : decode cJ0_charAt_5068e 16 = .ok (.aload_n 0, 1) := by decide +kernel
theorem dJ0_charAt_5068e_17 : decode cJ0_charAt_5068e 17 = .ok (.getfield 9, 3) := by decide +kernel
theorem dJ0_charAt_5068e_20 : decode cJ0_charAt_5068e 20 = .ok (.iload_n 1, 1) := by decide +kernel
theorem dJ0_charAt_5068e_21 : decode cJ0_charAt_5068e 21 = .ok (.invokestatic 498, 3) := by decide +kernel
theorem dJ0_charAt_5068e_24 : decode cJ0_charAt_5068e 24 = .ok (.ireturn, 1) := by decide +kernel
theorem dJ0_coder_7d493_0 : decode cJ0_coder_7d493 0 = .ok (.getstatic 38, 3) := by decide +kernel
theorem dJ0_coder_7d493_3 : decode cJ0_coder_7d493 3 = .ok (.ifCond .eq 10, 3) := by decide +kernel
theorem dJ0_coder_7d493_6 : decode cJ0_coder_7d493 6 = .ok (.aload_n 0, 1) := by decide +kernel
theorem dJ0_coder_7d493_7 : decode cJ0_coder_7d493 7 = .ok (.getfield 15, 3) := by decide +kernel
theorem dJ0_coder_7d493_10 : decode cJ0_coder_7d493 10 = .ok (.goto 4, 3) := by decide +kernel
theorem dJ0_coder_7d493_13 : decode cJ0_coder_7d493 13 = .ok (.iconst 1, 1) := by decide +kernel
theorem dJ0_coder_7d493_14 : decode cJ0_coder_7d493 14 = .ok (.ireturn, 1) := by decide +kernel
theorem dJ0_isLatin1_aae02_0 : decode cJ0_isLatin1_aae02 0 = .ok (.getstatic 38, 3) := by decide +kernel
theorem dJ0_isLatin1_aae02_3 : decode cJ0_isLatin1_aae02 3 = .ok (.ifCond .eq 14, 3) := by decide +kernel
theorem dJ0_isLatin1_aae02_6 : decode cJ0_isLatin1_aae02 6 = .ok (.aload_n 0, 1) := by decide +kernel
theorem dJ0_isLatin1_aae02_7 : decode cJ0_isLatin1_aae02 7 = .ok (.getfield 15, 3) := by decide +kernel
theorem dJ0_isLatin1_aae02_10 : decode cJ0_isLatin1_aae02 10 = .ok (.ifCond .ne 7, 3) := by decide +kernel
theorem dJ0_isLatin1_aae02_13 : decode cJ0_isLatin1_aae02 13 = .ok (.iconst 1, 1) := by decide +kernel
theorem dJ0_isLatin1_aae02_14 : decode cJ0_isLatin1_aae02 14 = .ok (.goto 4, 3) := by decide +kernel
theorem dJ0_isLatin1_aae02_17 : decode cJ0_isLatin1_aae02 17 = .ok (.iconst 0, 1) := by decide +kernel
theorem dJ0_isLatin1_aae02_18 : decode cJ0_isLatin1_aae02 18 = .ok (.ireturn, 1) := by decide +kernel
theorem dJ0_checkIndex_df160_0 : decode cJ0_checkIndex_df160 0 = .ok (.iload_n 0, 1) := by decide +kernel
theorem dJ0_checkIndex_df160_1 : decode cJ0_checkIndex_df160 1 = .ok (.iload_n 1, 1) := by decide +kernel
theorem dJ0_checkIndex_df160_2 : decode cJ0_checkIndex_df160 2 = .ok (.getstatic 1053, 3) := by decide +kernel
theorem dJ0_checkIndex_df160_5 : decode cJ0_checkIndex_df160 5 = .ok (.invokestatic 1059, 3) := by decide +kernel
theorem dJ0_checkIndex_df160_8 : decode cJ0_checkIndex_df160 8 = .ok (.pop, 1) := by decide +kernel
theorem dJ0_checkIndex_df160_9 : decode cJ0_checkIndex_df160 9 = .ok (.return_, 1) := by decide +kernel
theorem dJ1_charAt_3b067_0 : decode cJ1_charAt_3b067 0 = .ok (.iload_n 1, 1) := by decide +kernel
theorem dJ1_charAt_3b067_1 : decode cJ1_charAt_3b067 1 = .ok (.aload_n 0, 1) := by decide +kernel
theorem dJ1_charAt_3b067_2 : decode cJ1_charAt_3b067 2 = .ok (.arraylength, 1) := by decide +kernel
theorem dJ1_charAt_3b067_3 : decode cJ1_charAt_3b067 3 = .ok (.invokestatic 9, 3) := by decide +kernel
theorem dJ1_charAt_3b067_6 : decode cJ1_charAt_3b067 6 = .ok (.aload_n 0, 1) := by decide +kernel
theorem dJ1_charAt_3b067_7 : decode cJ1_charAt_3b067 7 = .ok (.iload_n 1, 1) := by decide +kernel
theorem dJ1_charAt_3b067_8 : decode cJ1_charAt_3b067 8 = .ok (.baload, 1) := by decide +kernel
theorem dJ1_charAt_3b067_9 : decode cJ1_charAt_3b067 9 = .ok (.sipush 255, 3) := by decide +kernel
theorem dJ1_charAt_3b067_12 : decode cJ1_charAt_3b067 12 = .ok (.iand, 1) := by decide +kernel
theorem dJ1_charAt_3b067_13 : decode cJ1_charAt_3b067 13 = .ok (.i2c, 1) := by decide +kernel
theorem dJ1_charAt_3b067_14 : decode cJ1_charAt_3b067 14 = .ok (.ireturn, 1) := by decide +kernel
theorem dJ2_getChar_3b067_0 : decode cJ2_getChar_3b067 0 = .ok (.getstatic 44, 3) := by decide +kernel
theorem dJ2_getChar_3b067_3 : decode cJ2_getChar_3b067 3 = .ok (.ifCond .ne 25, 3) := by decide +kernel
theorem dJ2_getChar_3b067_6 : decode cJ2_getChar_3b067 6 = .ok (.iload_n 1, 1) := by decide +kernel
theorem dJ2_getChar_3b067_7 : decode cJ2_getChar_3b067 7 = .ok (.ifCond .lt 11, 3) := by decide +kernel
theorem dJ2_getChar_3b067_10 : decode cJ2_getChar_3b067 10 = .ok (.iload_n 1, 1) := by decide +kernel
theorem dJ2_getChar_3b067_11 : decode cJ2_getChar_3b067 11 = .ok (.aload_n 0, 1) := by decide +kernel
theorem dJ2_getChar_3b067_12 : decode cJ2_getChar_3b067 12 = .ok (.invokestatic 48, 3) := by decide +kernel
theorem dJ2_getChar_3b067_15 : decode cJ2_getChar_3b067 15 = .ok (.if_icmp .lt 13, 3) := by decide +kernel
theorem dJ2_getChar_3b067_18 : decode cJ2_getChar_3b067 18 = .ok (.new 52, 3) := by decide +kernel
theorem dJ2_getChar_3b067_21 : decode cJ2_getChar_3b067 21 = .ok (.dup, 1) := by decide +kernel
theorem dJ2_getChar_3b067_22 : decode cJ2_getChar_3b067 22 = .ok (.ldc 54, 2) := by decide +kernel
theorem dJ2_getChar_3b067_24 : decode cJ2_getChar_3b067 24 = .ok (.invokespecial 56, 3) := by decide +kernel
theorem dJ2_getChar_3b067_27 : decode cJ2_getChar_3b067 27 = .ok (.athrow, 1) := by decide +kernel
theorem dJ2_getChar_3b067_28 : decode cJ2_getChar_3b067 28 = .ok (.iload_n 1, 1) := by decide +kernel
theorem dJ2_getChar_3b067_29 : decode cJ2_getChar_3b067 29 = .ok (.iconst 1, 1) := by decide +kernel
theorem dJ2_getChar_3b067_30 : decode cJ2_getChar_3b067 30 = .ok (.ishl, 1) := by decide +kernel
theorem dJ2_getChar_3b067_31 : decode cJ2_getChar_3b067 31 = .ok (.istore_n 1, 1) := by decide +kernel
theorem dJ2_getChar_3b067_32 : decode cJ2_getChar_3b067 32 = .ok (.aload_n 0, 1) := by decide +kernel
theorem dJ2_getChar_3b067_33 : decode cJ2_getChar_3b067 33 = .ok (.iload_n 1, 1) := by decide +kernel
theorem dJ2_getChar_3b067_34 : decode cJ2_getChar_3b067 34 = .ok (.iinc 1 1, 3) := by decide +kernel
theorem dJ2_getChar_3b067_37 : decode cJ2_getChar_3b067 37 = .ok (.baload, 1) := by decide +kernel
theorem dJ2_getChar_3b067_38 : decode cJ2_getChar_3b067 38 = .ok (.sipush 255, 3) := by decide +kernel
theorem dJ2_getChar_3b067_41 : decode cJ2_getChar_3b067 41 = .ok (.iand, 1) := by decide +kernel
theorem dJ2_getChar_3b067_42 : decode cJ2_getChar_3b067 42 = .ok (.getstatic 59, 3) := by decide +kernel
theorem dJ2_getChar_3b067_45 : decode cJ2_getChar_3b067 45 = .ok (.ishl, 1) := by decide +kernel
theorem dJ2_getChar_3b067_46 : decode cJ2_getChar_3b067 46 = .ok (.aload_n 0, 1) := by decide +kernel
theorem dJ2_getChar_3b067_47 : decode cJ2_getChar_3b067 47 = .ok (.iload_n 1, 1) := by decide +kernel
theorem dJ2_getChar_3b067_48 : decode cJ2_getChar_3b067 48 = .ok (.baload, 1) := by decide +kernel
theorem dJ2_getChar_3b067_49 : decode cJ2_getChar_3b067 49 = .ok (.sipush 255, 3) := by decide +kernel
theorem dJ2_getChar_3b067_52 : decode cJ2_getChar_3b067 52 = .ok (.iand, 1) := by decide +kernel
theorem dJ2_getChar_3b067_53 : decode cJ2_getChar_3b067 53 = .ok (.getstatic 63, 3) := by decide +kernel
theorem dJ2_getChar_3b067_56 : decode cJ2_getChar_3b067 56 = .ok (.ishl, 1) := by decide +kernel
theorem dJ2_getChar_3b067_57 : decode cJ2_getChar_3b067 57 = .ok (.ior, 1) := by decide +kernel
theorem dJ2_getChar_3b067_58 : decode cJ2_getChar_3b067 58 = .ok (.i2c, 1) := by decide +kernel
theorem dJ2_getChar_3b067_59 : decode cJ2_getChar_3b067 59 = .ok (.ireturn, 1) := by decide +kernel
theorem dJ2_length_9d52b_0 : decode cJ2_length_9d52b 0 = .ok (.aload_n 0, 1) := by decide +kernel
theorem dJ2_length_9d52b_1 : decode cJ2_length_9d52b 1 = .ok (.arraylength, 1) := by decide +kernel
theorem dJ2_length_9d52b_2 : decode cJ2_length_9d52b 2 = .ok (.iconst 1, 1) := by decide +kernel
theorem dJ2_length_9d52b_3 : decode cJ2_length_9d52b 3 = .ok (.ishr, 1) := by decide +kernel
theorem dJ2_length_9d52b_4 : decode cJ2_length_9d52b 4 = .ok (.ireturn, 1) := by decide +kernel
theorem dJ2_charAt_3b067_0 : decode cJ2_charAt_3b067 0 = .ok (.iload_n 1, 1) := by decide +kernel
theorem dJ2_charAt_3b067_1 : decode cJ2_charAt_3b067 1 = .ok (.aload_n 0, 1) := by decide +kernel
theorem dJ2_charAt_3b067_2 : decode cJ2_charAt_3b067 2 = .ok (.invokestatic 67, 3) := by decide +kernel
theorem dJ2_charAt_3b067_5 : decode cJ2_charAt_3b067 5 = .ok (.aload_n 0, 1) := by decide +kernel
theorem dJ2_charAt_3b067_6 : decode cJ2_charAt_3b067 6 = .ok (.iload_n 1, 1) := by decide +kernel
theorem dJ2_charAt_3b067_7 : decode cJ2_charAt_3b067 7 = .ok (.invokestatic 71, 3) := by decide +kernel
theorem dJ2_charAt_3b067_10 : decode cJ2_charAt_3b067 10 = .ok (.ireturn, 1) := by decide +kernel
theorem dJ2_checkIndex_2214a_0 : decode cJ2_checkIndex_2214a 0 = .ok (.iload_n 0, 1) := by decide +kernel
theorem dJ2_checkIndex_2214a_1 : decode cJ2_checkIndex_2214a 1 = .ok (.aload_n 1, 1) := by decide +kernel
theorem dJ2_checkIndex_2214a_2 : decode cJ2_checkIndex_2214a 2 = .ok (.invokestatic 48, 3) := by decide +kernel
theorem dJ2_checkIndex_2214a_5 : decode cJ2_checkIndex_2214a 5 = .ok (.invokestatic 414, 3) := by decide +kernel
theorem dJ2_checkIndex_2214a_8 : decode cJ2_checkIndex_2214a 8 = .ok (.return_, 1) := by decide +kernel
theorem dJ3_checkIndex_8e157_0 : decode cJ3_checkIndex_8e157 0 = .ok (.iload_n 0, 1) := by decide +kernel
theorem dJ3_checkIndex_8e157_1 : decode cJ3_checkIndex_8e157 1 = .ok (.ifCond .lt 8, 3) := by decide +kernel
theorem dJ3_checkIndex_8e157_4 : decode cJ3_checkIndex_8e157 4 = .ok (.iload_n 0, 1) := by decide +kernel
theorem dJ3_checkIndex_8e157_5 : decode cJ3_checkIndex_8e157 5 = .ok (.iload_n 1, 1) := by decide +kernel
theorem dJ3_checkIndex_8e157_6 : decode cJ3_checkIndex_8e157 6 = .ok (.if_icmp .lt 10, 3) := by decide +kernel
theorem dJ3_checkIndex_8e157_9 : decode cJ3_checkIndex_8e157 9 = .ok (.aload_n 2, 1) := by decide +kernel
theorem dJ3_checkIndex_8e157_10 : decode cJ3_checkIndex_8e157 10 = .ok (.iload_n 0, 1) := by decide +kernel
theorem dJ3_checkIndex_8e157_11 : decode cJ3_checkIndex_8e157 11 = .ok (.iload_n 1, 1) := by decide +kernel
theorem dJ3_checkIndex_8e157_12 : decode cJ3_checkIndex_8e157 12 = .ok (.invokestatic 95, 3) := by decide +kernel
theorem dJ3_checkIndex_8e157_15 : decode cJ3_checkIndex_8e157 15 = .ok (.athrow, 1) := by decide +kernel
theorem dJ3_checkIndex_8e157_16 : decode cJ3_checkIndex_8e157 16 = .ok (.iload_n 0, 1) := by decide +kernel
theorem dJ3_checkIndex_8e157_17 : decode cJ3_checkIndex_8e157 17 = .ok (.ireturn, 1) := by decide +kernel
