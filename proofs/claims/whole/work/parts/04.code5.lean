theorem dX7_seed_25 : decode cX7_seed 25 = .ok (.iload_n 1, 1) := by decide +kernel
theorem dX7_seed_26 : decode cX7_seed 26 = .ok (.istore_n 3, 1) := by decide +kernel
theorem dX7_seed_27 : decode cX7_seed 27 = .ok (.iload_n 3, 1) := by decide +kernel
theorem dX7_seed_28 : decode cX7_seed 28 = .ok (.iload_n 1, 1) := by decide +kernel
theorem dX7_seed_29 : decode cX7_seed 29 = .ok (.sipush 200, 3) := by decide +kernel
theorem dX7_seed_32 : decode cX7_seed 32 = .ok (.iadd, 1) := by decide +kernel
theorem dX7_seed_33 : decode cX7_seed 33 = .ok (.if_icmp .ge 29, 3) := by decide +kernel
theorem dX7_seed_36 : decode cX7_seed 36 = .ok (.iload_n 3, 1) := by decide +kernel
theorem dX7_seed_37 : decode cX7_seed 37 = .ok (.ldc 111, 2) := by decide +kernel
theorem dX7_seed_39 : decode cX7_seed 39 = .ok (.if_icmp .gt 23, 3) := by decide +kernel
theorem dX7_seed_42 : decode cX7_seed 42 = .ok (.aload_n 0, 1) := by decide +kernel
theorem dX7_seed_43 : decode cX7_seed 43 = .ok (.iload_n 3, 1) := by decide +kernel
theorem dX7_seed_44 : decode cX7_seed 44 = .ok (.invokevirtual 162, 3) := by decide +kernel
theorem dX7_seed_47 : decode cX7_seed 47 = .ok (.iload_n 2, 1) := by decide +kernel
theorem dX7_seed_48 : decode cX7_seed 48 = .ok (.invokestatic 77, 3) := by decide +kernel
theorem dX7_seed_51 : decode cX7_seed 51 = .ok (.ifCond .eq 5, 3) := by decide +kernel
theorem dX7_seed_54 : decode cX7_seed 54 = .ok (.iload_n 3, 1) := by decide +kernel
theorem dX7_seed_55 : decode cX7_seed 55 = .ok (.ireturn, 1) := by decide +kernel
theorem dX7_seed_56 : decode cX7_seed 56 = .ok (.iinc 3 1, 3) := by decide +kernel
theorem dX7_seed_59 : decode cX7_seed 59 = .ok (.goto (-32), 3) := by decide +kernel
theorem dX7_seed_62 : decode cX7_seed 62 = .ok (.iconst (-1), 1) := by decide +kernel
theorem dX7_seed_63 : decode cX7_seed 63 = .ok (.ireturn, 1) := by decide +kernel
theorem dX7_at_0 : decode cX7_at 0 = .ok (.iload_n 1, 1) := by decide +kernel
theorem dX7_at_1 : decode cX7_at 1 = .ok (.ifCond .ge 12, 3) := by decide +kernel
theorem dX7_at_4 : decode cX7_at 4 = .ok (.aload_n 0, 1) := by decide +kernel
theorem dX7_at_5 : decode cX7_at 5 = .ok (.bipush (-2), 2) := by decide +kernel
theorem dX7_at_7 : decode cX7_at 7 = .ok (.invokevirtual 41, 3) := by decide +kernel
theorem dX7_at_10 : decode cX7_at 10 = .ok (.goto 25, 3) := by decide +kernel
theorem dX7_at_13 : decode cX7_at 13 = .ok (.iload_n 1, 1) := by decide +kernel
theorem dX7_at_14 : decode cX7_at 14 = .ok (.aload_n 0, 1) := by decide +kernel
theorem dX7_at_15 : decode cX7_at 15 = .ok (.getfield 7, 3) := by decide +kernel
theorem dX7_at_18 : decode cX7_at 18 = .ok (.iconst 3, 1) := by decide +kernel
theorem dX7_at_19 : decode cX7_at 19 = .ok (.iaload, 1) := by decide +kernel
theorem dX7_at_20 : decode cX7_at 20 = .ok (.if_icmp .ge 14, 3) := by decide +kernel
theorem dX7_at_23 : decode cX7_at 23 = .ok (.aload_n 0, 1) := by decide +kernel
theorem dX7_at_24 : decode cX7_at 24 = .ok (.getfield 7, 3) := by decide +kernel
theorem dX7_at_27 : decode cX7_at 27 = .ok (.iconst 4, 1) := by decide +kernel
theorem dX7_at_28 : decode cX7_at 28 = .ok (.iload_n 1, 1) := by decide +kernel
theorem dX7_at_29 : decode cX7_at 29 = .ok (.iadd, 1) := by decide +kernel
theorem dX7_at_30 : decode cX7_at 30 = .ok (.iaload, 1) := by decide +kernel
theorem dX7_at_31 : decode cX7_at 31 = .ok (.goto 4, 3) := by decide +kernel
theorem dX7_at_34 : decode cX7_at 34 = .ok (.iconst (-1), 1) := by decide +kernel
theorem dX7_at_35 : decode cX7_at 35 = .ok (.ireturn, 1) := by decide +kernel
theorem dX7_placeTold_0 : decode cX7_placeTold 0 = .ok (.aload_n 0, 1) := by decide +kernel
theorem dX7_placeTold_1 : decode cX7_placeTold 1 = .ok (.getfield 7, 3) := by decide +kernel
theorem dX7_placeTold_4 : decode cX7_placeTold 4 = .ok (.iconst 4, 1) := by decide +kernel
theorem dX7_placeTold_5 : decode cX7_placeTold 5 = .ok (.iload_n 1, 1) := by decide +kernel
theorem dX7_placeTold_6 : decode cX7_placeTold 6 = .ok (.iadd, 1) := by decide +kernel
theorem dX7_placeTold_7 : decode cX7_placeTold 7 = .ok (.iaload, 1) := by decide +kernel
theorem dX7_placeTold_8 : decode cX7_placeTold 8 = .ok (.istore_n 3, 1) := by decide +kernel
theorem dX7_placeTold_9 : decode cX7_placeTold 9 = .ok (.aload_n 0, 1) := by decide +kernel
theorem dX7_placeTold_10 : decode cX7_placeTold 10 = .ok (.iload_n 1, 1) := by decide +kernel
theorem dX7_placeTold_11 : decode cX7_placeTold 11 = .ok (.sipush 255, 3) := by decide +kernel
theorem dX7_placeTold_14 : decode cX7_placeTold 14 = .ok (.invokevirtual 80, 3) := by decide +kernel
theorem dX7_placeTold_17 : decode cX7_placeTold 17 = .ok (.aload_n 0, 1) := by decide +kernel
theorem dX7_placeTold_18 : decode cX7_placeTold 18 = .ok (.invokevirtual 66, 3) := by decide +kernel
theorem dX7_placeTold_21 : decode cX7_placeTold 21 = .ok (.istore 4, 2) := by decide +kernel
theorem dX7_placeTold_23 : decode cX7_placeTold 23 = .ok (.iload_n 2, 1) := by decide +kernel
theorem dX7_placeTold_24 : decode cX7_placeTold 24 = .ok (.tableswitch 93 0 3 #[32, 34, 50, 71], 32) := by decide +kernel
theorem dX7_placeTold_56 : decode cX7_placeTold 56 = .ok (.iload_n 1, 1) := by decide +kernel
theorem dX7_placeTold_57 : decode cX7_placeTold 57 = .ok (.ireturn, 1) := by decide +kernel
theorem dX7_placeTold_58 : decode cX7_placeTold 58 = .ok (.aload_n 0, 1) := by decide +kernel
theorem dX7_placeTold_59 : decode cX7_placeTold 59 = .ok (.iload_n 3, 1) := by decide +kernel
theorem dX7_placeTold_60 : decode cX7_placeTold 60 = .ok (.iload 4, 2) := by decide +kernel
theorem dX7_placeTold_62 : decode cX7_placeTold 62 = .ok (.invokevirtual 56, 3) := by decide +kernel
theorem dX7_placeTold_65 : decode cX7_placeTold 65 = .ok (.ifCond .eq 7, 3) := by decide +kernel
theorem dX7_placeTold_68 : decode cX7_placeTold 68 = .ok (.iconst 1, 1) := by decide +kernel
theorem dX7_placeTold_69 : decode cX7_placeTold 69 = .ok (.goto 4, 3) := by decide +kernel
theorem dX7_placeTold_72 : decode cX7_placeTold 72 = .ok (.iconst 0, 1) := by decide +kernel
theorem dX7_placeTold_73 : decode cX7_placeTold 73 = .ok (.ireturn, 1) := by decide +kernel
theorem dX7_placeTold_74 : decode cX7_placeTold 74 = .ok (.aload_n 0, 1) := by decide +kernel
theorem dX7_placeTold_75 : decode cX7_placeTold 75 = .ok (.iload_n 3, 1) := by decide +kernel
theorem dX7_placeTold_76 : decode cX7_placeTold 76 = .ok (.iload 4, 2) := by decide +kernel
theorem dX7_placeTold_78 : decode cX7_placeTold 78 = .ok (.invokevirtual 56, 3) := by decide +kernel
theorem dX7_placeTold_81 : decode cX7_placeTold 81 = .ok (.aload_n 0, 1) := by decide +kernel
theorem dX7_placeTold_82 : decode cX7_placeTold 82 = .ok (.iload_n 3, 1) := by decide +kernel
theorem dX7_placeTold_83 : decode cX7_placeTold 83 = .ok (.invokevirtual 70, 3) := by decide +kernel
theorem dX7_placeTold_86 : decode cX7_placeTold 86 = .ok (.if_icmp .eq 7, 3) := by decide +kernel
theorem dX7_placeTold_89 : decode cX7_placeTold 89 = .ok (.iconst 1, 1) := by decide +kernel
theorem dX7_placeTold_90 : decode cX7_placeTold 90 = .ok (.goto 4, 3) := by decide +kernel
theorem dX7_placeTold_93 : decode cX7_placeTold 93 = .ok (.iconst 0, 1) := by decide +kernel
theorem dX7_placeTold_94 : decode cX7_placeTold 94 = .ok (.ireturn, 1) := by decide +kernel
theorem dX7_placeTold_95 : decode cX7_placeTold 95 = .ok (.iload 4, 2) := by decide +kernel
theorem dX7_placeTold_97 : decode cX7_placeTold 97 = .ok (.aload_n 0, 1) := by decide +kernel
theorem dX7_placeTold_98 : decode cX7_placeTold 98 = .ok (.iload_n 3, 1) := by decide +kernel
theorem dX7_placeTold_99 : decode cX7_placeTold 99 = .ok (.iconst 0, 1) := by decide +kernel
theorem dX7_placeTold_100 : decode cX7_placeTold 100 = .ok (.invokevirtual 52, 3) := by decide +kernel
theorem dX7_placeTold_103 : decode cX7_placeTold 103 = .ok (.iand, 1) := by decide +kernel
theorem dX7_placeTold_104 : decode cX7_placeTold 104 = .ok (.iload 4, 2) := by decide +kernel
theorem dX7_placeTold_106 : decode cX7_placeTold 106 = .ok (.iconst (-1), 1) := by decide +kernel
theorem dX7_placeTold_107 : decode cX7_placeTold 107 = .ok (.ixor, 1) := by decide +kernel
theorem dX7_placeTold_108 : decode cX7_placeTold 108 = .ok (.aload_n 0, 1) := by decide +kernel
theorem dX7_placeTold_109 : decode cX7_placeTold 109 = .ok (.iload_n 3, 1) := by decide +kernel
theorem dX7_placeTold_110 : decode cX7_placeTold 110 = .ok (.iconst 1, 1) := by decide +kernel
theorem dX7_placeTold_111 : decode cX7_placeTold 111 = .ok (.invokevirtual 52, 3) := by decide +kernel
theorem dX7_placeTold_114 : decode cX7_placeTold 114 = .ok (.iand, 1) := by decide +kernel
theorem dX7_placeTold_115 : decode cX7_placeTold 115 = .ok (.ior, 1) := by decide +kernel
theorem dX7_placeTold_116 : decode cX7_placeTold 116 = .ok (.ireturn, 1) := by decide +kernel
theorem dX7_placeTold_117 : decode cX7_placeTold 117 = .ok (.aload_n 0, 1) := by decide +kernel
theorem dX7_placeTold_118 : decode cX7_placeTold 118 = .ok (.iload_n 3, 1) := by decide +kernel
theorem dX7_placeTold_119 : decode cX7_placeTold 119 = .ok (.iload 4, 2) := by decide +kernel
theorem dX7_placeTold_121 : decode cX7_placeTold 121 = .ok (.invokevirtual 63, 3) := by decide +kernel
theorem dX7_placeTold_124 : decode cX7_placeTold 124 = .ok (.ireturn, 1) := by decide +kernel
theorem dX7_inRow_0 : decode cX7_inRow 0 = .ok (.aload_n 0, 1) := by decide +kernel
theorem dX7_inRow_1 : decode cX7_inRow 1 = .ok (.iload_n 1, 1) := by decide +kernel
theorem dX7_inRow_2 : decode cX7_inRow 2 = .ok (.invokevirtual 100, 3) := by decide +kernel
theorem dX7_inRow_5 : decode cX7_inRow 5 = .ok (.ifCond .eq 12, 3) := by decide +kernel
theorem dX7_inRow_8 : decode cX7_inRow 8 = .ok (.iload_n 2, 1) := by decide +kernel
theorem dX7_inRow_9 : decode cX7_inRow 9 = .ok (.iconst 0, 1) := by decide +kernel
theorem dX7_inRow_10 : decode cX7_inRow 10 = .ok (.iconst 4, 1) := by decide +kernel
theorem dX7_inRow_11 : decode cX7_inRow 11 = .ok (.invokestatic 48, 3) := by decide +kernel
theorem dX7_inRow_14 : decode cX7_inRow 14 = .ok (.ifCond .ne 10, 3) := by decide +kernel
theorem dX7_inRow_17 : decode cX7_inRow 17 = .ok (.aload_n 0, 1) := by decide +kernel
theorem dX7_inRow_18 : decode cX7_inRow 18 = .ok (.bipush (-2), 2) := by decide +kernel
theorem dX7_inRow_20 : decode cX7_inRow 20 = .ok (.invokevirtual 41, 3) := by decide +kernel
theorem dX7_inRow_23 : decode cX7_inRow 23 = .ok (.ireturn, 1) := by decide +kernel
theorem dX7_inRow_24 : decode cX7_inRow 24 = .ok (.aload_n 0, 1) := by decide +kernel
theorem dX7_inRow_25 : decode cX7_inRow 25 = .ok (.iload_n 1, 1) := by decide +kernel
theorem dX7_inRow_26 : decode cX7_inRow 26 = .ok (.invokevirtual 93, 3) := by decide +kernel
theorem dX7_inRow_29 : decode cX7_inRow 29 = .ok (.istore_n 3, 1) := by decide +kernel
theorem dX7_inRow_30 : decode cX7_inRow 30 = .ok (.iload_n 3, 1) := by decide +kernel
theorem dX7_inRow_31 : decode cX7_inRow 31 = .ok (.iconst (-1), 1) := by decide +kernel
theorem dX7_inRow_32 : decode cX7_inRow 32 = .ok (.if_icmp .ne 12, 3) := by decide +kernel
theorem dX7_inRow_35 : decode cX7_inRow 35 = .ok (.aload_n 0, 1) := by decide +kernel
theorem dX7_inRow_36 : decode cX7_inRow 36 = .ok (.bipush (-3), 2) := by decide +kernel
theorem dX7_inRow_38 : decode cX7_inRow 38 = .ok (.invokevirtual 41, 3) := by decide +kernel
theorem dX7_inRow_41 : decode cX7_inRow 41 = .ok (.goto 9, 3) := by decide +kernel
theorem dX7_inRow_44 : decode cX7_inRow 44 = .ok (.aload_n 0, 1) := by decide +kernel
theorem dX7_inRow_45 : decode cX7_inRow 45 = .ok (.iload_n 3, 1) := by decide +kernel
theorem dX7_inRow_46 : decode cX7_inRow 46 = .ok (.iload_n 2, 1) := by decide +kernel
theorem dX7_inRow_47 : decode cX7_inRow 47 = .ok (.invokevirtual 165, 3) := by decide +kernel
theorem dX7_inRow_50 : decode cX7_inRow 50 = .ok (.ireturn, 1) := by decide +kernel
theorem dX7_who_0 : decode cX7_who 0 = .ok (.aload_n 0, 1) := by decide +kernel
theorem dX7_who_1 : decode cX7_who 1 = .ok (.iload_n 1, 1) := by decide +kernel
theorem dX7_who_2 : decode cX7_who 2 = .ok (.invokevirtual 100, 3) := by decide +kernel
theorem dX7_who_5 : decode cX7_who 5 = .ok (.ifCond .eq 12, 3) := by decide +kernel
theorem dX7_who_8 : decode cX7_who 8 = .ok (.iload_n 2, 1) := by decide +kernel
theorem dX7_who_9 : decode cX7_who 9 = .ok (.iconst 0, 1) := by decide +kernel
theorem dX7_who_10 : decode cX7_who 10 = .ok (.iconst 5, 1) := by decide +kernel
theorem dX7_who_11 : decode cX7_who 11 = .ok (.invokestatic 48, 3) := by decide +kernel
theorem dX7_who_14 : decode cX7_who 14 = .ok (.ifCond .ne 10, 3) := by decide +kernel
theorem dX7_who_17 : decode cX7_who 17 = .ok (.aload_n 0, 1) := by decide +kernel
theorem dX7_who_18 : decode cX7_who 18 = .ok (.bipush (-2), 2) := by decide +kernel
theorem dX7_who_20 : decode cX7_who 20 = .ok (.invokevirtual 41, 3) := by decide +kernel
theorem dX7_who_23 : decode cX7_who 23 = .ok (.ireturn, 1) := by decide +kernel
theorem dX7_who_24 : decode cX7_who 24 = .ok (.aload_n 0, 1) := by decide +kernel
theorem dX7_who_25 : decode cX7_who 25 = .ok (.iload_n 1, 1) := by decide +kernel
theorem dX7_who_26 : decode cX7_who 26 = .ok (.invokevirtual 93, 3) := by decide +kernel
theorem dX7_who_29 : decode cX7_who 29 = .ok (.istore_n 3, 1) := by decide +kernel
theorem dX7_who_30 : decode cX7_who 30 = .ok (.iload_n 3, 1) := by decide +kernel
theorem dX7_who_31 : decode cX7_who 31 = .ok (.iconst (-1), 1) := by decide +kernel
theorem dX7_who_32 : decode cX7_who 32 = .ok (.if_icmp .ne 10, 3) := by decide +kernel
theorem dX7_who_35 : decode cX7_who 35 = .ok (.aload_n 0, 1) := by decide +kernel
theorem dX7_who_36 : decode cX7_who 36 = .ok (.bipush (-3), 2) := by decide +kernel
theorem dX7_who_38 : decode cX7_who 38 = .ok (.invokevirtual 41, 3) := by decide +kernel
theorem dX7_who_41 : decode cX7_who 41 = .ok (.ireturn, 1) := by decide +kernel
theorem dX7_who_42 : decode cX7_who 42 = .ok (.iconst (-1), 1) := by decide +kernel
theorem dX7_who_43 : decode cX7_who 43 = .ok (.istore 4, 2) := by decide +kernel
theorem dX7_who_45 : decode cX7_who 45 = .ok (.aload_n 0, 1) := by decide +kernel
theorem dX7_who_46 : decode cX7_who 46 = .ok (.getfield 7, 3) := by decide +kernel
theorem dX7_who_49 : decode cX7_who 49 = .ok (.iconst 1, 1) := by decide +kernel
theorem dX7_who_50 : decode cX7_who 50 = .ok (.iaload, 1) := by decide +kernel
theorem dX7_who_51 : decode cX7_who 51 = .ok (.istore 5, 2) := by decide +kernel
theorem dX7_who_53 : decode cX7_who 53 = .ok (.iconst 0, 1) := by decide +kernel
theorem dX7_who_54 : decode cX7_who 54 = .ok (.istore 6, 2) := by decide +kernel
theorem dX7_who_56 : decode cX7_who 56 = .ok (.iload 6, 2) := by decide +kernel
theorem dX7_who_58 : decode cX7_who 58 = .ok (.iload_n 3, 1) := by decide +kernel
theorem dX7_who_59 : decode cX7_who 59 = .ok (.if_icmp .ge 58, 3) := by decide +kernel
theorem dX7_who_62 : decode cX7_who 62 = .ok (.aload_n 0, 1) := by decide +kernel
theorem dX7_who_63 : decode cX7_who 63 = .ok (.aload_n 0, 1) := by decide +kernel
theorem dX7_who_64 : decode cX7_who 64 = .ok (.getfield 7, 3) := by decide +kernel
theorem dX7_who_67 : decode cX7_who 67 = .ok (.iconst 4, 1) := by decide +kernel
theorem dX7_who_68 : decode cX7_who 68 = .ok (.iload 6, 2) := by decide +kernel
theorem dX7_who_70 : decode cX7_who 70 = .ok (.iadd, 1) := by decide +kernel
theorem dX7_who_71 : decode cX7_who 71 = .ok (.iaload, 1) := by decide +kernel
theorem dX7_who_72 : decode cX7_who 72 = .ok (.iload 5, 2) := by decide +kernel
theorem dX7_who_74 : decode cX7_who 74 = .ok (.invokevirtual 63, 3) := by decide +kernel
theorem dX7_who_77 : decode cX7_who 77 = .ok (.istore 7, 2) := by decide +kernel
theorem dX7_who_79 : decode cX7_who 79 = .ok (.iload 5, 2) := by decide +kernel
theorem dX7_who_81 : decode cX7_who 81 = .ok (.iload 7, 2) := by decide +kernel
theorem dX7_who_83 : decode cX7_who 83 = .ok (.ixor, 1) := by decide +kernel
theorem dX7_who_84 : decode cX7_who 84 = .ok (.iload_n 2, 1) := by decide +kernel
theorem dX7_who_85 : decode cX7_who 85 = .ok (.invokestatic 77, 3) := by decide +kernel
theorem dX7_who_88 : decode cX7_who 88 = .ok (.ifCond .eq 15, 3) := by decide +kernel
theorem dX7_who_91 : decode cX7_who 91 = .ok (.aload_n 0, 1) := by decide +kernel
theorem dX7_who_92 : decode cX7_who 92 = .ok (.getfield 7, 3) := by decide +kernel
theorem dX7_who_95 : decode cX7_who 95 = .ok (.iconst 4, 1) := by decide +kernel
theorem dX7_who_96 : decode cX7_who 96 = .ok (.iload 6, 2) := by decide +kernel
theorem dX7_who_98 : decode cX7_who 98 = .ok (.iadd, 1) := by decide +kernel
theorem dX7_who_99 : decode cX7_who 99 = .ok (.iaload, 1) := by decide +kernel
theorem dX7_who_100 : decode cX7_who 100 = .ok (.goto 5, 3) := by decide +kernel
theorem dX7_who_103 : decode cX7_who 103 = .ok (.iload 4, 2) := by decide +kernel
theorem dX7_who_105 : decode cX7_who 105 = .ok (.istore 4, 2) := by decide +kernel
theorem dX7_who_107 : decode cX7_who 107 = .ok (.iload 7, 2) := by decide +kernel
theorem dX7_who_109 : decode cX7_who 109 = .ok (.istore 5, 2) := by decide +kernel
theorem dX7_who_111 : decode cX7_who 111 = .ok (.iinc 6 1, 3) := by decide +kernel
theorem dX7_who_114 : decode cX7_who 114 = .ok (.goto (-58), 3) := by decide +kernel
theorem dX7_who_117 : decode cX7_who 117 = .ok (.iload 4, 2) := by decide +kernel
theorem dX7_who_119 : decode cX7_who 119 = .ok (.ireturn, 1) := by decide +kernel
theorem dX7_left_0 : decode cX7_left 0 = .ok (.aload_n 0, 1) := by decide +kernel
theorem dX7_left_1 : decode cX7_left 1 = .ok (.iload_n 1, 1) := by decide +kernel
theorem dX7_left_2 : decode cX7_left 2 = .ok (.invokevirtual 100, 3) := by decide +kernel
theorem dX7_left_5 : decode cX7_left 5 = .ok (.ifCond .eq 12, 3) := by decide +kernel
theorem dX7_left_8 : decode cX7_left 8 = .ok (.iload_n 2, 1) := by decide +kernel
theorem dX7_left_9 : decode cX7_left 9 = .ok (.iconst 0, 1) := by decide +kernel
theorem dX7_left_10 : decode cX7_left 10 = .ok (.iconst 2, 1) := by decide +kernel
theorem dX7_left_11 : decode cX7_left 11 = .ok (.invokestatic 48, 3) := by decide +kernel
theorem dX7_left_14 : decode cX7_left 14 = .ok (.ifCond .ne 10, 3) := by decide +kernel
theorem dX7_left_17 : decode cX7_left 17 = .ok (.aload_n 0, 1) := by decide +kernel
theorem dX7_left_18 : decode cX7_left 18 = .ok (.bipush (-2), 2) := by decide +kernel
theorem dX7_left_20 : decode cX7_left 20 = .ok (.invokevirtual 41, 3) := by decide +kernel
theorem dX7_left_23 : decode cX7_left 23 = .ok (.ireturn, 1) := by decide +kernel
theorem dX7_left_24 : decode cX7_left 24 = .ok (.aload_n 0, 1) := by decide +kernel
theorem dX7_left_25 : decode cX7_left 25 = .ok (.iload_n 1, 1) := by decide +kernel
theorem dX7_left_26 : decode cX7_left 26 = .ok (.invokevirtual 115, 3) := by decide +kernel
theorem dX7_left_29 : decode cX7_left 29 = .ok (.ifCond .ne 10, 3) := by decide +kernel
theorem dX7_left_32 : decode cX7_left 32 = .ok (.aload_n 0, 1) := by decide +kernel
theorem dX7_left_33 : decode cX7_left 33 = .ok (.bipush (-3), 2) := by decide +kernel
theorem dX7_left_35 : decode cX7_left 35 = .ok (.invokevirtual 41, 3) := by decide +kernel
theorem dX7_left_38 : decode cX7_left 38 = .ok (.ireturn, 1) := by decide +kernel
theorem dX7_left_39 : decode cX7_left 39 = .ok (.aload_n 0, 1) := by decide +kernel
theorem dX7_left_40 : decode cX7_left 40 = .ok (.iload_n 1, 1) := by decide +kernel
theorem dX7_left_41 : decode cX7_left 41 = .ok (.invokevirtual 93, 3) := by decide +kernel
theorem dX7_left_44 : decode cX7_left 44 = .ok (.istore_n 3, 1) := by decide +kernel
theorem dX7_left_45 : decode cX7_left 45 = .ok (.iload_n 2, 1) := by decide +kernel
theorem dX7_left_46 : decode cX7_left 46 = .ok (.ifCond .ne 11, 3) := by decide +kernel
theorem dX7_left_49 : decode cX7_left 49 = .ok (.aload_n 0, 1) := by decide +kernel
theorem dX7_left_50 : decode cX7_left 50 = .ok (.iload_n 3, 1) := by decide +kernel
theorem dX7_left_51 : decode cX7_left 51 = .ok (.invokevirtual 118, 3) := by decide +kernel
theorem dX7_left_54 : decode cX7_left 54 = .ok (.goto 21, 3) := by decide +kernel
theorem dX7_left_57 : decode cX7_left 57 = .ok (.iload_n 2, 1) := by decide +kernel
theorem dX7_left_58 : decode cX7_left 58 = .ok (.iconst 1, 1) := by decide +kernel
theorem dX7_left_59 : decode cX7_left 59 = .ok (.if_icmp .ne 11, 3) := by decide +kernel
theorem dX7_left_62 : decode cX7_left 62 = .ok (.aload_n 0, 1) := by decide +kernel
theorem dX7_left_63 : decode cX7_left 63 = .ok (.iload_n 3, 1) := by decide +kernel
theorem dX7_left_64 : decode cX7_left 64 = .ok (.invokevirtual 168, 3) := by decide +kernel
theorem dX7_left_67 : decode cX7_left 67 = .ok (.goto 8, 3) := by decide +kernel
theorem dX7_left_70 : decode cX7_left 70 = .ok (.aload_n 0, 1) := by decide +kernel
theorem dX7_left_71 : decode cX7_left 71 = .ok (.iload_n 3, 1) := by decide +kernel
theorem dX7_left_72 : decode cX7_left 72 = .ok (.invokevirtual 171, 3) := by decide +kernel
theorem dX7_left_75 : decode cX7_left 75 = .ok (.ireturn, 1) := by decide +kernel
theorem dX7_soilsAll_0 : decode cX7_soilsAll 0 = .ok (.iconst 0, 1) := by decide +kernel
theorem dX7_soilsAll_1 : decode cX7_soilsAll 1 = .ok (.istore_n 1, 1) := by decide +kernel
theorem dX7_soilsAll_2 : decode cX7_soilsAll 2 = .ok (.iconst 0, 1) := by decide +kernel
theorem dX7_soilsAll_3 : decode cX7_soilsAll 3 = .ok (.istore_n 2, 1) := by decide +kernel
theorem dX7_soilsAll_4 : decode cX7_soilsAll 4 = .ok (.iload_n 2, 1) := by decide +kernel
theorem dX7_soilsAll_5 : decode cX7_soilsAll 5 = .ok (.aload_n 0, 1) := by decide +kernel
theorem dX7_soilsAll_6 : decode cX7_soilsAll 6 = .ok (.getfield 7, 3) := by decide +kernel
theorem dX7_soilsAll_9 : decode cX7_soilsAll 9 = .ok (.iconst 0, 1) := by decide +kernel
theorem dX7_soilsAll_10 : decode cX7_soilsAll 10 = .ok (.iaload, 1) := by decide +kernel
theorem dX7_soilsAll_11 : decode cX7_soilsAll 11 = .ok (.if_icmp .ge 49, 3) := by decide +kernel
theorem dX7_soilsAll_14 : decode cX7_soilsAll 14 = .ok (.iconst 0, 1) := by decide +kernel
theorem dX7_soilsAll_15 : decode cX7_soilsAll 15 = .ok (.istore_n 3, 1) := by decide +kernel
theorem dX7_soilsAll_16 : decode cX7_soilsAll 16 = .ok (.iload_n 3, 1) := by decide +kernel
theorem dX7_soilsAll_17 : decode cX7_soilsAll 17 = .ok (.aload_n 0, 1) := by decide +kernel
theorem dX7_soilsAll_18 : decode cX7_soilsAll 18 = .ok (.getfield 7, 3) := by decide +kernel
theorem dX7_soilsAll_21 : decode cX7_soilsAll 21 = .ok (.iconst 0, 1) := by decide +kernel
theorem dX7_soilsAll_22 : decode cX7_soilsAll 22 = .ok (.iaload, 1) := by decide +kernel
theorem dX7_soilsAll_23 : decode cX7_soilsAll 23 = .ok (.if_icmp .ge 31, 3) := by decide +kernel
theorem dX7_soilsAll_26 : decode cX7_soilsAll 26 = .ok (.iload_n 1, 1) := by decide +kernel
theorem dX7_soilsAll_27 : decode cX7_soilsAll 27 = .ok (.iload_n 2, 1) := by decide +kernel
theorem dX7_soilsAll_28 : decode cX7_soilsAll 28 = .ok (.iload_n 3, 1) := by decide +kernel
theorem dX7_soilsAll_29 : decode cX7_soilsAll 29 = .ok (.if_icmp .eq 16, 3) := by decide +kernel
theorem dX7_soilsAll_32 : decode cX7_soilsAll 32 = .ok (.aload_n 0, 1) := by decide +kernel
theorem dX7_soilsAll_33 : decode cX7_soilsAll 33 = .ok (.iload_n 2, 1) := by decide +kernel
theorem dX7_soilsAll_34 : decode cX7_soilsAll 34 = .ok (.iload_n 3, 1) := by decide +kernel
theorem dX7_soilsAll_35 : decode cX7_soilsAll 35 = .ok (.invokevirtual 156, 3) := by decide +kernel
theorem dX7_soilsAll_38 : decode cX7_soilsAll 38 = .ok (.ifCond .eq 7, 3) := by decide +kernel
theorem dX7_soilsAll_41 : decode cX7_soilsAll 41 = .ok (.iconst 1, 1) := by decide +kernel
theorem dX7_soilsAll_42 : decode cX7_soilsAll 42 = .ok (.goto 4, 3) := by decide +kernel
theorem dX7_soilsAll_45 : decode cX7_soilsAll 45 = .ok (.iconst 0, 1) := by decide +kernel
theorem dX7_soilsAll_46 : decode cX7_soilsAll 46 = .ok (.iadd, 1) := by decide +kernel
theorem dX7_soilsAll_47 : decode cX7_soilsAll 47 = .ok (.istore_n 1, 1) := by decide +kernel
theorem dX7_soilsAll_48 : decode cX7_soilsAll 48 = .ok (.iinc 3 1, 3) := by decide +kernel
theorem dX7_soilsAll_51 : decode cX7_soilsAll 51 = .ok (.goto (-35), 3) := by decide +kernel
theorem dX7_soilsAll_54 : decode cX7_soilsAll 54 = .ok (.iinc 2 1, 3) := by decide +kernel
theorem dX7_soilsAll_57 : decode cX7_soilsAll 57 = .ok (.goto (-53), 3) := by decide +kernel
theorem dX7_soilsAll_60 : decode cX7_soilsAll 60 = .ok (.iload_n 1, 1) := by decide +kernel
theorem dX7_soilsAll_61 : decode cX7_soilsAll 61 = .ok (.ireturn, 1) := by decide +kernel
theorem dX7_countTold_0 : decode cX7_countTold 0 = .ok (.iconst 0, 1) := by decide +kernel
theorem dX7_countTold_1 : decode cX7_countTold 1 = .ok (.istore_n 2, 1) := by decide +kernel
theorem dX7_countTold_2 : decode cX7_countTold 2 = .ok (.iconst 0, 1) := by decide +kernel
theorem dX7_countTold_3 : decode cX7_countTold 3 = .ok (.istore_n 3, 1) := by decide +kernel
theorem dX7_countTold_4 : decode cX7_countTold 4 = .ok (.iconst 0, 1) := by decide +kernel
theorem dX7_countTold_5 : decode cX7_countTold 5 = .ok (.istore 4, 2) := by decide +kernel
theorem dX7_countTold_7 : decode cX7_countTold 7 = .ok (.iload 4, 2) := by decide +kernel
theorem dX7_countTold_9 : decode cX7_countTold 9 = .ok (.aload_n 0, 1) := by decide +kernel
theorem dX7_countTold_10 : decode cX7_countTold 10 = .ok (.getfield 7, 3) := by decide +kernel
theorem dX7_countTold_13 : decode cX7_countTold 13 = .ok (.iconst 3, 1) := by decide +kernel
theorem dX7_countTold_14 : decode cX7_countTold 14 = .ok (.iaload, 1) := by decide +kernel
theorem dX7_countTold_15 : decode cX7_countTold 15 = .ok (.if_icmp .ge 29, 3) := by decide +kernel
theorem dX7_countTold_18 : decode cX7_countTold 18 = .ok (.iload_n 2, 1) := by decide +kernel
theorem dX7_countTold_19 : decode cX7_countTold 19 = .ok (.aload_n 0, 1) := by decide +kernel
theorem dX7_countTold_20 : decode cX7_countTold 20 = .ok (.iload 4, 2) := by decide +kernel
theorem dX7_countTold_22 : decode cX7_countTold 22 = .ok (.iconst 1, 1) := by decide +kernel
theorem dX7_countTold_23 : decode cX7_countTold 23 = .ok (.invokevirtual 165, 3) := by decide +kernel
theorem dX7_countTold_26 : decode cX7_countTold 26 = .ok (.iadd, 1) := by decide +kernel
theorem dX7_countTold_27 : decode cX7_countTold 27 = .ok (.istore_n 2, 1) := by decide +kernel
theorem dX7_countTold_28 : decode cX7_countTold 28 = .ok (.iload_n 3, 1) := by decide +kernel
theorem dX7_countTold_29 : decode cX7_countTold 29 = .ok (.aload_n 0, 1) := by decide +kernel
theorem dX7_countTold_30 : decode cX7_countTold 30 = .ok (.iload 4, 2) := by decide +kernel
theorem dX7_countTold_32 : decode cX7_countTold 32 = .ok (.iconst 2, 1) := by decide +kernel
theorem dX7_countTold_33 : decode cX7_countTold 33 = .ok (.invokevirtual 165, 3) := by decide +kernel
theorem dX7_countTold_36 : decode cX7_countTold 36 = .ok (.iadd, 1) := by decide +kernel
theorem dX7_countTold_37 : decode cX7_countTold 37 = .ok (.istore_n 3, 1) := by decide +kernel
theorem dX7_countTold_38 : decode cX7_countTold 38 = .ok (.iinc 4 1, 3) := by decide +kernel
theorem dX7_countTold_41 : decode cX7_countTold 41 = .ok (.goto (-34), 3) := by decide +kernel
theorem dX7_countTold_44 : decode cX7_countTold 44 = .ok (.iload_n 1, 1) := by decide +kernel
theorem dX7_countTold_45 : decode cX7_countTold 45 = .ok (.tableswitch 93 0 6 #[43, 50, 57, 64, 71, 89, 91], 43) := by decide +kernel
theorem dX7_countTold_88 : decode cX7_countTold 88 = .ok (.aload_n 0, 1) := by decide +kernel
theorem dX7_countTold_89 : decode cX7_countTold 89 = .ok (.getfield 7, 3) := by decide +kernel
theorem dX7_countTold_92 : decode cX7_countTold 92 = .ok (.iconst 0, 1) := by decide +kernel
theorem dX7_countTold_93 : decode cX7_countTold 93 = .ok (.iaload, 1) := by decide +kernel
theorem dX7_countTold_94 : decode cX7_countTold 94 = .ok (.ireturn, 1) := by decide +kernel
theorem dX7_countTold_95 : decode cX7_countTold 95 = .ok (.aload_n 0, 1) := by decide +kernel
theorem dX7_countTold_96 : decode cX7_countTold 96 = .ok (.getfield 7, 3) := by decide +kernel
theorem dX7_countTold_99 : decode cX7_countTold 99 = .ok (.iconst 3, 1) := by decide +kernel
theorem dX7_countTold_100 : decode cX7_countTold 100 = .ok (.iaload, 1) := by decide +kernel
theorem dX7_countTold_101 : decode cX7_countTold 101 = .ok (.ireturn, 1) := by decide +kernel
theorem dX7_countTold_102 : decode cX7_countTold 102 = .ok (.aload_n 0, 1) := by decide +kernel
theorem dX7_countTold_103 : decode cX7_countTold 103 = .ok (.getfield 7, 3) := by decide +kernel
theorem dX7_countTold_106 : decode cX7_countTold 106 = .ok (.iconst 1, 1) := by decide +kernel
theorem dX7_countTold_107 : decode cX7_countTold 107 = .ok (.iaload, 1) := by decide +kernel
theorem dX7_countTold_108 : decode cX7_countTold 108 = .ok (.ireturn, 1) := by decide +kernel
theorem dX7_countTold_109 : decode cX7_countTold 109 = .ok (.aload_n 0, 1) := by decide +kernel
theorem dX7_countTold_110 : decode cX7_countTold 110 = .ok (.getfield 7, 3) := by decide +kernel
theorem dX7_countTold_113 : decode cX7_countTold 113 = .ok (.iconst 2, 1) := by decide +kernel
theorem dX7_countTold_114 : decode cX7_countTold 114 = .ok (.iaload, 1) := by decide +kernel
theorem dX7_countTold_115 : decode cX7_countTold 115 = .ok (.ireturn, 1) := by decide +kernel
theorem dX7_countTold_116 : decode cX7_countTold 116 = .ok (.aload_n 0, 1) := by decide +kernel
theorem dX7_countTold_117 : decode cX7_countTold 117 = .ok (.aload_n 0, 1) := by decide +kernel
theorem dX7_countTold_118 : decode cX7_countTold 118 = .ok (.getfield 7, 3) := by decide +kernel
theorem dX7_countTold_121 : decode cX7_countTold 121 = .ok (.iconst 3, 1) := by decide +kernel
theorem dX7_countTold_122 : decode cX7_countTold 122 = .ok (.iaload, 1) := by decide +kernel
theorem dX7_countTold_123 : decode cX7_countTold 123 = .ok (.sipush 255, 3) := by decide +kernel
theorem dX7_countTold_126 : decode cX7_countTold 126 = .ok (.invokevirtual 80, 3) := by decide +kernel
theorem dX7_countTold_129 : decode cX7_countTold 129 = .ok (.aload_n 0, 1) := by decide +kernel
theorem dX7_countTold_130 : decode cX7_countTold 130 = .ok (.invokevirtual 66, 3) := by decide +kernel
theorem dX7_countTold_133 : decode cX7_countTold 133 = .ok (.ireturn, 1) := by decide +kernel
theorem dX7_countTold_134 : decode cX7_countTold 134 = .ok (.iload_n 2, 1) := by decide +kernel
theorem dX7_countTold_135 : decode cX7_countTold 135 = .ok (.ireturn, 1) := by decide +kernel
theorem dX7_countTold_136 : decode cX7_countTold 136 = .ok (.iload_n 3, 1) := by decide +kernel
theorem dX7_countTold_137 : decode cX7_countTold 137 = .ok (.ireturn, 1) := by decide +kernel
theorem dX7_countTold_138 : decode cX7_countTold 138 = .ok (.aload_n 0, 1) := by decide +kernel
theorem dX7_countTold_139 : decode cX7_countTold 139 = .ok (.invokevirtual 174, 3) := by decide +kernel
theorem dX7_countTold_142 : decode cX7_countTold 142 = .ok (.ireturn, 1) := by decide +kernel
theorem dX7_count_0 : decode cX7_count 0 = .ok (.iload_n 1, 1) := by decide +kernel
theorem dX7_count_1 : decode cX7_count 1 = .ok (.iconst 0, 1) := by decide +kernel
theorem dX7_count_2 : decode cX7_count 2 = .ok (.bipush 7, 2) := by decide +kernel
theorem dX7_count_4 : decode cX7_count 4 = .ok (.invokestatic 48, 3) := by decide +kernel
theorem dX7_count_7 : decode cX7_count 7 = .ok (.ifCond .eq 11, 3) := by decide +kernel
theorem dX7_count_10 : decode cX7_count 10 = .ok (.aload_n 0, 1) := by decide +kernel
theorem dX7_count_11 : decode cX7_count 11 = .ok (.iload_n 1, 1) := by decide +kernel
theorem dX7_count_12 : decode cX7_count 12 = .ok (.invokevirtual 177, 3) := by decide +kernel
theorem dX7_count_15 : decode cX7_count 15 = .ok (.goto 9, 3) := by decide +kernel
theorem dX7_count_18 : decode cX7_count 18 = .ok (.aload_n 0, 1) := by decide +kernel
theorem dX7_count_19 : decode cX7_count 19 = .ok (.bipush (-2), 2) := by decide +kernel
theorem dX7_count_21 : decode cX7_count 21 = .ok (.invokevirtual 41, 3) := by decide +kernel
theorem dX7_count_24 : decode cX7_count 24 = .ok (.ireturn, 1) := by decide +kernel
theorem dX7_type_0 : decode cX7_type 0 = .ok (.iload_n 1, 1) := by decide +kernel
theorem dX7_type_1 : decode cX7_type 1 = .ok (.iconst 0, 1) := by decide +kernel
theorem dX7_type_2 : decode cX7_type 2 = .ok (.bipush 127, 2) := by decide +kernel
theorem dX7_type_4 : decode cX7_type 4 = .ok (.invokestatic 48, 3) := by decide +kernel
theorem dX7_type_7 : decode cX7_type 7 = .ok (.ifCond .ne 10, 3) := by decide +kernel
theorem dX7_type_10 : decode cX7_type 10 = .ok (.aload_n 0, 1) := by decide +kernel
theorem dX7_type_11 : decode cX7_type 11 = .ok (.bipush (-2), 2) := by decide +kernel
theorem dX7_type_13 : decode cX7_type 13 = .ok (.invokevirtual 41, 3) := by decide +kernel
theorem dX7_type_16 : decode cX7_type 16 = .ok (.ireturn, 1) := by decide +kernel
theorem dX7_type_17 : decode cX7_type 17 = .ok (.aload_n 0, 1) := by decide +kernel
theorem dX7_type_18 : decode cX7_type 18 = .ok (.getfield 180, 3) := by decide +kernel
theorem dX7_type_21 : decode cX7_type 21 = .ok (.sipush 150, 3) := by decide +kernel
theorem dX7_type_24 : decode cX7_type 24 = .ok (.if_icmp .ne 10, 3) := by decide +kernel
theorem dX7_type_27 : decode cX7_type 27 = .ok (.aload_n 0, 1) := by decide +kernel
theorem dX7_type_28 : decode cX7_type 28 = .ok (.bipush (-4), 2) := by decide +kernel
theorem dX7_type_30 : decode cX7_type 30 = .ok (.invokevirtual 41, 3) := by decide +kernel
theorem dX7_type_33 : decode cX7_type 33 = .ok (.ireturn, 1) := by decide +kernel
theorem dX7_type_34 : decode cX7_type 34 = .ok (.aload_n 0, 1) := by decide +kernel
theorem dX7_type_35 : decode cX7_type 35 = .ok (.getfield 22, 3) := by decide +kernel
theorem dX7_type_38 : decode cX7_type 38 = .ok (.aload_n 0, 1) := by decide +kernel
theorem dX7_type_39 : decode cX7_type 39 = .ok (.getfield 180, 3) := by decide +kernel
theorem dX7_type_42 : decode cX7_type 42 = .ok (.iload_n 1, 1) := by decide +kernel
theorem dX7_type_43 : decode cX7_type 43 = .ok (.iastore, 1) := by decide +kernel
theorem dX7_type_44 : decode cX7_type 44 = .ok (.aload_n 0, 1) := by decide +kernel
theorem dX7_type_45 : decode cX7_type 45 = .ok (.dup, 1) := by decide +kernel
theorem dX7_type_46 : decode cX7_type 46 = .ok (.getfield 180, 3) := by decide +kernel
theorem dX7_type_49 : decode cX7_type 49 = .ok (.iconst 1, 1) := by decide +kernel
theorem dX7_type_50 : decode cX7_type 50 = .ok (.iadd, 1) := by decide +kernel
theorem dX7_type_51 : decode cX7_type 51 = .ok (.putfield 180, 3) := by decide +kernel
theorem dX7_type_54 : decode cX7_type 54 = .ok (.aload_n 0, 1) := by decide +kernel
theorem dX7_type_55 : decode cX7_type 55 = .ok (.getfield 180, 3) := by decide +kernel
theorem dX7_type_58 : decode cX7_type 58 = .ok (.ireturn, 1) := by decide +kernel
theorem dX7_clear_0 : decode cX7_clear 0 = .ok (.aload_n 0, 1) := by decide +kernel
theorem dX7_clear_1 : decode cX7_clear 1 = .ok (.getfield 180, 3) := by decide +kernel
theorem dX7_clear_4 : decode cX7_clear 4 = .ok (.istore_n 1, 1) := by decide +kernel
theorem dX7_clear_5 : decode cX7_clear 5 = .ok (.aload_n 0, 1) := by decide +kernel
theorem dX7_clear_6 : decode cX7_clear 6 = .ok (.iconst 0, 1) := by decide +kernel
theorem dX7_clear_7 : decode cX7_clear 7 = .ok (.putfield 180, 3) := by decide +kernel
theorem dX7_clear_10 : decode cX7_clear 10 = .ok (.iload_n 1, 1) := by decide +kernel
theorem dX7_clear_11 : decode cX7_clear 11 = .ok (.ireturn, 1) := by decide +kernel
theorem dX7_isAt_0 : decode cX7_isAt 0 = .ok (.aload_n 0, 1) := by decide +kernel
theorem dX7_isAt_1 : decode cX7_isAt 1 = .ok (.getfield 183, 3) := by decide +kernel
theorem dX7_isAt_4 : decode cX7_isAt 4 = .ok (.aload_n 0, 1) := by decide +kernel
theorem dX7_isAt_5 : decode cX7_isAt 5 = .ok (.getfield 180, 3) := by decide +kernel
theorem dX7_isAt_8 : decode cX7_isAt 8 = .ok (.if_icmp .ge 24, 3) := by decide +kernel
theorem dX7_isAt_11 : decode cX7_isAt 11 = .ok (.aload_n 0, 1) := by decide +kernel
theorem dX7_isAt_12 : decode cX7_isAt 12 = .ok (.getfield 22, 3) := by decide +kernel
theorem dX7_isAt_15 : decode cX7_isAt 15 = .ok (.aload_n 0, 1) := by decide +kernel
theorem dX7_isAt_16 : decode cX7_isAt 16 = .ok (.getfield 183, 3) := by decide +kernel
theorem dX7_isAt_19 : decode cX7_isAt 19 = .ok (.iaload, 1) := by decide +kernel
theorem dX7_isAt_20 : decode cX7_isAt 20 = .ok (.iload_n 1, 1) := by decide +kernel
theorem dX7_isAt_21 : decode cX7_isAt 21 = .ok (.iload_n 2, 1) := by decide +kernel
theorem dX7_isAt_22 : decode cX7_isAt 22 = .ok (.invokestatic 48, 3) := by decide +kernel
theorem dX7_isAt_25 : decode cX7_isAt 25 = .ok (.ifCond .eq 7, 3) := by decide +kernel
theorem dX7_isAt_28 : decode cX7_isAt 28 = .ok (.iconst 1, 1) := by decide +kernel
theorem dX7_isAt_29 : decode cX7_isAt 29 = .ok (.goto 4, 3) := by decide +kernel
theorem dX7_isAt_32 : decode cX7_isAt 32 = .ok (.iconst 0, 1) := by decide +kernel
theorem dX7_isAt_33 : decode cX7_isAt 33 = .ok (.ireturn, 1) := by decide +kernel
theorem dX7_blanks_0 : decode cX7_blanks 0 = .ok (.aload_n 0, 1) := by decide +kernel
theorem dX7_blanks_1 : decode cX7_blanks 1 = .ok (.bipush 32, 2) := by decide +kernel
theorem dX7_blanks_3 : decode cX7_blanks 3 = .ok (.bipush 32, 2) := by decide +kernel
theorem dX7_blanks_5 : decode cX7_blanks 5 = .ok (.invokevirtual 186, 3) := by decide +kernel
theorem dX7_blanks_8 : decode cX7_blanks 8 = .ok (.ifCond .eq 16, 3) := by decide +kernel
theorem dX7_blanks_11 : decode cX7_blanks 11 = .ok (.aload_n 0, 1) := by decide +kernel
theorem dX7_blanks_12 : decode cX7_blanks 12 = .ok (.dup, 1) := by decide +kernel
theorem dX7_blanks_13 : decode cX7_blanks 13 = .ok (.getfield 183, 3) := by decide +kernel
theorem dX7_blanks_16 : decode cX7_blanks 16 = .ok (.iconst 1, 1) := by decide +kernel
theorem dX7_blanks_17 : decode cX7_blanks 17 = .ok (.iadd, 1) := by decide +kernel
theorem dX7_blanks_18 : decode cX7_blanks 18 = .ok (.putfield 183, 3) := by decide +kernel
theorem dX7_blanks_21 : decode cX7_blanks 21 = .ok (.goto (-21), 3) := by decide +kernel
theorem dX7_blanks_24 : decode cX7_blanks 24 = .ok (.return_, 1) := by decide +kernel
theorem dX7_fails_0 : decode cX7_fails 0 = .ok (.aload_n 0, 1) := by decide +kernel
theorem dX7_fails_1 : decode cX7_fails 1 = .ok (.aload_n 0, 1) := by decide +kernel
theorem dX7_fails_2 : decode cX7_fails 2 = .ok (.getfield 183, 3) := by decide +kernel
theorem dX7_fails_5 : decode cX7_fails 5 = .ok (.putfield 189, 3) := by decide +kernel
theorem dX7_fails_8 : decode cX7_fails 8 = .ok (.iconst 0, 1) := by decide +kernel
theorem dX7_fails_9 : decode cX7_fails 9 = .ok (.ireturn, 1) := by decide +kernel
theorem dX7_manyOf_0 : decode cX7_manyOf 0 = .ok (.iload_n 0, 1) := by decide +kernel
theorem dX7_manyOf_1 : decode cX7_manyOf 1 = .ok (.lookupswitch 65 #[(99, 63), (109, 61), (114, 61), (115, 61), (116, 59), (119, 63)], 59) := by decide +kernel
theorem dX7_manyOf_60 : decode cX7_manyOf 60 = .ok (.iconst 5, 1) := by decide +kernel
theorem dX7_manyOf_61 : decode cX7_manyOf 61 = .ok (.ireturn, 1) := by decide +kernel
theorem dX7_manyOf_62 : decode cX7_manyOf 62 = .ok (.iconst 1, 1) := by decide +kernel
theorem dX7_manyOf_63 : decode cX7_manyOf 63 = .ok (.ireturn, 1) := by decide +kernel
theorem dX7_manyOf_64 : decode cX7_manyOf 64 = .ok (.iconst 0, 1) := by decide +kernel
theorem dX7_manyOf_65 : decode cX7_manyOf 65 = .ok (.ireturn, 1) := by decide +kernel
theorem dX7_manyOf_66 : decode cX7_manyOf 66 = .ok (.iconst (-1), 1) := by decide +kernel
theorem dX7_manyOf_67 : decode cX7_manyOf 67 = .ok (.ireturn, 1) := by decide +kernel
theorem dX7_takesNumber_0 : decode cX7_takesNumber 0 = .ok (.aload_n 0, 1) := by decide +kernel
theorem dX7_takesNumber_1 : decode cX7_takesNumber 1 = .ok (.invokevirtual 192, 3) := by decide +kernel
theorem dX7_takesNumber_4 : decode cX7_takesNumber 4 = .ok (.aload_n 0, 1) := by decide +kernel
theorem dX7_takesNumber_5 : decode cX7_takesNumber 5 = .ok (.getfield 183, 3) := by decide +kernel
theorem dX7_takesNumber_8 : decode cX7_takesNumber 8 = .ok (.istore_n 2, 1) := by decide +kernel
theorem dX7_takesNumber_9 : decode cX7_takesNumber 9 = .ok (.iconst 0, 1) := by decide +kernel
theorem dX7_takesNumber_10 : decode cX7_takesNumber 10 = .ok (.istore_n 3, 1) := by decide +kernel
theorem dX7_takesNumber_11 : decode cX7_takesNumber 11 = .ok (.aload_n 0, 1) := by decide +kernel
theorem dX7_takesNumber_12 : decode cX7_takesNumber 12 = .ok (.bipush 48, 2) := by decide +kernel
theorem dX7_takesNumber_14 : decode cX7_takesNumber 14 = .ok (.bipush 57, 2) := by decide +kernel
theorem dX7_takesNumber_16 : decode cX7_takesNumber 16 = .ok (.invokevirtual 186, 3) := by decide +kernel
theorem dX7_takesNumber_19 : decode cX7_takesNumber 19 = .ok (.ifCond .eq 49, 3) := by decide +kernel
theorem dX7_takesNumber_22 : decode cX7_takesNumber 22 = .ok (.aload_n 0, 1) := by decide +kernel
theorem dX7_takesNumber_23 : decode cX7_takesNumber 23 = .ok (.getfield 183, 3) := by decide +kernel
theorem dX7_takesNumber_26 : decode cX7_takesNumber 26 = .ok (.iload_n 2, 1) := by decide +kernel
theorem dX7_takesNumber_27 : decode cX7_takesNumber 27 = .ok (.iconst 2, 1) := by decide +kernel
theorem dX7_takesNumber_28 : decode cX7_takesNumber 28 = .ok (.iadd, 1) := by decide +kernel
theorem dX7_takesNumber_29 : decode cX7_takesNumber 29 = .ok (.if_icmp .ne 8, 3) := by decide +kernel
theorem dX7_takesNumber_32 : decode cX7_takesNumber 32 = .ok (.aload_n 0, 1) := by decide +kernel
theorem dX7_takesNumber_33 : decode cX7_takesNumber 33 = .ok (.invokevirtual 195, 3) := by decide +kernel
theorem dX7_takesNumber_36 : decode cX7_takesNumber 36 = .ok (.ireturn, 1) := by decide +kernel
theorem dX7_takesNumber_37 : decode cX7_takesNumber 37 = .ok (.bipush 10, 2) := by decide +kernel
theorem dX7_takesNumber_39 : decode cX7_takesNumber 39 = .ok (.iload_n 3, 1) := by decide +kernel
theorem dX7_takesNumber_40 : decode cX7_takesNumber 40 = .ok (.imul, 1) := by decide +kernel
theorem dX7_takesNumber_41 : decode cX7_takesNumber 41 = .ok (.aload_n 0, 1) := by decide +kernel
theorem dX7_takesNumber_42 : decode cX7_takesNumber 42 = .ok (.getfield 22, 3) := by decide +kernel
theorem dX7_takesNumber_45 : decode cX7_takesNumber 45 = .ok (.aload_n 0, 1) := by decide +kernel
theorem dX7_takesNumber_46 : decode cX7_takesNumber 46 = .ok (.getfield 183, 3) := by decide +kernel
theorem dX7_takesNumber_49 : decode cX7_takesNumber 49 = .ok (.iaload, 1) := by decide +kernel
theorem dX7_takesNumber_50 : decode cX7_takesNumber 50 = .ok (.iadd, 1) := by decide +kernel
theorem dX7_takesNumber_51 : decode cX7_takesNumber 51 = .ok (.bipush 48, 2) := by decide +kernel
theorem dX7_takesNumber_53 : decode cX7_takesNumber 53 = .ok (.isub, 1) := by decide +kernel
theorem dX7_takesNumber_54 : decode cX7_takesNumber 54 = .ok (.istore_n 3, 1) := by decide +kernel
theorem dX7_takesNumber_55 : decode cX7_takesNumber 55 = .ok (.aload_n 0, 1) := by decide +kernel
theorem dX7_takesNumber_56 : decode cX7_takesNumber 56 = .ok (.dup, 1) := by decide +kernel
theorem dX7_takesNumber_57 : decode cX7_takesNumber 57 = .ok (.getfield 183, 3) := by decide +kernel
theorem dX7_takesNumber_60 : decode cX7_takesNumber 60 = .ok (.iconst 1, 1) := by decide +kernel
theorem dX7_takesNumber_61 : decode cX7_takesNumber 61 = .ok (.iadd, 1) := by decide +kernel
theorem dX7_takesNumber_62 : decode cX7_takesNumber 62 = .ok (.putfield 183, 3) := by decide +kernel
theorem dX7_takesNumber_65 : decode cX7_takesNumber 65 = .ok (.goto (-54), 3) := by decide +kernel
theorem dX7_takesNumber_68 : decode cX7_takesNumber 68 = .ok (.aload_n 0, 1) := by decide +kernel
theorem dX7_takesNumber_69 : decode cX7_takesNumber 69 = .ok (.getfield 34, 3) := by decide +kernel
theorem dX7_takesNumber_72 : decode cX7_takesNumber 72 = .ok (.iload_n 1, 1) := by decide +kernel
theorem dX7_takesNumber_73 : decode cX7_takesNumber 73 = .ok (.iload_n 3, 1) := by decide +kernel
theorem dX7_takesNumber_74 : decode cX7_takesNumber 74 = .ok (.iastore, 1) := by decide +kernel
theorem dX7_takesNumber_75 : decode cX7_takesNumber 75 = .ok (.aload_n 0, 1) := by decide +kernel
theorem dX7_takesNumber_76 : decode cX7_takesNumber 76 = .ok (.getfield 183, 3) := by decide +kernel
theorem dX7_takesNumber_79 : decode cX7_takesNumber 79 = .ok (.iload_n 2, 1) := by decide +kernel
theorem dX7_takesNumber_80 : decode cX7_takesNumber 80 = .ok (.if_icmp .gt 10, 3) := by decide +kernel
theorem dX7_takesNumber_83 : decode cX7_takesNumber 83 = .ok (.aload_n 0, 1) := by decide +kernel
theorem dX7_takesNumber_84 : decode cX7_takesNumber 84 = .ok (.invokevirtual 195, 3) := by decide +kernel
theorem dX7_takesNumber_87 : decode cX7_takesNumber 87 = .ok (.ifCond .eq 7, 3) := by decide +kernel
theorem dX7_takesNumber_90 : decode cX7_takesNumber 90 = .ok (.iconst 1, 1) := by decide +kernel
theorem dX7_takesNumber_91 : decode cX7_takesNumber 91 = .ok (.goto 4, 3) := by decide +kernel
theorem dX7_takesNumber_94 : decode cX7_takesNumber 94 = .ok (.iconst 0, 1) := by decide +kernel
theorem dX7_takesNumber_95 : decode cX7_takesNumber 95 = .ok (.ireturn, 1) := by decide +kernel
theorem dX7_takesOrder_0 : decode cX7_takesOrder 0 = .ok (.aload_n 0, 1) := by decide +kernel
theorem dX7_takesOrder_1 : decode cX7_takesOrder 1 = .ok (.getfield 22, 3) := by decide +kernel
theorem dX7_takesOrder_4 : decode cX7_takesOrder 4 = .ok (.aload_n 0, 1) := by decide +kernel
theorem dX7_takesOrder_5 : decode cX7_takesOrder 5 = .ok (.getfield 183, 3) := by decide +kernel
theorem dX7_takesOrder_8 : decode cX7_takesOrder 8 = .ok (.iaload, 1) := by decide +kernel
theorem dX7_takesOrder_9 : decode cX7_takesOrder 9 = .ok (.invokestatic 199, 3) := by decide +kernel
theorem dX7_takesOrder_12 : decode cX7_takesOrder 12 = .ok (.istore_n 1, 1) := by decide +kernel
theorem dX7_takesOrder_13 : decode cX7_takesOrder 13 = .ok (.iload_n 1, 1) := by decide +kernel
theorem dX7_takesOrder_14 : decode cX7_takesOrder 14 = .ok (.iconst (-1), 1) := by decide +kernel
theorem dX7_takesOrder_15 : decode cX7_takesOrder 15 = .ok (.if_icmp .ne 8, 3) := by decide +kernel
theorem dX7_takesOrder_18 : decode cX7_takesOrder 18 = .ok (.aload_n 0, 1) := by decide +kernel
theorem dX7_takesOrder_19 : decode cX7_takesOrder 19 = .ok (.invokevirtual 195, 3) := by decide +kernel
theorem dX7_takesOrder_22 : decode cX7_takesOrder 22 = .ok (.ireturn, 1) := by decide +kernel
theorem dX7_takesOrder_23 : decode cX7_takesOrder 23 = .ok (.aload_n 0, 1) := by decide +kernel
theorem dX7_takesOrder_24 : decode cX7_takesOrder 24 = .ok (.getfield 31, 3) := by decide +kernel
theorem dX7_takesOrder_27 : decode cX7_takesOrder 27 = .ok (.aload_n 0, 1) := by decide +kernel
theorem dX7_takesOrder_28 : decode cX7_takesOrder 28 = .ok (.getfield 202, 3) := by decide +kernel
theorem dX7_takesOrder_31 : decode cX7_takesOrder 31 = .ok (.aload_n 0, 1) := by decide +kernel
theorem dX7_takesOrder_32 : decode cX7_takesOrder 32 = .ok (.getfield 22, 3) := by decide +kernel
theorem dX7_takesOrder_35 : decode cX7_takesOrder 35 = .ok (.aload_n 0, 1) := by decide +kernel
theorem dX7_takesOrder_36 : decode cX7_takesOrder 36 = .ok (.getfield 183, 3) := by decide +kernel
theorem dX7_takesOrder_39 : decode cX7_takesOrder 39 = .ok (.iaload, 1) := by decide +kernel
theorem dX7_takesOrder_40 : decode cX7_takesOrder 40 = .ok (.iastore, 1) := by decide +kernel
theorem dX7_takesOrder_41 : decode cX7_takesOrder 41 = .ok (.aload_n 0, 1) := by decide +kernel
theorem dX7_takesOrder_42 : decode cX7_takesOrder 42 = .ok (.dup, 1) := by decide +kernel
theorem dX7_takesOrder_43 : decode cX7_takesOrder 43 = .ok (.getfield 183, 3) := by decide +kernel
theorem dX7_takesOrder_46 : decode cX7_takesOrder 46 = .ok (.iconst 1, 1) := by decide +kernel
theorem dX7_takesOrder_47 : decode cX7_takesOrder 47 = .ok (.iadd, 1) := by decide +kernel
theorem dX7_takesOrder_48 : decode cX7_takesOrder 48 = .ok (.putfield 183, 3) := by decide +kernel
theorem dX7_takesOrder_51 : decode cX7_takesOrder 51 = .ok (.iconst 0, 1) := by decide +kernel
theorem dX7_takesOrder_52 : decode cX7_takesOrder 52 = .ok (.istore_n 2, 1) := by decide +kernel
theorem dX7_takesOrder_53 : decode cX7_takesOrder 53 = .ok (.iload_n 2, 1) := by decide +kernel
theorem dX7_takesOrder_54 : decode cX7_takesOrder 54 = .ok (.iload_n 1, 1) := by decide +kernel
theorem dX7_takesOrder_55 : decode cX7_takesOrder 55 = .ok (.if_icmp .ge 26, 3) := by decide +kernel
theorem dX7_takesOrder_58 : decode cX7_takesOrder 58 = .ok (.aload_n 0, 1) := by decide +kernel
theorem dX7_takesOrder_59 : decode cX7_takesOrder 59 = .ok (.iconst 5, 1) := by decide +kernel
theorem dX7_takesOrder_60 : decode cX7_takesOrder 60 = .ok (.aload_n 0, 1) := by decide +kernel
theorem dX7_takesOrder_61 : decode cX7_takesOrder 61 = .ok (.getfield 202, 3) := by decide +kernel
theorem dX7_takesOrder_64 : decode cX7_takesOrder 64 = .ok (.imul, 1) := by decide +kernel
theorem dX7_takesOrder_65 : decode cX7_takesOrder 65 = .ok (.iload_n 2, 1) := by decide +kernel
theorem dX7_takesOrder_66 : decode cX7_takesOrder 66 = .ok (.iadd, 1) := by decide +kernel
theorem dX7_takesOrder_67 : decode cX7_takesOrder 67 = .ok (.invokevirtual 205, 3) := by decide +kernel
theorem dX7_takesOrder_70 : decode cX7_takesOrder 70 = .ok (.ifCond .ne 5, 3) := by decide +kernel
theorem dX7_takesOrder_73 : decode cX7_takesOrder 73 = .ok (.iconst 0, 1) := by decide +kernel
theorem dX7_takesOrder_74 : decode cX7_takesOrder 74 = .ok (.ireturn, 1) := by decide +kernel
theorem dX7_takesOrder_75 : decode cX7_takesOrder 75 = .ok (.iinc 2 1, 3) := by decide +kernel
theorem dX7_takesOrder_78 : decode cX7_takesOrder 78 = .ok (.goto (-25), 3) := by decide +kernel
theorem dX7_takesOrder_81 : decode cX7_takesOrder 81 = .ok (.aload_n 0, 1) := by decide +kernel
theorem dX7_takesOrder_82 : decode cX7_takesOrder 82 = .ok (.invokevirtual 192, 3) := by decide +kernel
theorem dX7_takesOrder_85 : decode cX7_takesOrder 85 = .ok (.aload_n 0, 1) := by decide +kernel
theorem dX7_takesOrder_86 : decode cX7_takesOrder 86 = .ok (.bipush 59, 2) := by decide +kernel
theorem dX7_takesOrder_88 : decode cX7_takesOrder 88 = .ok (.bipush 59, 2) := by decide +kernel
theorem dX7_takesOrder_90 : decode cX7_takesOrder 90 = .ok (.invokevirtual 186, 3) := by decide +kernel
theorem dX7_takesOrder_93 : decode cX7_takesOrder 93 = .ok (.ifCond .ne 8, 3) := by decide +kernel
theorem dX7_takesOrder_96 : decode cX7_takesOrder 96 = .ok (.aload_n 0, 1) := by decide +kernel
theorem dX7_takesOrder_97 : decode cX7_takesOrder 97 = .ok (.invokevirtual 195, 3) := by decide +kernel
theorem dX7_takesOrder_100 : decode cX7_takesOrder 100 = .ok (.ireturn, 1) := by decide +kernel
theorem dX7_takesOrder_101 : decode cX7_takesOrder 101 = .ok (.aload_n 0, 1) := by decide +kernel
theorem dX7_takesOrder_102 : decode cX7_takesOrder 102 = .ok (.dup, 1) := by decide +kernel
theorem dX7_takesOrder_103 : decode cX7_takesOrder 103 = .ok (.getfield 183, 3) := by decide +kernel
theorem dX7_takesOrder_106 : decode cX7_takesOrder 106 = .ok (.iconst 1, 1) := by decide +kernel
theorem dX7_takesOrder_107 : decode cX7_takesOrder 107 = .ok (.iadd, 1) := by decide +kernel
theorem dX7_takesOrder_108 : decode cX7_takesOrder 108 = .ok (.putfield 183, 3) := by decide +kernel
theorem dX7_takesOrder_111 : decode cX7_takesOrder 111 = .ok (.aload_n 0, 1) := by decide +kernel
theorem dX7_takesOrder_112 : decode cX7_takesOrder 112 = .ok (.dup, 1) := by decide +kernel
theorem dX7_takesOrder_113 : decode cX7_takesOrder 113 = .ok (.getfield 202, 3) := by decide +kernel
theorem dX7_takesOrder_116 : decode cX7_takesOrder 116 = .ok (.iconst 1, 1) := by decide +kernel
theorem dX7_takesOrder_117 : decode cX7_takesOrder 117 = .ok (.iadd, 1) := by decide +kernel
theorem dX7_takesOrder_118 : decode cX7_takesOrder 118 = .ok (.putfield 202, 3) := by decide +kernel
theorem dX7_takesOrder_121 : decode cX7_takesOrder 121 = .ok (.iconst 1, 1) := by decide +kernel
theorem dX7_takesOrder_122 : decode cX7_takesOrder 122 = .ok (.ireturn, 1) := by decide +kernel
theorem dX7_isRead_0 : decode cX7_isRead 0 = .ok (.aload_n 0, 1) := by decide +kernel
theorem dX7_isRead_1 : decode cX7_isRead 1 = .ok (.iconst 0, 1) := by decide +kernel
theorem dX7_isRead_2 : decode cX7_isRead 2 = .ok (.putfield 183, 3) := by decide +kernel
theorem dX7_isRead_5 : decode cX7_isRead 5 = .ok (.aload_n 0, 1) := by decide +kernel
theorem dX7_isRead_6 : decode cX7_isRead 6 = .ok (.iconst 0, 1) := by decide +kernel
theorem dX7_isRead_7 : decode cX7_isRead 7 = .ok (.putfield 202, 3) := by decide +kernel
theorem dX7_isRead_10 : decode cX7_isRead 10 = .ok (.aload_n 0, 1) := by decide +kernel
theorem dX7_isRead_11 : decode cX7_isRead 11 = .ok (.invokevirtual 192, 3) := by decide +kernel
theorem dX7_isRead_14 : decode cX7_isRead 14 = .ok (.aload_n 0, 1) := by decide +kernel
theorem dX7_isRead_15 : decode cX7_isRead 15 = .ok (.getfield 183, 3) := by decide +kernel
theorem dX7_isRead_18 : decode cX7_isRead 18 = .ok (.aload_n 0, 1) := by decide +kernel
theorem dX7_isRead_19 : decode cX7_isRead 19 = .ok (.getfield 180, 3) := by decide +kernel
theorem dX7_isRead_22 : decode cX7_isRead 22 = .ok (.if_icmp .ge 19, 3) := by decide +kernel
theorem dX7_isRead_25 : decode cX7_isRead 25 = .ok (.aload_n 0, 1) := by decide +kernel
theorem dX7_isRead_26 : decode cX7_isRead 26 = .ok (.invokevirtual 208, 3) := by decide +kernel
theorem dX7_isRead_29 : decode cX7_isRead 29 = .ok (.ifCond .ne 5, 3) := by decide +kernel
theorem dX7_isRead_32 : decode cX7_isRead 32 = .ok (.iconst 0, 1) := by decide +kernel
theorem dX7_isRead_33 : decode cX7_isRead 33 = .ok (.ireturn, 1) := by decide +kernel
theorem dX7_isRead_34 : decode cX7_isRead 34 = .ok (.aload_n 0, 1) := by decide +kernel
theorem dX7_isRead_35 : decode cX7_isRead 35 = .ok (.invokevirtual 192, 3) := by decide +kernel
theorem dX7_isRead_38 : decode cX7_isRead 38 = .ok (.goto (-24), 3) := by decide +kernel
theorem dX7_isRead_41 : decode cX7_isRead 41 = .ok (.aload_n 0, 1) := by decide +kernel
theorem dX7_isRead_42 : decode cX7_isRead 42 = .ok (.getfield 202, 3) := by decide +kernel
theorem dX7_isRead_45 : decode cX7_isRead 45 = .ok (.ifCond .gt 10, 3) := by decide +kernel
theorem dX7_isRead_48 : decode cX7_isRead 48 = .ok (.aload_n 0, 1) := by decide +kernel
theorem dX7_isRead_49 : decode cX7_isRead 49 = .ok (.invokevirtual 195, 3) := by decide +kernel
theorem dX7_isRead_52 : decode cX7_isRead 52 = .ok (.ifCond .eq 7, 3) := by decide +kernel
theorem dX7_isRead_55 : decode cX7_isRead 55 = .ok (.iconst 1, 1) := by decide +kernel
theorem dX7_isRead_56 : decode cX7_isRead 56 = .ok (.goto 4, 3) := by decide +kernel
theorem dX7_isRead_59 : decode cX7_isRead 59 = .ok (.iconst 0, 1) := by decide +kernel
theorem dX7_isRead_60 : decode cX7_isRead 60 = .ok (.ireturn, 1) := by decide +kernel
theorem dX7_doneOne_0 : decode cX7_doneOne 0 = .ok (.iconst 5, 1) := by decide +kernel
theorem dX7_doneOne_1 : decode cX7_doneOne 1 = .ok (.iload_n 1, 1) := by decide +kernel
theorem dX7_doneOne_2 : decode cX7_doneOne 2 = .ok (.imul, 1) := by decide +kernel
theorem dX7_doneOne_3 : decode cX7_doneOne 3 = .ok (.istore_n 2, 1) := by decide +kernel
theorem dX7_doneOne_4 : decode cX7_doneOne 4 = .ok (.aload_n 0, 1) := by decide +kernel
theorem dX7_doneOne_5 : decode cX7_doneOne 5 = .ok (.getfield 34, 3) := by decide +kernel
theorem dX7_doneOne_8 : decode cX7_doneOne 8 = .ok (.iload_n 2, 1) := by decide +kernel
theorem dX7_doneOne_9 : decode cX7_doneOne 9 = .ok (.iaload, 1) := by decide +kernel
theorem dX7_doneOne_10 : decode cX7_doneOne 10 = .ok (.istore_n 3, 1) := by decide +kernel
theorem dX7_doneOne_11 : decode cX7_doneOne 11 = .ok (.aload_n 0, 1) := by decide +kernel
theorem dX7_doneOne_12 : decode cX7_doneOne 12 = .ok (.getfield 31, 3) := by decide +kernel
theorem dX7_doneOne_15 : decode cX7_doneOne 15 = .ok (.iload_n 1, 1) := by decide +kernel
theorem dX7_doneOne_16 : decode cX7_doneOne 16 = .ok (.iaload, 1) := by decide +kernel
theorem dX7_doneOne_17 : decode cX7_doneOne 17 = .ok (.tableswitch 125 109 119 #[117, 125, 125, 125, 125, 97, 108, 59, 125, 125, 103], 59) := by decide +kernel
theorem dX7_doneOne_76 : decode cX7_doneOne 76 = .ok (.aload_n 0, 1) := by decide +kernel
theorem dX7_doneOne_77 : decode cX7_doneOne 77 = .ok (.iload_n 3, 1) := by decide +kernel
theorem dX7_doneOne_78 : decode cX7_doneOne 78 = .ok (.aload_n 0, 1) := by decide +kernel
theorem dX7_doneOne_79 : decode cX7_doneOne 79 = .ok (.getfield 34, 3) := by decide +kernel
theorem dX7_doneOne_82 : decode cX7_doneOne 82 = .ok (.iload_n 2, 1) := by decide +kernel
theorem dX7_doneOne_83 : decode cX7_doneOne 83 = .ok (.iconst 1, 1) := by decide +kernel
theorem dX7_doneOne_84 : decode cX7_doneOne 84 = .ok (.iadd, 1) := by decide +kernel
theorem dX7_doneOne_85 : decode cX7_doneOne 85 = .ok (.iaload, 1) := by decide +kernel
theorem dX7_doneOne_86 : decode cX7_doneOne 86 = .ok (.aload_n 0, 1) := by decide +kernel
theorem dX7_doneOne_87 : decode cX7_doneOne 87 = .ok (.getfield 34, 3) := by decide +kernel
theorem dX7_doneOne_90 : decode cX7_doneOne 90 = .ok (.iload_n 2, 1) := by decide +kernel
theorem dX7_doneOne_91 : decode cX7_doneOne 91 = .ok (.iconst 2, 1) := by decide +kernel
theorem dX7_doneOne_92 : decode cX7_doneOne 92 = .ok (.iadd, 1) := by decide +kernel
theorem dX7_doneOne_93 : decode cX7_doneOne 93 = .ok (.iaload, 1) := by decide +kernel
theorem dX7_doneOne_94 : decode cX7_doneOne 94 = .ok (.aload_n 0, 1) := by decide +kernel
theorem dX7_doneOne_95 : decode cX7_doneOne 95 = .ok (.getfield 34, 3) := by decide +kernel
theorem dX7_doneOne_98 : decode cX7_doneOne 98 = .ok (.iload_n 2, 1) := by decide +kernel
theorem dX7_doneOne_99 : decode cX7_doneOne 99 = .ok (.iconst 3, 1) := by decide +kernel
theorem dX7_doneOne_100 : decode cX7_doneOne 100 = .ok (.iadd, 1) := by decide +kernel
theorem dX7_doneOne_101 : decode cX7_doneOne 101 = .ok (.iaload, 1) := by decide +kernel
theorem dX7_doneOne_102 : decode cX7_doneOne 102 = .ok (.aload_n 0, 1) := by decide +kernel
theorem dX7_doneOne_103 : decode cX7_doneOne 103 = .ok (.getfield 34, 3) := by decide +kernel
theorem dX7_doneOne_106 : decode cX7_doneOne 106 = .ok (.iload_n 2, 1) := by decide +kernel
theorem dX7_doneOne_107 : decode cX7_doneOne 107 = .ok (.iconst 4, 1) := by decide +kernel
theorem dX7_doneOne_108 : decode cX7_doneOne 108 = .ok (.iadd, 1) := by decide +kernel
theorem dX7_doneOne_109 : decode cX7_doneOne 109 = .ok (.iaload, 1) := by decide +kernel
theorem dX7_doneOne_110 : decode cX7_doneOne 110 = .ok (.invokevirtual 124, 3) := by decide +kernel
theorem dX7_doneOne_113 : decode cX7_doneOne 113 = .ok (.ireturn, 1) := by decide +kernel
theorem dX7_doneOne_114 : decode cX7_doneOne 114 = .ok (.aload_n 0, 1) := by decide +kernel
theorem dX7_doneOne_115 : decode cX7_doneOne 115 = .ok (.iload_n 3, 1) := by decide +kernel
theorem dX7_doneOne_116 : decode cX7_doneOne 116 = .ok (.invokevirtual 134, 3) := by decide +kernel
theorem dX7_doneOne_119 : decode cX7_doneOne 119 = .ok (.ireturn, 1) := by decide +kernel
theorem dX7_doneOne_120 : decode cX7_doneOne 120 = .ok (.aload_n 0, 1) := by decide +kernel
theorem dX7_doneOne_121 : decode cX7_doneOne 121 = .ok (.invokevirtual 137, 3) := by decide +kernel
theorem dX7_doneOne_124 : decode cX7_doneOne 124 = .ok (.ireturn, 1) := by decide +kernel
theorem dX7_doneOne_125 : decode cX7_doneOne 125 = .ok (.aload_n 0, 1) := by decide +kernel
theorem dX7_doneOne_126 : decode cX7_doneOne 126 = .ok (.iconst 1, 1) := by decide +kernel
theorem dX7_doneOne_127 : decode cX7_doneOne 127 = .ok (.iload_n 3, 1) := by decide +kernel
theorem dX7_doneOne_128 : decode cX7_doneOne 128 = .ok (.bipush 63, 2) := by decide +kernel
theorem dX7_doneOne_130 : decode cX7_doneOne 130 = .ok (.invokevirtual 140, 3) := by decide +kernel
theorem dX7_doneOne_133 : decode cX7_doneOne 133 = .ok (.ireturn, 1) := by decide +kernel
theorem dX7_doneOne_134 : decode cX7_doneOne 134 = .ok (.aload_n 0, 1) := by decide +kernel
theorem dX7_doneOne_135 : decode cX7_doneOne 135 = .ok (.iconst 2, 1) := by decide +kernel
theorem dX7_doneOne_136 : decode cX7_doneOne 136 = .ok (.iload_n 3, 1) := by decide +kernel
theorem dX7_doneOne_137 : decode cX7_doneOne 137 = .ok (.iconst 1, 1) := by decide +kernel
theorem dX7_doneOne_138 : decode cX7_doneOne 138 = .ok (.invokevirtual 140, 3) := by decide +kernel
theorem dX7_doneOne_141 : decode cX7_doneOne 141 = .ok (.ireturn, 1) := by decide +kernel
theorem dX7_doneOne_142 : decode cX7_doneOne 142 = .ok (.aload_n 0, 1) := by decide +kernel
theorem dX7_doneOne_143 : decode cX7_doneOne 143 = .ok (.invokevirtual 131, 3) := by decide +kernel
theorem dX7_doneOne_146 : decode cX7_doneOne 146 = .ok (.ireturn, 1) := by decide +kernel
theorem dX7_does_0 : decode cX7_does 0 = .ok (.aload_n 0, 1) := by decide +kernel
theorem dX7_does_1 : decode cX7_does 1 = .ok (.invokevirtual 211, 3) := by decide +kernel
theorem dX7_does_4 : decode cX7_does 4 = .ok (.ifCond .ne 11, 3) := by decide +kernel
theorem dX7_does_7 : decode cX7_does 7 = .ok (.bipush (-10), 2) := by decide +kernel
theorem dX7_does_9 : decode cX7_does 9 = .ok (.aload_n 0, 1) := by decide +kernel
theorem dX7_does_10 : decode cX7_does 10 = .ok (.getfield 189, 3) := by decide +kernel
theorem dX7_does_13 : decode cX7_does 13 = .ok (.isub, 1) := by decide +kernel
theorem dX7_does_14 : decode cX7_does 14 = .ok (.ireturn, 1) := by decide +kernel
theorem dX7_does_15 : decode cX7_does 15 = .ok (.aload_n 0, 1) := by decide +kernel
theorem dX7_does_16 : decode cX7_does 16 = .ok (.invokevirtual 121, 3) := by decide +kernel
theorem dX7_does_19 : decode cX7_does 19 = .ok (.iconst 0, 1) := by decide +kernel
theorem dX7_does_20 : decode cX7_does 20 = .ok (.istore_n 1, 1) := by decide +kernel
theorem dX7_does_21 : decode cX7_does 21 = .ok (.iload_n 1, 1) := by decide +kernel
theorem dX7_does_22 : decode cX7_does 22 = .ok (.aload_n 0, 1) := by decide +kernel
theorem dX7_does_23 : decode cX7_does 23 = .ok (.getfield 202, 3) := by decide +kernel
theorem dX7_does_26 : decode cX7_does 26 = .ok (.if_icmp .ge 29, 3) := by decide +kernel
theorem dX7_does_29 : decode cX7_does 29 = .ok (.aload_n 0, 1) := by decide +kernel
theorem dX7_does_30 : decode cX7_does 30 = .ok (.iload_n 1, 1) := by decide +kernel
theorem dX7_does_31 : decode cX7_does 31 = .ok (.invokevirtual 214, 3) := by decide +kernel
theorem dX7_does_34 : decode cX7_does 34 = .ok (.bipush (-2), 2) := by decide +kernel
theorem dX7_does_36 : decode cX7_does 36 = .ok (.if_icmp .gt 13, 3) := by decide +kernel
theorem dX7_does_39 : decode cX7_does 39 = .ok (.aload_n 0, 1) := by decide +kernel
theorem dX7_does_40 : decode cX7_does 40 = .ok (.invokevirtual 217, 3) := by decide +kernel
theorem dX7_does_43 : decode cX7_does 43 = .ok (.sipush (-1000), 3) := by decide +kernel
theorem dX7_does_46 : decode cX7_does 46 = .ok (.iload_n 1, 1) := by decide +kernel
theorem dX7_does_47 : decode cX7_does 47 = .ok (.isub, 1) := by decide +kernel
theorem dX7_does_48 : decode cX7_does 48 = .ok (.ireturn, 1) := by decide +kernel
theorem dX7_does_49 : decode cX7_does 49 = .ok (.iinc 1 1, 3) := by decide +kernel
theorem dX7_does_52 : decode cX7_does 52 = .ok (.goto (-31), 3) := by decide +kernel
theorem dX7_does_55 : decode cX7_does 55 = .ok (.aload_n 0, 1) := by decide +kernel
theorem dX7_does_56 : decode cX7_does 56 = .ok (.invokevirtual 45, 3) := by decide +kernel
theorem dX7_does_59 : decode cX7_does 59 = .ok (.aload_n 0, 1) := by decide +kernel
theorem dX7_does_60 : decode cX7_does 60 = .ok (.getfield 202, 3) := by decide +kernel
theorem dX7_does_63 : decode cX7_does 63 = .ok (.ireturn, 1) := by decide +kernel
theorem dX7_toldAt_0 : decode cX7_toldAt 0 = .ok (.iload_n 1, 1) := by decide +kernel
theorem dX7_toldAt_1 : decode cX7_toldAt 1 = .ok (.iconst 3, 1) := by decide +kernel
theorem dX7_toldAt_2 : decode cX7_toldAt 2 = .ok (.if_icmp .ge 12, 3) := by decide +kernel
theorem dX7_toldAt_5 : decode cX7_toldAt 5 = .ok (.aload_n 0, 1) := by decide +kernel
theorem dX7_toldAt_6 : decode cX7_toldAt 6 = .ok (.getfield 19, 3) := by decide +kernel
theorem dX7_toldAt_9 : decode cX7_toldAt 9 = .ok (.iload_n 1, 1) := by decide +kernel
theorem dX7_toldAt_10 : decode cX7_toldAt 10 = .ok (.iaload, 1) := by decide +kernel
theorem dX7_toldAt_11 : decode cX7_toldAt 11 = .ok (.goto 19, 3) := by decide +kernel
theorem dX7_toldAt_14 : decode cX7_toldAt 14 = .ok (.iload_n 1, 1) := by decide +kernel
theorem dX7_toldAt_15 : decode cX7_toldAt 15 = .ok (.iconst 3, 1) := by decide +kernel
theorem dX7_toldAt_16 : decode cX7_toldAt 16 = .ok (.if_icmp .ne 10, 3) := by decide +kernel
theorem dX7_toldAt_19 : decode cX7_toldAt 19 = .ok (.aload_n 0, 1) := by decide +kernel
theorem dX7_toldAt_20 : decode cX7_toldAt 20 = .ok (.getfield 180, 3) := by decide +kernel
theorem dX7_toldAt_23 : decode cX7_toldAt 23 = .ok (.goto 7, 3) := by decide +kernel
theorem dX7_toldAt_26 : decode cX7_toldAt 26 = .ok (.aload_n 0, 1) := by decide +kernel
theorem dX7_toldAt_27 : decode cX7_toldAt 27 = .ok (.getfield 37, 3) := by decide +kernel
theorem dX7_toldAt_30 : decode cX7_toldAt 30 = .ok (.ireturn, 1) := by decide +kernel
theorem dX7_told_0 : decode cX7_told 0 = .ok (.iload_n 1, 1) := by decide +kernel
theorem dX7_told_1 : decode cX7_told 1 = .ok (.iconst 0, 1) := by decide +kernel
theorem dX7_told_2 : decode cX7_told 2 = .ok (.iconst 4, 1) := by decide +kernel
theorem dX7_told_3 : decode cX7_told 3 = .ok (.invokestatic 48, 3) := by decide +kernel
theorem dX7_told_6 : decode cX7_told 6 = .ok (.ifCond .eq 11, 3) := by decide +kernel
theorem dX7_told_9 : decode cX7_told 9 = .ok (.aload_n 0, 1) := by decide +kernel
theorem dX7_told_10 : decode cX7_told 10 = .ok (.iload_n 1, 1) := by decide +kernel
theorem dX7_told_11 : decode cX7_told 11 = .ok (.invokevirtual 220, 3) := by decide +kernel
theorem dX7_told_14 : decode cX7_told 14 = .ok (.goto 9, 3) := by decide +kernel
theorem dX7_told_17 : decode cX7_told 17 = .ok (.aload_n 0, 1) := by decide +kernel
theorem dX7_told_18 : decode cX7_told 18 = .ok (.bipush (-2), 2) := by decide +kernel
theorem dX7_told_20 : decode cX7_told 20 = .ok (.invokevirtual 41, 3) := by decide +kernel
theorem dX7_told_23 : decode cX7_told 23 = .ok (.ireturn, 1) := by decide +kernel
theorem dX7_mix_0 : decode cX7_mix 0 = .ok (.aload_n 0, 1) := by decide +kernel
theorem dX7_mix_1 : decode cX7_mix 1 = .ok (.ldc2_w 223, 3) := by decide +kernel
theorem dX7_mix_4 : decode cX7_mix 4 = .ok (.aload_n 0, 1) := by decide +kernel
theorem dX7_mix_5 : decode cX7_mix 5 = .ok (.getfield 225, 3) := by decide +kernel
theorem dX7_mix_8 : decode cX7_mix 8 = .ok (.lmul, 1) := by decide +kernel
theorem dX7_mix_9 : decode cX7_mix 9 = .ok (.lload_n 1, 1) := by decide +kernel
theorem dX7_mix_10 : decode cX7_mix 10 = .ok (.ladd, 1) := by decide +kernel
theorem dX7_mix_11 : decode cX7_mix 11 = .ok (.putfield 225, 3) := by decide +kernel
theorem dX7_mix_14 : decode cX7_mix 14 = .ok (.return_, 1) := by decide +kernel
theorem dX7_digest_0 : decode cX7_digest 0 = .ok (.aload_n 0, 1) := by decide +kernel
theorem dX7_digest_1 : decode cX7_digest 1 = .ok (.ldc2_w 229, 3) := by decide +kernel
theorem dX7_digest_4 : decode cX7_digest 4 = .ok (.putfield 225, 3) := by decide +kernel
theorem dX7_digest_7 : decode cX7_digest 7 = .ok (.iconst 0, 1) := by decide +kernel
theorem dX7_digest_8 : decode cX7_digest 8 = .ok (.istore_n 1, 1) := by decide +kernel
theorem dX7_digest_9 : decode cX7_digest 9 = .ok (.iload_n 1, 1) := by decide +kernel
theorem dX7_digest_10 : decode cX7_digest 10 = .ok (.iconst 5, 1) := by decide +kernel
theorem dX7_digest_11 : decode cX7_digest 11 = .ok (.if_icmp .ge 19, 3) := by decide +kernel
theorem dX7_digest_14 : decode cX7_digest 14 = .ok (.aload_n 0, 1) := by decide +kernel
theorem dX7_digest_15 : decode cX7_digest 15 = .ok (.aload_n 0, 1) := by decide +kernel
theorem dX7_digest_16 : decode cX7_digest 16 = .ok (.iload_n 1, 1) := by decide +kernel
theorem dX7_digest_17 : decode cX7_digest 17 = .ok (.invokevirtual 220, 3) := by decide +kernel
theorem dX7_digest_20 : decode cX7_digest 20 = .ok (.i2l, 1) := by decide +kernel
theorem dX7_digest_21 : decode cX7_digest 21 = .ok (.invokevirtual 231, 3) := by decide +kernel
theorem dX7_digest_24 : decode cX7_digest 24 = .ok (.iinc 1 1, 3) := by decide +kernel
theorem dX7_digest_27 : decode cX7_digest 27 = .ok (.goto (-18), 3) := by decide +kernel
theorem dX7_digest_30 : decode cX7_digest 30 = .ok (.iconst 0, 1) := by decide +kernel
theorem dX7_digest_31 : decode cX7_digest 31 = .ok (.istore_n 1, 1) := by decide +kernel
theorem dX7_digest_32 : decode cX7_digest 32 = .ok (.iload_n 1, 1) := by decide +kernel
theorem dX7_digest_33 : decode cX7_digest 33 = .ok (.bipush 8, 2) := by decide +kernel
theorem dX7_digest_35 : decode cX7_digest 35 = .ok (.if_icmp .ge 19, 3) := by decide +kernel
theorem dX7_digest_38 : decode cX7_digest 38 = .ok (.aload_n 0, 1) := by decide +kernel
theorem dX7_digest_39 : decode cX7_digest 39 = .ok (.aload_n 0, 1) := by decide +kernel
theorem dX7_digest_40 : decode cX7_digest 40 = .ok (.iload_n 1, 1) := by decide +kernel
theorem dX7_digest_41 : decode cX7_digest 41 = .ok (.invokevirtual 177, 3) := by decide +kernel
theorem dX7_digest_44 : decode cX7_digest 44 = .ok (.i2l, 1) := by decide +kernel
theorem dX7_digest_45 : decode cX7_digest 45 = .ok (.invokevirtual 231, 3) := by decide +kernel
theorem dX7_digest_48 : decode cX7_digest 48 = .ok (.iinc 1 1, 3) := by decide +kernel
theorem dX7_digest_51 : decode cX7_digest 51 = .ok (.goto (-19), 3) := by decide +kernel
theorem dX7_digest_54 : decode cX7_digest 54 = .ok (.iconst 0, 1) := by decide +kernel
theorem dX7_digest_55 : decode cX7_digest 55 = .ok (.istore_n 1, 1) := by decide +kernel
theorem dX7_digest_56 : decode cX7_digest 56 = .ok (.iload_n 1, 1) := by decide +kernel
theorem dX7_digest_57 : decode cX7_digest 57 = .ok (.aload_n 0, 1) := by decide +kernel
theorem dX7_digest_58 : decode cX7_digest 58 = .ok (.getfield 7, 3) := by decide +kernel
theorem dX7_digest_61 : decode cX7_digest 61 = .ok (.iconst 0, 1) := by decide +kernel
theorem dX7_digest_62 : decode cX7_digest 62 = .ok (.iaload, 1) := by decide +kernel
theorem dX7_digest_63 : decode cX7_digest 63 = .ok (.if_icmp .ge 34, 3) := by decide +kernel
theorem dX7_digest_66 : decode cX7_digest 66 = .ok (.iconst 0, 1) := by decide +kernel
theorem dX7_digest_67 : decode cX7_digest 67 = .ok (.istore_n 2, 1) := by decide +kernel
theorem dX7_digest_68 : decode cX7_digest 68 = .ok (.iload_n 2, 1) := by decide +kernel
theorem dX7_digest_69 : decode cX7_digest 69 = .ok (.bipush 6, 2) := by decide +kernel
theorem dX7_digest_71 : decode cX7_digest 71 = .ok (.if_icmp .ge 20, 3) := by decide +kernel
theorem dX7_digest_74 : decode cX7_digest 74 = .ok (.aload_n 0, 1) := by decide +kernel
theorem dX7_digest_75 : decode cX7_digest 75 = .ok (.aload_n 0, 1) := by decide +kernel
theorem dX7_digest_76 : decode cX7_digest 76 = .ok (.iload_n 1, 1) := by decide +kernel
theorem dX7_digest_77 : decode cX7_digest 77 = .ok (.iload_n 2, 1) := by decide +kernel
theorem dX7_digest_78 : decode cX7_digest 78 = .ok (.invokevirtual 150, 3) := by decide +kernel
theorem dX7_digest_81 : decode cX7_digest 81 = .ok (.i2l, 1) := by decide +kernel
theorem dX7_digest_82 : decode cX7_digest 82 = .ok (.invokevirtual 231, 3) := by decide +kernel
theorem dX7_digest_85 : decode cX7_digest 85 = .ok (.iinc 2 1, 3) := by decide +kernel
theorem dX7_digest_88 : decode cX7_digest 88 = .ok (.goto (-20), 3) := by decide +kernel
theorem dX7_digest_91 : decode cX7_digest 91 = .ok (.iinc 1 1, 3) := by decide +kernel
theorem dX7_digest_94 : decode cX7_digest 94 = .ok (.goto (-38), 3) := by decide +kernel
theorem dX7_digest_97 : decode cX7_digest 97 = .ok (.iconst 0, 1) := by decide +kernel
theorem dX7_digest_98 : decode cX7_digest 98 = .ok (.istore_n 1, 1) := by decide +kernel
theorem dX7_digest_99 : decode cX7_digest 99 = .ok (.iload_n 1, 1) := by decide +kernel
theorem dX7_digest_100 : decode cX7_digest 100 = .ok (.aload_n 0, 1) := by decide +kernel
theorem dX7_digest_101 : decode cX7_digest 101 = .ok (.getfield 7, 3) := by decide +kernel
theorem dX7_digest_104 : decode cX7_digest 104 = .ok (.iconst 3, 1) := by decide +kernel
theorem dX7_digest_105 : decode cX7_digest 105 = .ok (.iaload, 1) := by decide +kernel
theorem dX7_digest_106 : decode cX7_digest 106 = .ok (.if_icmp .ge 46, 3) := by decide +kernel
theorem dX7_digest_109 : decode cX7_digest 109 = .ok (.aload_n 0, 1) := by decide +kernel
theorem dX7_digest_110 : decode cX7_digest 110 = .ok (.aload_n 0, 1) := by decide +kernel
theorem dX7_digest_111 : decode cX7_digest 111 = .ok (.getfield 7, 3) := by decide +kernel
theorem dX7_digest_114 : decode cX7_digest 114 = .ok (.iconst 4, 1) := by decide +kernel
theorem dX7_digest_115 : decode cX7_digest 115 = .ok (.iload_n 1, 1) := by decide +kernel
theorem dX7_digest_116 : decode cX7_digest 116 = .ok (.iadd, 1) := by decide +kernel
theorem dX7_digest_117 : decode cX7_digest 117 = .ok (.iaload, 1) := by decide +kernel
theorem dX7_digest_118 : decode cX7_digest 118 = .ok (.i2l, 1) := by decide +kernel
theorem dX7_digest_119 : decode cX7_digest 119 = .ok (.invokevirtual 231, 3) := by decide +kernel
theorem dX7_digest_122 : decode cX7_digest 122 = .ok (.iconst 1, 1) := by decide +kernel
theorem dX7_digest_123 : decode cX7_digest 123 = .ok (.istore_n 2, 1) := by decide +kernel
theorem dX7_digest_124 : decode cX7_digest 124 = .ok (.iload_n 2, 1) := by decide +kernel
theorem dX7_digest_125 : decode cX7_digest 125 = .ok (.iconst 5, 1) := by decide +kernel
theorem dX7_digest_126 : decode cX7_digest 126 = .ok (.if_icmp .ge 20, 3) := by decide +kernel
theorem dX7_digest_129 : decode cX7_digest 129 = .ok (.aload_n 0, 1) := by decide +kernel
theorem dX7_digest_130 : decode cX7_digest 130 = .ok (.aload_n 0, 1) := by decide +kernel
theorem dX7_digest_131 : decode cX7_digest 131 = .ok (.iload_n 1, 1) := by decide +kernel
theorem dX7_digest_132 : decode cX7_digest 132 = .ok (.iload_n 2, 1) := by decide +kernel
theorem dX7_digest_133 : decode cX7_digest 133 = .ok (.invokevirtual 165, 3) := by decide +kernel
theorem dX7_digest_136 : decode cX7_digest 136 = .ok (.i2l, 1) := by decide +kernel
theorem dX7_digest_137 : decode cX7_digest 137 = .ok (.invokevirtual 231, 3) := by decide +kernel
theorem dX7_digest_140 : decode cX7_digest 140 = .ok (.iinc 2 1, 3) := by decide +kernel
theorem dX7_digest_143 : decode cX7_digest 143 = .ok (.goto (-19), 3) := by decide +kernel
theorem dX7_digest_146 : decode cX7_digest 146 = .ok (.iinc 1 1, 3) := by decide +kernel
theorem dX7_digest_149 : decode cX7_digest 149 = .ok (.goto (-50), 3) := by decide +kernel
theorem dX7_digest_152 : decode cX7_digest 152 = .ok (.iconst 1, 1) := by decide +kernel
theorem dX7_digest_153 : decode cX7_digest 153 = .ok (.istore_n 1, 1) := by decide +kernel
theorem dX7_digest_154 : decode cX7_digest 154 = .ok (.iload_n 1, 1) := by decide +kernel
theorem dX7_digest_155 : decode cX7_digest 155 = .ok (.iconst 4, 1) := by decide +kernel
theorem dX7_digest_156 : decode cX7_digest 156 = .ok (.if_icmp .ge 19, 3) := by decide +kernel
theorem dX7_digest_159 : decode cX7_digest 159 = .ok (.aload_n 0, 1) := by decide +kernel
theorem dX7_digest_160 : decode cX7_digest 160 = .ok (.aload_n 0, 1) := by decide +kernel
theorem dX7_digest_161 : decode cX7_digest 161 = .ok (.iload_n 1, 1) := by decide +kernel
theorem dX7_digest_162 : decode cX7_digest 162 = .ok (.invokevirtual 162, 3) := by decide +kernel
theorem dX7_digest_165 : decode cX7_digest 165 = .ok (.i2l, 1) := by decide +kernel
theorem dX7_digest_166 : decode cX7_digest 166 = .ok (.invokevirtual 231, 3) := by decide +kernel
theorem dX7_digest_169 : decode cX7_digest 169 = .ok (.iinc 1 1, 3) := by decide +kernel
theorem dX7_digest_172 : decode cX7_digest 172 = .ok (.goto (-18), 3) := by decide +kernel
theorem dX7_digest_175 : decode cX7_digest 175 = .ok (.aload_n 0, 1) := by decide +kernel
theorem dX7_digest_176 : decode cX7_digest 176 = .ok (.getfield 225, 3) := by decide +kernel
theorem dX7_digest_179 : decode cX7_digest 179 = .ok (.lreturn, 1) := by decide +kernel
theorem dJ6_bitCount_0f7a4_0 : decode cJ6_bitCount_0f7a4 0 = .ok (.iload_n 0, 1) := by decide +kernel
theorem dJ6_bitCount_0f7a4_1 : decode cJ6_bitCount_0f7a4 1 = .ok (.iload_n 0, 1) := by decide +kernel
theorem dJ6_bitCount_0f7a4_2 : decode cJ6_bitCount_0f7a4 2 = .ok (.iconst 1, 1) := by decide +kernel
theorem dJ6_bitCount_0f7a4_3 : decode cJ6_bitCount_0f7a4 3 = .ok (.iushr, 1) := by decide +kernel
theorem dJ6_bitCount_0f7a4_4 : decode cJ6_bitCount_0f7a4 4 = .ok (.ldc_w 265, 3) := by decide +kernel
theorem dJ6_bitCount_0f7a4_7 : decode cJ6_bitCount_0f7a4 7 = .ok (.iand, 1) := by decide +kernel
theorem dJ6_bitCount_0f7a4_8 : decode cJ6_bitCount_0f7a4 8 = .ok (.isub, 1) := by decide +kernel
theorem dJ6_bitCount_0f7a4_9 : decode cJ6_bitCount_0f7a4 9 = .ok (.istore_n 0, 1) := by decide +kernel
theorem dJ6_bitCount_0f7a4_10 : decode cJ6_bitCount_0f7a4 10 = .ok (.iload_n 0, 1) := by decide +kernel
theorem dJ6_bitCount_0f7a4_11 : decode cJ6_bitCount_0f7a4 11 = .ok (.ldc_w 266, 3) := by decide +kernel
theorem dJ6_bitCount_0f7a4_14 : decode cJ6_bitCount_0f7a4 14 = .ok (.iand, 1) := by decide +kernel
theorem dJ6_bitCount_0f7a4_15 : decode cJ6_bitCount_0f7a4 15 = .ok (.iload_n 0, 1) := by decide +kernel
theorem dJ6_bitCount_0f7a4_16 : decode cJ6_bitCount_0f7a4 16 = .ok (.iconst 2, 1) := by decide +kernel
theorem dJ6_bitCount_0f7a4_17 : decode cJ6_bitCount_0f7a4 17 = .ok (.iushr, 1) := by decide +kernel
theorem dJ6_bitCount_0f7a4_18 : decode cJ6_bitCount_0f7a4 18 = .ok (.ldc_w 266, 3) := by decide +kernel
theorem dJ6_bitCount_0f7a4_21 : decode cJ6_bitCount_0f7a4 21 = .ok (.iand, 1) := by decide +kernel
theorem dJ6_bitCount_0f7a4_22 : decode cJ6_bitCount_0f7a4 22 = .ok (.iadd, 1) := by decide +kernel
theorem dJ6_bitCount_0f7a4_23 : decode cJ6_bitCount_0f7a4 23 = .ok (.istore_n 0, 1) := by decide +kernel
theorem dJ6_bitCount_0f7a4_24 : decode cJ6_bitCount_0f7a4 24 = .ok (.iload_n 0, 1) := by decide +kernel
theorem dJ6_bitCount_0f7a4_25 : decode cJ6_bitCount_0f7a4 25 = .ok (.iload_n 0, 1) := by decide +kernel
theorem dJ6_bitCount_0f7a4_26 : decode cJ6_bitCount_0f7a4 26 = .ok (.iconst 4, 1) := by decide +kernel
theorem dJ6_bitCount_0f7a4_27 : decode cJ6_bitCount_0f7a4 27 = .ok (.iushr, 1) := by decide +kernel
theorem dJ6_bitCount_0f7a4_28 : decode cJ6_bitCount_0f7a4 28 = .ok (.iadd, 1) := by decide +kernel
theorem dJ6_bitCount_0f7a4_29 : decode cJ6_bitCount_0f7a4 29 = .ok (.ldc_w 267, 3) := by decide +kernel
theorem dJ6_bitCount_0f7a4_32 : decode cJ6_bitCount_0f7a4 32 = .ok (.iand, 1) := by decide +kernel
theorem dJ6_bitCount_0f7a4_33 : decode cJ6_bitCount_0f7a4 33 = .ok (.istore_n 0, 1) := by decide +kernel
theorem dJ6_bitCount_0f7a4_34 : decode cJ6_bitCount_0f7a4 34 = .ok (.iload_n 0, 1) := by decide +kernel
theorem dJ6_bitCount_0f7a4_35 : decode cJ6_bitCount_0f7a4 35 = .ok (.iload_n 0, 1) := by decide +kernel
theorem dJ6_bitCount_0f7a4_36 : decode cJ6_bitCount_0f7a4 36 = .ok (.bipush 8, 2) := by decide +kernel
theorem dJ6_bitCount_0f7a4_38 : decode cJ6_bitCount_0f7a4 38 = .ok (.iushr, 1) := by decide +kernel
theorem dJ6_bitCount_0f7a4_39 : decode cJ6_bitCount_0f7a4 39 = .ok (.iadd, 1) := by decide +kernel
theorem dJ6_bitCount_0f7a4_40 : decode cJ6_bitCount_0f7a4 40 = .ok (.istore_n 0, 1) := by decide +kernel
theorem dJ6_bitCount_0f7a4_41 : decode cJ6_bitCount_0f7a4 41 = .ok (.iload_n 0, 1) := by decide +kernel
theorem dJ6_bitCount_0f7a4_42 : decode cJ6_bitCount_0f7a4 42 = .ok (.iload_n 0, 1) := by decide +kernel
theorem dJ6_bitCount_0f7a4_43 : decode cJ6_bitCount_0f7a4 43 = .ok (.bipush 16, 2) := by decide +kernel
theorem dJ6_bitCount_0f7a4_45 : decode cJ6_bitCount_0f7a4 45 = .ok (.iushr, 1) := by decide +kernel
theorem dJ6_bitCount_0f7a4_46 : decode cJ6_bitCount_0f7a4 46 = .ok (.iadd, 1) := by decide +kernel
theorem dJ6_bitCount_0f7a4_47 : decode cJ6_bitCount_0f7a4 47 = .ok (.istore_n 0, 1) := by decide +kernel
theorem dJ6_bitCount_0f7a4_48 : decode cJ6_bitCount_0f7a4 48 = .ok (.iload_n 0, 1) := by decide +kernel
theorem dJ6_bitCount_0f7a4_49 : decode cJ6_bitCount_0f7a4 49 = .ok (.bipush 63, 2) := by decide +kernel
theorem dJ6_bitCount_0f7a4_51 : decode cJ6_bitCount_0f7a4 51 = .ok (.iand, 1) := by decide +kernel
theorem dJ6_bitCount_0f7a4_52 : decode cJ6_bitCount_0f7a4 52 = .ok (.ireturn, 1) := by decide +kernel
theorem dJ9_min_7cf53_0 : decode cJ9_min_7cf53 0 = .ok (.iload_n 0, 1) := by decide +kernel
theorem dJ9_min_7cf53_1 : decode cJ9_min_7cf53 1 = .ok (.iload_n 1, 1) := by decide +kernel
theorem dJ9_min_7cf53_2 : decode cJ9_min_7cf53 2 = .ok (.if_icmp .gt 7, 3) := by decide +kernel
theorem dJ9_min_7cf53_5 : decode cJ9_min_7cf53 5 = .ok (.iload_n 0, 1) := by decide +kernel
theorem dJ9_min_7cf53_6 : decode cJ9_min_7cf53 6 = .ok (.goto 4, 3) := by decide +kernel
theorem dJ9_min_7cf53_9 : decode cJ9_min_7cf53 9 = .ok (.iload_n 1, 1) := by decide +kernel
theorem dJ9_min_7cf53_10 : decode cJ9_min_7cf53 10 = .ok (.ireturn, 1) := by decide +kernel
theorem dL_law_0 : decode cL_law 0 = .ok (.new 7, 3) := by decide +kernel
theorem dL_law_3 : decode cL_law 3 = .ok (.dup, 1) := by decide +kernel
theorem dL_law_4 : decode cL_law 4 = .ok (.invokespecial 9, 3) := by decide +kernel
theorem dL_law_7 : decode cL_law 7 = .ok (.astore_n 1, 1) := by decide +kernel
theorem dL_law_8 : decode cL_law 8 = .ok (.new 10, 3) := by decide +kernel
theorem dL_law_11 : decode cL_law 11 = .ok (.dup, 1) := by decide +kernel
theorem dL_law_12 : decode cL_law 12 = .ok (.invokespecial 12, 3) := by decide +kernel
theorem dL_law_15 : decode cL_law 15 = .ok (.astore_n 2, 1) := by decide +kernel
