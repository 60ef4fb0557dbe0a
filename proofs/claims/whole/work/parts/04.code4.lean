theorem dX7_tries_60 : decode cX7_tries 60 = .ok (.return_, 1) := by decide +kernel
theorem dX7_flipsIn_0 : decode cX7_flipsIn 0 = .ok (.aload_n 0, 1) := by decide +kernel
theorem dX7_flipsIn_1 : decode cX7_flipsIn 1 = .ok (.iload_n 1, 1) := by decide +kernel
theorem dX7_flipsIn_2 : decode cX7_flipsIn 2 = .ok (.iload_n 2, 1) := by decide +kernel
theorem dX7_flipsIn_3 : decode cX7_flipsIn 3 = .ok (.invokevirtual 80, 3) := by decide +kernel
theorem dX7_flipsIn_6 : decode cX7_flipsIn 6 = .ok (.aload_n 0, 1) := by decide +kernel
theorem dX7_flipsIn_7 : decode cX7_flipsIn 7 = .ok (.aload_n 0, 1) := by decide +kernel
theorem dX7_flipsIn_8 : decode cX7_flipsIn 8 = .ok (.getfield 7, 3) := by decide +kernel
theorem dX7_flipsIn_11 : decode cX7_flipsIn 11 = .ok (.iconst 4, 1) := by decide +kernel
theorem dX7_flipsIn_12 : decode cX7_flipsIn 12 = .ok (.iload_n 1, 1) := by decide +kernel
theorem dX7_flipsIn_13 : decode cX7_flipsIn 13 = .ok (.iadd, 1) := by decide +kernel
theorem dX7_flipsIn_14 : decode cX7_flipsIn 14 = .ok (.iaload, 1) := by decide +kernel
theorem dX7_flipsIn_15 : decode cX7_flipsIn 15 = .ok (.invokevirtual 74, 3) := by decide +kernel
theorem dX7_flipsIn_18 : decode cX7_flipsIn 18 = .ok (.ireturn, 1) := by decide +kernel
theorem dX7_ahead_0 : decode cX7_ahead 0 = .ok (.iconst 0, 1) := by decide +kernel
theorem dX7_ahead_1 : decode cX7_ahead 1 = .ok (.istore_n 2, 1) := by decide +kernel
theorem dX7_ahead_2 : decode cX7_ahead 2 = .ok (.iconst 0, 1) := by decide +kernel
theorem dX7_ahead_3 : decode cX7_ahead 3 = .ok (.istore_n 3, 1) := by decide +kernel
theorem dX7_ahead_4 : decode cX7_ahead 4 = .ok (.iload_n 3, 1) := by decide +kernel
theorem dX7_ahead_5 : decode cX7_ahead 5 = .ok (.iload_n 1, 1) := by decide +kernel
theorem dX7_ahead_6 : decode cX7_ahead 6 = .ok (.if_icmp .ge 22, 3) := by decide +kernel
theorem dX7_ahead_9 : decode cX7_ahead 9 = .ok (.iload_n 2, 1) := by decide +kernel
theorem dX7_ahead_10 : decode cX7_ahead 10 = .ok (.iconst 1, 1) := by decide +kernel
theorem dX7_ahead_11 : decode cX7_ahead 11 = .ok (.aload_n 0, 1) := by decide +kernel
theorem dX7_ahead_12 : decode cX7_ahead 12 = .ok (.getfield 7, 3) := by decide +kernel
theorem dX7_ahead_15 : decode cX7_ahead 15 = .ok (.iconst 4, 1) := by decide +kernel
theorem dX7_ahead_16 : decode cX7_ahead 16 = .ok (.iload_n 3, 1) := by decide +kernel
theorem dX7_ahead_17 : decode cX7_ahead 17 = .ok (.iadd, 1) := by decide +kernel
theorem dX7_ahead_18 : decode cX7_ahead 18 = .ok (.iaload, 1) := by decide +kernel
theorem dX7_ahead_19 : decode cX7_ahead 19 = .ok (.ishl, 1) := by decide +kernel
theorem dX7_ahead_20 : decode cX7_ahead 20 = .ok (.ior, 1) := by decide +kernel
theorem dX7_ahead_21 : decode cX7_ahead 21 = .ok (.istore_n 2, 1) := by decide +kernel
theorem dX7_ahead_22 : decode cX7_ahead 22 = .ok (.iinc 3 1, 3) := by decide +kernel
theorem dX7_ahead_25 : decode cX7_ahead 25 = .ok (.goto (-21), 3) := by decide +kernel
theorem dX7_ahead_28 : decode cX7_ahead 28 = .ok (.iload_n 2, 1) := by decide +kernel
theorem dX7_ahead_29 : decode cX7_ahead 29 = .ok (.ireturn, 1) := by decide +kernel
theorem dX7_leastOf_0 : decode cX7_leastOf 0 = .ok (.aload_n 0, 1) := by decide +kernel
theorem dX7_leastOf_1 : decode cX7_leastOf 1 = .ok (.iload_n 1, 1) := by decide +kernel
theorem dX7_leastOf_2 : decode cX7_leastOf 2 = .ok (.invokevirtual 84, 3) := by decide +kernel
theorem dX7_leastOf_5 : decode cX7_leastOf 5 = .ok (.istore_n 2, 1) := by decide +kernel
theorem dX7_leastOf_6 : decode cX7_leastOf 6 = .ok (.iconst 1, 1) := by decide +kernel
theorem dX7_leastOf_7 : decode cX7_leastOf 7 = .ok (.istore_n 3, 1) := by decide +kernel
theorem dX7_leastOf_8 : decode cX7_leastOf 8 = .ok (.iload_n 3, 1) := by decide +kernel
theorem dX7_leastOf_9 : decode cX7_leastOf 9 = .ok (.ifCond .eq 61, 3) := by decide +kernel
theorem dX7_leastOf_12 : decode cX7_leastOf 12 = .ok (.iconst 0, 1) := by decide +kernel
theorem dX7_leastOf_13 : decode cX7_leastOf 13 = .ok (.istore_n 3, 1) := by decide +kernel
theorem dX7_leastOf_14 : decode cX7_leastOf 14 = .ok (.iconst 0, 1) := by decide +kernel
theorem dX7_leastOf_15 : decode cX7_leastOf 15 = .ok (.istore 4, 2) := by decide +kernel
theorem dX7_leastOf_17 : decode cX7_leastOf 17 = .ok (.iload 4, 2) := by decide +kernel
theorem dX7_leastOf_19 : decode cX7_leastOf 19 = .ok (.iload_n 1, 1) := by decide +kernel
theorem dX7_leastOf_20 : decode cX7_leastOf 20 = .ok (.if_icmp .ge 47, 3) := by decide +kernel
theorem dX7_leastOf_23 : decode cX7_leastOf 23 = .ok (.iload_n 2, 1) := by decide +kernel
theorem dX7_leastOf_24 : decode cX7_leastOf 24 = .ok (.iconst 1, 1) := by decide +kernel
theorem dX7_leastOf_25 : decode cX7_leastOf 25 = .ok (.aload_n 0, 1) := by decide +kernel
theorem dX7_leastOf_26 : decode cX7_leastOf 26 = .ok (.getfield 7, 3) := by decide +kernel
theorem dX7_leastOf_29 : decode cX7_leastOf 29 = .ok (.iconst 4, 1) := by decide +kernel
theorem dX7_leastOf_30 : decode cX7_leastOf 30 = .ok (.iload 4, 2) := by decide +kernel
theorem dX7_leastOf_32 : decode cX7_leastOf 32 = .ok (.iadd, 1) := by decide +kernel
theorem dX7_leastOf_33 : decode cX7_leastOf 33 = .ok (.iaload, 1) := by decide +kernel
theorem dX7_leastOf_34 : decode cX7_leastOf 34 = .ok (.ishl, 1) := by decide +kernel
theorem dX7_leastOf_35 : decode cX7_leastOf 35 = .ok (.iconst (-1), 1) := by decide +kernel
theorem dX7_leastOf_36 : decode cX7_leastOf 36 = .ok (.ixor, 1) := by decide +kernel
theorem dX7_leastOf_37 : decode cX7_leastOf 37 = .ok (.iand, 1) := by decide +kernel
theorem dX7_leastOf_38 : decode cX7_leastOf 38 = .ok (.istore 5, 2) := by decide +kernel
theorem dX7_leastOf_40 : decode cX7_leastOf 40 = .ok (.iload 5, 2) := by decide +kernel
theorem dX7_leastOf_42 : decode cX7_leastOf 42 = .ok (.iload_n 2, 1) := by decide +kernel
theorem dX7_leastOf_43 : decode cX7_leastOf 43 = .ok (.if_icmp .eq 18, 3) := by decide +kernel
theorem dX7_leastOf_46 : decode cX7_leastOf 46 = .ok (.aload_n 0, 1) := by decide +kernel
theorem dX7_leastOf_47 : decode cX7_leastOf 47 = .ok (.iload_n 1, 1) := by decide +kernel
theorem dX7_leastOf_48 : decode cX7_leastOf 48 = .ok (.iload 5, 2) := by decide +kernel
theorem dX7_leastOf_50 : decode cX7_leastOf 50 = .ok (.invokevirtual 87, 3) := by decide +kernel
theorem dX7_leastOf_53 : decode cX7_leastOf 53 = .ok (.ifCond .eq 8, 3) := by decide +kernel
theorem dX7_leastOf_56 : decode cX7_leastOf 56 = .ok (.iload 5, 2) := by decide +kernel
theorem dX7_leastOf_58 : decode cX7_leastOf 58 = .ok (.istore_n 2, 1) := by decide +kernel
theorem dX7_leastOf_59 : decode cX7_leastOf 59 = .ok (.iconst 1, 1) := by decide +kernel
theorem dX7_leastOf_60 : decode cX7_leastOf 60 = .ok (.istore_n 3, 1) := by decide +kernel
theorem dX7_leastOf_61 : decode cX7_leastOf 61 = .ok (.iinc 4 1, 3) := by decide +kernel
theorem dX7_leastOf_64 : decode cX7_leastOf 64 = .ok (.goto (-47), 3) := by decide +kernel
theorem dX7_leastOf_67 : decode cX7_leastOf 67 = .ok (.goto (-59), 3) := by decide +kernel
theorem dX7_leastOf_70 : decode cX7_leastOf 70 = .ok (.iload_n 2, 1) := by decide +kernel
theorem dX7_leastOf_71 : decode cX7_leastOf 71 = .ok (.ireturn, 1) := by decide +kernel
theorem dX7_fewestOf_0 : decode cX7_fewestOf 0 = .ok (.aload_n 0, 1) := by decide +kernel
theorem dX7_fewestOf_1 : decode cX7_fewestOf 1 = .ok (.iload_n 1, 1) := by decide +kernel
theorem dX7_fewestOf_2 : decode cX7_fewestOf 2 = .ok (.invokevirtual 84, 3) := by decide +kernel
theorem dX7_fewestOf_5 : decode cX7_fewestOf 5 = .ok (.istore_n 2, 1) := by decide +kernel
theorem dX7_fewestOf_6 : decode cX7_fewestOf 6 = .ok (.iload_n 2, 1) := by decide +kernel
theorem dX7_fewestOf_7 : decode cX7_fewestOf 7 = .ok (.istore_n 3, 1) := by decide +kernel
theorem dX7_fewestOf_8 : decode cX7_fewestOf 8 = .ok (.sipush 255, 3) := by decide +kernel
theorem dX7_fewestOf_11 : decode cX7_fewestOf 11 = .ok (.istore 4, 2) := by decide +kernel
theorem dX7_fewestOf_13 : decode cX7_fewestOf 13 = .ok (.iload 4, 2) := by decide +kernel
theorem dX7_fewestOf_15 : decode cX7_fewestOf 15 = .ok (.ifCond .lt 43, 3) := by decide +kernel
theorem dX7_fewestOf_18 : decode cX7_fewestOf 18 = .ok (.iload 4, 2) := by decide +kernel
theorem dX7_fewestOf_20 : decode cX7_fewestOf 20 = .ok (.iload_n 2, 1) := by decide +kernel
theorem dX7_fewestOf_21 : decode cX7_fewestOf 21 = .ok (.iconst (-1), 1) := by decide +kernel
theorem dX7_fewestOf_22 : decode cX7_fewestOf 22 = .ok (.ixor, 1) := by decide +kernel
theorem dX7_fewestOf_23 : decode cX7_fewestOf 23 = .ok (.iand, 1) := by decide +kernel
theorem dX7_fewestOf_24 : decode cX7_fewestOf 24 = .ok (.ifCond .ne 28, 3) := by decide +kernel
theorem dX7_fewestOf_27 : decode cX7_fewestOf 27 = .ok (.iload 4, 2) := by decide +kernel
theorem dX7_fewestOf_29 : decode cX7_fewestOf 29 = .ok (.invokestatic 90, 3) := by decide +kernel
theorem dX7_fewestOf_32 : decode cX7_fewestOf 32 = .ok (.iload_n 3, 1) := by decide +kernel
theorem dX7_fewestOf_33 : decode cX7_fewestOf 33 = .ok (.invokestatic 90, 3) := by decide +kernel
theorem dX7_fewestOf_36 : decode cX7_fewestOf 36 = .ok (.if_icmp .gt 16, 3) := by decide +kernel
theorem dX7_fewestOf_39 : decode cX7_fewestOf 39 = .ok (.aload_n 0, 1) := by decide +kernel
theorem dX7_fewestOf_40 : decode cX7_fewestOf 40 = .ok (.iload_n 1, 1) := by decide +kernel
theorem dX7_fewestOf_41 : decode cX7_fewestOf 41 = .ok (.iload 4, 2) := by decide +kernel
theorem dX7_fewestOf_43 : decode cX7_fewestOf 43 = .ok (.invokevirtual 87, 3) := by decide +kernel
theorem dX7_fewestOf_46 : decode cX7_fewestOf 46 = .ok (.ifCond .eq 6, 3) := by decide +kernel
theorem dX7_fewestOf_49 : decode cX7_fewestOf 49 = .ok (.iload 4, 2) := by decide +kernel
theorem dX7_fewestOf_51 : decode cX7_fewestOf 51 = .ok (.istore_n 3, 1) := by decide +kernel
theorem dX7_fewestOf_52 : decode cX7_fewestOf 52 = .ok (.iinc 4 (-1), 3) := by decide +kernel
theorem dX7_fewestOf_55 : decode cX7_fewestOf 55 = .ok (.goto (-42), 3) := by decide +kernel
theorem dX7_fewestOf_58 : decode cX7_fewestOf 58 = .ok (.iload_n 3, 1) := by decide +kernel
theorem dX7_fewestOf_59 : decode cX7_fewestOf 59 = .ok (.ireturn, 1) := by decide +kernel
theorem dX7_halvesOf_0 : decode cX7_halvesOf 0 = .ok (.aload_n 0, 1) := by decide +kernel
theorem dX7_halvesOf_1 : decode cX7_halvesOf 1 = .ok (.iload_n 1, 1) := by decide +kernel
theorem dX7_halvesOf_2 : decode cX7_halvesOf 2 = .ok (.invokevirtual 84, 3) := by decide +kernel
theorem dX7_halvesOf_5 : decode cX7_halvesOf 5 = .ok (.istore_n 2, 1) := by decide +kernel
theorem dX7_halvesOf_6 : decode cX7_halvesOf 6 = .ok (.iload_n 2, 1) := by decide +kernel
theorem dX7_halvesOf_7 : decode cX7_halvesOf 7 = .ok (.invokestatic 90, 3) := by decide +kernel
theorem dX7_halvesOf_10 : decode cX7_halvesOf 10 = .ok (.iconst 1, 1) := by decide +kernel
theorem dX7_halvesOf_11 : decode cX7_halvesOf 11 = .ok (.if_icmp .le 7, 3) := by decide +kernel
theorem dX7_halvesOf_14 : decode cX7_halvesOf 14 = .ok (.iconst 1, 1) := by decide +kernel
theorem dX7_halvesOf_15 : decode cX7_halvesOf 15 = .ok (.goto 4, 3) := by decide +kernel
theorem dX7_halvesOf_18 : decode cX7_halvesOf 18 = .ok (.iconst 0, 1) := by decide +kernel
theorem dX7_halvesOf_19 : decode cX7_halvesOf 19 = .ok (.istore_n 3, 1) := by decide +kernel
theorem dX7_halvesOf_20 : decode cX7_halvesOf 20 = .ok (.iload_n 3, 1) := by decide +kernel
theorem dX7_halvesOf_21 : decode cX7_halvesOf 21 = .ok (.ifCond .eq 150, 3) := by decide +kernel
theorem dX7_halvesOf_24 : decode cX7_halvesOf 24 = .ok (.iconst 0, 1) := by decide +kernel
theorem dX7_halvesOf_25 : decode cX7_halvesOf 25 = .ok (.istore 4, 2) := by decide +kernel
theorem dX7_halvesOf_27 : decode cX7_halvesOf 27 = .ok (.iload_n 2, 1) := by decide +kernel
theorem dX7_halvesOf_28 : decode cX7_halvesOf 28 = .ok (.invokestatic 90, 3) := by decide +kernel
theorem dX7_halvesOf_31 : decode cX7_halvesOf 31 = .ok (.iconst 2, 1) := by decide +kernel
theorem dX7_halvesOf_32 : decode cX7_halvesOf 32 = .ok (.idiv, 1) := by decide +kernel
theorem dX7_halvesOf_33 : decode cX7_halvesOf 33 = .ok (.istore 5, 2) := by decide +kernel
theorem dX7_halvesOf_35 : decode cX7_halvesOf 35 = .ok (.iconst 0, 1) := by decide +kernel
theorem dX7_halvesOf_36 : decode cX7_halvesOf 36 = .ok (.istore 6, 2) := by decide +kernel
theorem dX7_halvesOf_38 : decode cX7_halvesOf 38 = .ok (.iload 6, 2) := by decide +kernel
theorem dX7_halvesOf_40 : decode cX7_halvesOf 40 = .ok (.iload_n 1, 1) := by decide +kernel
theorem dX7_halvesOf_41 : decode cX7_halvesOf 41 = .ok (.if_icmp .ge 67, 3) := by decide +kernel
theorem dX7_halvesOf_44 : decode cX7_halvesOf 44 = .ok (.iload_n 2, 1) := by decide +kernel
theorem dX7_halvesOf_45 : decode cX7_halvesOf 45 = .ok (.aload_n 0, 1) := by decide +kernel
theorem dX7_halvesOf_46 : decode cX7_halvesOf 46 = .ok (.getfield 7, 3) := by decide +kernel
theorem dX7_halvesOf_49 : decode cX7_halvesOf 49 = .ok (.iconst 4, 1) := by decide +kernel
theorem dX7_halvesOf_50 : decode cX7_halvesOf 50 = .ok (.iload 6, 2) := by decide +kernel
theorem dX7_halvesOf_52 : decode cX7_halvesOf 52 = .ok (.iadd, 1) := by decide +kernel
theorem dX7_halvesOf_53 : decode cX7_halvesOf 53 = .ok (.iaload, 1) := by decide +kernel
theorem dX7_halvesOf_54 : decode cX7_halvesOf 54 = .ok (.invokestatic 77, 3) := by decide +kernel
theorem dX7_halvesOf_57 : decode cX7_halvesOf 57 = .ok (.ifCond .eq 17, 3) := by decide +kernel
theorem dX7_halvesOf_60 : decode cX7_halvesOf 60 = .ok (.iload 4, 2) := by decide +kernel
theorem dX7_halvesOf_62 : decode cX7_halvesOf 62 = .ok (.invokestatic 90, 3) := by decide +kernel
theorem dX7_halvesOf_65 : decode cX7_halvesOf 65 = .ok (.iload 5, 2) := by decide +kernel
theorem dX7_halvesOf_67 : decode cX7_halvesOf 67 = .ok (.if_icmp .ge 7, 3) := by decide +kernel
theorem dX7_halvesOf_70 : decode cX7_halvesOf 70 = .ok (.iconst 1, 1) := by decide +kernel
theorem dX7_halvesOf_71 : decode cX7_halvesOf 71 = .ok (.goto 4, 3) := by decide +kernel
theorem dX7_halvesOf_74 : decode cX7_halvesOf 74 = .ok (.iconst 0, 1) := by decide +kernel
theorem dX7_halvesOf_75 : decode cX7_halvesOf 75 = .ok (.istore 7, 2) := by decide +kernel
theorem dX7_halvesOf_77 : decode cX7_halvesOf 77 = .ok (.iload 4, 2) := by decide +kernel
theorem dX7_halvesOf_79 : decode cX7_halvesOf 79 = .ok (.iload 7, 2) := by decide +kernel
theorem dX7_halvesOf_81 : decode cX7_halvesOf 81 = .ok (.ifCond .eq 17, 3) := by decide +kernel
theorem dX7_halvesOf_84 : decode cX7_halvesOf 84 = .ok (.iconst 1, 1) := by decide +kernel
theorem dX7_halvesOf_85 : decode cX7_halvesOf 85 = .ok (.aload_n 0, 1) := by decide +kernel
theorem dX7_halvesOf_86 : decode cX7_halvesOf 86 = .ok (.getfield 7, 3) := by decide +kernel
theorem dX7_halvesOf_89 : decode cX7_halvesOf 89 = .ok (.iconst 4, 1) := by decide +kernel
theorem dX7_halvesOf_90 : decode cX7_halvesOf 90 = .ok (.iload 6, 2) := by decide +kernel
theorem dX7_halvesOf_92 : decode cX7_halvesOf 92 = .ok (.iadd, 1) := by decide +kernel
theorem dX7_halvesOf_93 : decode cX7_halvesOf 93 = .ok (.iaload, 1) := by decide +kernel
theorem dX7_halvesOf_94 : decode cX7_halvesOf 94 = .ok (.ishl, 1) := by decide +kernel
theorem dX7_halvesOf_95 : decode cX7_halvesOf 95 = .ok (.goto 4, 3) := by decide +kernel
theorem dX7_halvesOf_98 : decode cX7_halvesOf 98 = .ok (.iconst 0, 1) := by decide +kernel
theorem dX7_halvesOf_99 : decode cX7_halvesOf 99 = .ok (.ior, 1) := by decide +kernel
theorem dX7_halvesOf_100 : decode cX7_halvesOf 100 = .ok (.istore 4, 2) := by decide +kernel
theorem dX7_halvesOf_102 : decode cX7_halvesOf 102 = .ok (.iinc 6 1, 3) := by decide +kernel
theorem dX7_halvesOf_105 : decode cX7_halvesOf 105 = .ok (.goto (-67), 3) := by decide +kernel
theorem dX7_halvesOf_108 : decode cX7_halvesOf 108 = .ok (.iload_n 2, 1) := by decide +kernel
theorem dX7_halvesOf_109 : decode cX7_halvesOf 109 = .ok (.iload 4, 2) := by decide +kernel
theorem dX7_halvesOf_111 : decode cX7_halvesOf 111 = .ok (.iconst (-1), 1) := by decide +kernel
theorem dX7_halvesOf_112 : decode cX7_halvesOf 112 = .ok (.ixor, 1) := by decide +kernel
theorem dX7_halvesOf_113 : decode cX7_halvesOf 113 = .ok (.iand, 1) := by decide +kernel
theorem dX7_halvesOf_114 : decode cX7_halvesOf 114 = .ok (.istore 6, 2) := by decide +kernel
theorem dX7_halvesOf_116 : decode cX7_halvesOf 116 = .ok (.aload_n 0, 1) := by decide +kernel
theorem dX7_halvesOf_117 : decode cX7_halvesOf 117 = .ok (.iload_n 1, 1) := by decide +kernel
theorem dX7_halvesOf_118 : decode cX7_halvesOf 118 = .ok (.iload 4, 2) := by decide +kernel
theorem dX7_halvesOf_120 : decode cX7_halvesOf 120 = .ok (.invokevirtual 87, 3) := by decide +kernel
theorem dX7_halvesOf_123 : decode cX7_halvesOf 123 = .ok (.ifCond .eq 9, 3) := by decide +kernel
theorem dX7_halvesOf_126 : decode cX7_halvesOf 126 = .ok (.iload 4, 2) := by decide +kernel
theorem dX7_halvesOf_128 : decode cX7_halvesOf 128 = .ok (.istore_n 2, 1) := by decide +kernel
theorem dX7_halvesOf_129 : decode cX7_halvesOf 129 = .ok (.goto 21, 3) := by decide +kernel
theorem dX7_halvesOf_132 : decode cX7_halvesOf 132 = .ok (.aload_n 0, 1) := by decide +kernel
theorem dX7_halvesOf_133 : decode cX7_halvesOf 133 = .ok (.iload_n 1, 1) := by decide +kernel
theorem dX7_halvesOf_134 : decode cX7_halvesOf 134 = .ok (.iload 6, 2) := by decide +kernel
theorem dX7_halvesOf_136 : decode cX7_halvesOf 136 = .ok (.invokevirtual 87, 3) := by decide +kernel
theorem dX7_halvesOf_139 : decode cX7_halvesOf 139 = .ok (.ifCond .eq 9, 3) := by decide +kernel
theorem dX7_halvesOf_142 : decode cX7_halvesOf 142 = .ok (.iload 6, 2) := by decide +kernel
theorem dX7_halvesOf_144 : decode cX7_halvesOf 144 = .ok (.istore_n 2, 1) := by decide +kernel
theorem dX7_halvesOf_145 : decode cX7_halvesOf 145 = .ok (.goto 5, 3) := by decide +kernel
theorem dX7_halvesOf_148 : decode cX7_halvesOf 148 = .ok (.iconst 0, 1) := by decide +kernel
theorem dX7_halvesOf_149 : decode cX7_halvesOf 149 = .ok (.istore_n 3, 1) := by decide +kernel
theorem dX7_halvesOf_150 : decode cX7_halvesOf 150 = .ok (.iload_n 3, 1) := by decide +kernel
theorem dX7_halvesOf_151 : decode cX7_halvesOf 151 = .ok (.ifCond .eq 15, 3) := by decide +kernel
theorem dX7_halvesOf_154 : decode cX7_halvesOf 154 = .ok (.iload_n 2, 1) := by decide +kernel
theorem dX7_halvesOf_155 : decode cX7_halvesOf 155 = .ok (.invokestatic 90, 3) := by decide +kernel
theorem dX7_halvesOf_158 : decode cX7_halvesOf 158 = .ok (.iconst 1, 1) := by decide +kernel
theorem dX7_halvesOf_159 : decode cX7_halvesOf 159 = .ok (.if_icmp .le 7, 3) := by decide +kernel
theorem dX7_halvesOf_162 : decode cX7_halvesOf 162 = .ok (.iconst 1, 1) := by decide +kernel
theorem dX7_halvesOf_163 : decode cX7_halvesOf 163 = .ok (.goto 4, 3) := by decide +kernel
theorem dX7_halvesOf_166 : decode cX7_halvesOf 166 = .ok (.iconst 0, 1) := by decide +kernel
theorem dX7_halvesOf_167 : decode cX7_halvesOf 167 = .ok (.istore_n 3, 1) := by decide +kernel
theorem dX7_halvesOf_168 : decode cX7_halvesOf 168 = .ok (.goto (-148), 3) := by decide +kernel
theorem dX7_halvesOf_171 : decode cX7_halvesOf 171 = .ok (.iload_n 2, 1) := by decide +kernel
theorem dX7_halvesOf_172 : decode cX7_halvesOf 172 = .ok (.ireturn, 1) := by decide +kernel
theorem dX7_isFlippedInRow_0 : decode cX7_isFlippedInRow 0 = .ok (.aload_n 0, 1) := by decide +kernel
theorem dX7_isFlippedInRow_1 : decode cX7_isFlippedInRow 1 = .ok (.iload_n 1, 1) := by decide +kernel
theorem dX7_isFlippedInRow_2 : decode cX7_isFlippedInRow 2 = .ok (.invokevirtual 93, 3) := by decide +kernel
theorem dX7_isFlippedInRow_5 : decode cX7_isFlippedInRow 5 = .ok (.istore_n 2, 1) := by decide +kernel
theorem dX7_isFlippedInRow_6 : decode cX7_isFlippedInRow 6 = .ok (.iload_n 2, 1) := by decide +kernel
theorem dX7_isFlippedInRow_7 : decode cX7_isFlippedInRow 7 = .ok (.iconst (-1), 1) := by decide +kernel
theorem dX7_isFlippedInRow_8 : decode cX7_isFlippedInRow 8 = .ok (.if_icmp .eq 18, 3) := by decide +kernel
theorem dX7_isFlippedInRow_11 : decode cX7_isFlippedInRow 11 = .ok (.aload_n 0, 1) := by decide +kernel
theorem dX7_isFlippedInRow_12 : decode cX7_isFlippedInRow 12 = .ok (.iload_n 2, 1) := by decide +kernel
theorem dX7_isFlippedInRow_13 : decode cX7_isFlippedInRow 13 = .ok (.sipush 255, 3) := by decide +kernel
theorem dX7_isFlippedInRow_16 : decode cX7_isFlippedInRow 16 = .ok (.invokevirtual 87, 3) := by decide +kernel
theorem dX7_isFlippedInRow_19 : decode cX7_isFlippedInRow 19 = .ok (.ifCond .eq 7, 3) := by decide +kernel
theorem dX7_isFlippedInRow_22 : decode cX7_isFlippedInRow 22 = .ok (.iconst 1, 1) := by decide +kernel
theorem dX7_isFlippedInRow_23 : decode cX7_isFlippedInRow 23 = .ok (.goto 4, 3) := by decide +kernel
theorem dX7_isFlippedInRow_26 : decode cX7_isFlippedInRow 26 = .ok (.iconst 0, 1) := by decide +kernel
theorem dX7_isFlippedInRow_27 : decode cX7_isFlippedInRow 27 = .ok (.ireturn, 1) := by decide +kernel
theorem dX7_putTest_0 : decode cX7_putTest 0 = .ok (.iload_n 1, 1) := by decide +kernel
theorem dX7_putTest_1 : decode cX7_putTest 1 = .ok (.iconst 0, 1) := by decide +kernel
theorem dX7_putTest_2 : decode cX7_putTest 2 = .ok (.bipush 63, 2) := by decide +kernel
theorem dX7_putTest_4 : decode cX7_putTest 4 = .ok (.invokestatic 48, 3) := by decide +kernel
theorem dX7_putTest_7 : decode cX7_putTest 7 = .ok (.ifCond .eq 49, 3) := by decide +kernel
theorem dX7_putTest_10 : decode cX7_putTest 10 = .ok (.iload_n 2, 1) := by decide +kernel
theorem dX7_putTest_11 : decode cX7_putTest 11 = .ok (.iconst 0, 1) := by decide +kernel
theorem dX7_putTest_12 : decode cX7_putTest 12 = .ok (.bipush 63, 2) := by decide +kernel
theorem dX7_putTest_14 : decode cX7_putTest 14 = .ok (.invokestatic 48, 3) := by decide +kernel
theorem dX7_putTest_17 : decode cX7_putTest 17 = .ok (.ifCond .eq 39, 3) := by decide +kernel
theorem dX7_putTest_20 : decode cX7_putTest 20 = .ok (.iload_n 3, 1) := by decide +kernel
theorem dX7_putTest_21 : decode cX7_putTest 21 = .ok (.iconst 0, 1) := by decide +kernel
theorem dX7_putTest_22 : decode cX7_putTest 22 = .ok (.bipush 63, 2) := by decide +kernel
theorem dX7_putTest_24 : decode cX7_putTest 24 = .ok (.invokestatic 48, 3) := by decide +kernel
theorem dX7_putTest_27 : decode cX7_putTest 27 = .ok (.ifCond .eq 29, 3) := by decide +kernel
theorem dX7_putTest_30 : decode cX7_putTest 30 = .ok (.iload 4, 2) := by decide +kernel
theorem dX7_putTest_32 : decode cX7_putTest 32 = .ok (.iconst 0, 1) := by decide +kernel
theorem dX7_putTest_33 : decode cX7_putTest 33 = .ok (.bipush 63, 2) := by decide +kernel
theorem dX7_putTest_35 : decode cX7_putTest 35 = .ok (.invokestatic 48, 3) := by decide +kernel
theorem dX7_putTest_38 : decode cX7_putTest 38 = .ok (.ifCond .eq 18, 3) := by decide +kernel
theorem dX7_putTest_41 : decode cX7_putTest 41 = .ok (.iload 5, 2) := by decide +kernel
theorem dX7_putTest_43 : decode cX7_putTest 43 = .ok (.iconst 0, 1) := by decide +kernel
theorem dX7_putTest_44 : decode cX7_putTest 44 = .ok (.bipush 63, 2) := by decide +kernel
theorem dX7_putTest_46 : decode cX7_putTest 46 = .ok (.invokestatic 48, 3) := by decide +kernel
theorem dX7_putTest_49 : decode cX7_putTest 49 = .ok (.ifCond .eq 7, 3) := by decide +kernel
theorem dX7_putTest_52 : decode cX7_putTest 52 = .ok (.iconst 1, 1) := by decide +kernel
theorem dX7_putTest_53 : decode cX7_putTest 53 = .ok (.goto 4, 3) := by decide +kernel
theorem dX7_putTest_56 : decode cX7_putTest 56 = .ok (.iconst 0, 1) := by decide +kernel
theorem dX7_putTest_57 : decode cX7_putTest 57 = .ok (.istore 6, 2) := by decide +kernel
theorem dX7_putTest_59 : decode cX7_putTest 59 = .ok (.iload 6, 2) := by decide +kernel
theorem dX7_putTest_61 : decode cX7_putTest 61 = .ok (.ifCond .eq 31, 3) := by decide +kernel
theorem dX7_putTest_64 : decode cX7_putTest 64 = .ok (.iload_n 1, 1) := by decide +kernel
theorem dX7_putTest_65 : decode cX7_putTest 65 = .ok (.iload_n 2, 1) := by decide +kernel
theorem dX7_putTest_66 : decode cX7_putTest 66 = .ok (.iand, 1) := by decide +kernel
theorem dX7_putTest_67 : decode cX7_putTest 67 = .ok (.ifCond .ne 25, 3) := by decide +kernel
theorem dX7_putTest_70 : decode cX7_putTest 70 = .ok (.iload_n 3, 1) := by decide +kernel
theorem dX7_putTest_71 : decode cX7_putTest 71 = .ok (.iload 4, 2) := by decide +kernel
theorem dX7_putTest_73 : decode cX7_putTest 73 = .ok (.iand, 1) := by decide +kernel
theorem dX7_putTest_74 : decode cX7_putTest 74 = .ok (.ifCond .ne 18, 3) := by decide +kernel
theorem dX7_putTest_77 : decode cX7_putTest 77 = .ok (.iload_n 3, 1) := by decide +kernel
theorem dX7_putTest_78 : decode cX7_putTest 78 = .ok (.iload 5, 2) := by decide +kernel
theorem dX7_putTest_80 : decode cX7_putTest 80 = .ok (.iand, 1) := by decide +kernel
theorem dX7_putTest_81 : decode cX7_putTest 81 = .ok (.ifCond .ne 11, 3) := by decide +kernel
theorem dX7_putTest_84 : decode cX7_putTest 84 = .ok (.iload 4, 2) := by decide +kernel
theorem dX7_putTest_86 : decode cX7_putTest 86 = .ok (.iload 5, 2) := by decide +kernel
theorem dX7_putTest_88 : decode cX7_putTest 88 = .ok (.iand, 1) := by decide +kernel
theorem dX7_putTest_89 : decode cX7_putTest 89 = .ok (.ifCond .eq 6, 3) := by decide +kernel
theorem dX7_putTest_92 : decode cX7_putTest 92 = .ok (.bipush (-2), 2) := by decide +kernel
theorem dX7_putTest_94 : decode cX7_putTest 94 = .ok (.ireturn, 1) := by decide +kernel
theorem dX7_putTest_95 : decode cX7_putTest 95 = .ok (.aload_n 0, 1) := by decide +kernel
theorem dX7_putTest_96 : decode cX7_putTest 96 = .ok (.getfield 7, 3) := by decide +kernel
theorem dX7_putTest_99 : decode cX7_putTest 99 = .ok (.iconst 0, 1) := by decide +kernel
theorem dX7_putTest_100 : decode cX7_putTest 100 = .ok (.iaload, 1) := by decide +kernel
theorem dX7_putTest_101 : decode cX7_putTest 101 = .ok (.bipush 8, 2) := by decide +kernel
theorem dX7_putTest_103 : decode cX7_putTest 103 = .ok (.if_icmp .ne 6, 3) := by decide +kernel
theorem dX7_putTest_106 : decode cX7_putTest 106 = .ok (.bipush (-4), 2) := by decide +kernel
theorem dX7_putTest_108 : decode cX7_putTest 108 = .ok (.ireturn, 1) := by decide +kernel
theorem dX7_putTest_109 : decode cX7_putTest 109 = .ok (.bipush 12, 2) := by decide +kernel
theorem dX7_putTest_111 : decode cX7_putTest 111 = .ok (.iconst 5, 1) := by decide +kernel
theorem dX7_putTest_112 : decode cX7_putTest 112 = .ok (.aload_n 0, 1) := by decide +kernel
theorem dX7_putTest_113 : decode cX7_putTest 113 = .ok (.getfield 7, 3) := by decide +kernel
theorem dX7_putTest_116 : decode cX7_putTest 116 = .ok (.iconst 0, 1) := by decide +kernel
theorem dX7_putTest_117 : decode cX7_putTest 117 = .ok (.iaload, 1) := by decide +kernel
theorem dX7_putTest_118 : decode cX7_putTest 118 = .ok (.imul, 1) := by decide +kernel
theorem dX7_putTest_119 : decode cX7_putTest 119 = .ok (.iadd, 1) := by decide +kernel
theorem dX7_putTest_120 : decode cX7_putTest 120 = .ok (.istore 7, 2) := by decide +kernel
theorem dX7_putTest_122 : decode cX7_putTest 122 = .ok (.aload_n 0, 1) := by decide +kernel
theorem dX7_putTest_123 : decode cX7_putTest 123 = .ok (.getfield 7, 3) := by decide +kernel
theorem dX7_putTest_126 : decode cX7_putTest 126 = .ok (.iload 7, 2) := by decide +kernel
theorem dX7_putTest_128 : decode cX7_putTest 128 = .ok (.iload_n 1, 1) := by decide +kernel
theorem dX7_putTest_129 : decode cX7_putTest 129 = .ok (.iastore, 1) := by decide +kernel
theorem dX7_putTest_130 : decode cX7_putTest 130 = .ok (.aload_n 0, 1) := by decide +kernel
theorem dX7_putTest_131 : decode cX7_putTest 131 = .ok (.getfield 7, 3) := by decide +kernel
theorem dX7_putTest_134 : decode cX7_putTest 134 = .ok (.iload 7, 2) := by decide +kernel
theorem dX7_putTest_136 : decode cX7_putTest 136 = .ok (.iconst 1, 1) := by decide +kernel
theorem dX7_putTest_137 : decode cX7_putTest 137 = .ok (.iadd, 1) := by decide +kernel
theorem dX7_putTest_138 : decode cX7_putTest 138 = .ok (.iload_n 2, 1) := by decide +kernel
theorem dX7_putTest_139 : decode cX7_putTest 139 = .ok (.iastore, 1) := by decide +kernel
theorem dX7_putTest_140 : decode cX7_putTest 140 = .ok (.aload_n 0, 1) := by decide +kernel
theorem dX7_putTest_141 : decode cX7_putTest 141 = .ok (.getfield 7, 3) := by decide +kernel
theorem dX7_putTest_144 : decode cX7_putTest 144 = .ok (.iload 7, 2) := by decide +kernel
theorem dX7_putTest_146 : decode cX7_putTest 146 = .ok (.iconst 2, 1) := by decide +kernel
theorem dX7_putTest_147 : decode cX7_putTest 147 = .ok (.iadd, 1) := by decide +kernel
theorem dX7_putTest_148 : decode cX7_putTest 148 = .ok (.iload_n 3, 1) := by decide +kernel
theorem dX7_putTest_149 : decode cX7_putTest 149 = .ok (.iastore, 1) := by decide +kernel
theorem dX7_putTest_150 : decode cX7_putTest 150 = .ok (.aload_n 0, 1) := by decide +kernel
theorem dX7_putTest_151 : decode cX7_putTest 151 = .ok (.getfield 7, 3) := by decide +kernel
theorem dX7_putTest_154 : decode cX7_putTest 154 = .ok (.iload 7, 2) := by decide +kernel
theorem dX7_putTest_156 : decode cX7_putTest 156 = .ok (.iconst 3, 1) := by decide +kernel
theorem dX7_putTest_157 : decode cX7_putTest 157 = .ok (.iadd, 1) := by decide +kernel
theorem dX7_putTest_158 : decode cX7_putTest 158 = .ok (.iload 4, 2) := by decide +kernel
theorem dX7_putTest_160 : decode cX7_putTest 160 = .ok (.iastore, 1) := by decide +kernel
theorem dX7_putTest_161 : decode cX7_putTest 161 = .ok (.aload_n 0, 1) := by decide +kernel
theorem dX7_putTest_162 : decode cX7_putTest 162 = .ok (.getfield 7, 3) := by decide +kernel
theorem dX7_putTest_165 : decode cX7_putTest 165 = .ok (.iload 7, 2) := by decide +kernel
theorem dX7_putTest_167 : decode cX7_putTest 167 = .ok (.iconst 4, 1) := by decide +kernel
theorem dX7_putTest_168 : decode cX7_putTest 168 = .ok (.iadd, 1) := by decide +kernel
theorem dX7_putTest_169 : decode cX7_putTest 169 = .ok (.iload 5, 2) := by decide +kernel
theorem dX7_putTest_171 : decode cX7_putTest 171 = .ok (.iastore, 1) := by decide +kernel
theorem dX7_putTest_172 : decode cX7_putTest 172 = .ok (.aload_n 0, 1) := by decide +kernel
theorem dX7_putTest_173 : decode cX7_putTest 173 = .ok (.getfield 7, 3) := by decide +kernel
theorem dX7_putTest_176 : decode cX7_putTest 176 = .ok (.iconst 0, 1) := by decide +kernel
theorem dX7_putTest_177 : decode cX7_putTest 177 = .ok (.dup2, 1) := by decide +kernel
theorem dX7_putTest_178 : decode cX7_putTest 178 = .ok (.iaload, 1) := by decide +kernel
theorem dX7_putTest_179 : decode cX7_putTest 179 = .ok (.iconst 1, 1) := by decide +kernel
theorem dX7_putTest_180 : decode cX7_putTest 180 = .ok (.iadd, 1) := by decide +kernel
theorem dX7_putTest_181 : decode cX7_putTest 181 = .ok (.iastore, 1) := by decide +kernel
theorem dX7_putTest_182 : decode cX7_putTest 182 = .ok (.aload_n 0, 1) := by decide +kernel
theorem dX7_putTest_183 : decode cX7_putTest 183 = .ok (.getfield 7, 3) := by decide +kernel
theorem dX7_putTest_186 : decode cX7_putTest 186 = .ok (.iconst 0, 1) := by decide +kernel
theorem dX7_putTest_187 : decode cX7_putTest 187 = .ok (.iaload, 1) := by decide +kernel
theorem dX7_putTest_188 : decode cX7_putTest 188 = .ok (.iconst 1, 1) := by decide +kernel
theorem dX7_putTest_189 : decode cX7_putTest 189 = .ok (.isub, 1) := by decide +kernel
theorem dX7_putTest_190 : decode cX7_putTest 190 = .ok (.ireturn, 1) := by decide +kernel
theorem dX7_takesOut_0 : decode cX7_takesOut 0 = .ok (.aload_n 0, 1) := by decide +kernel
theorem dX7_takesOut_1 : decode cX7_takesOut 1 = .ok (.getfield 7, 3) := by decide +kernel
theorem dX7_takesOut_4 : decode cX7_takesOut 4 = .ok (.iconst 3, 1) := by decide +kernel
theorem dX7_takesOut_5 : decode cX7_takesOut 5 = .ok (.dup2, 1) := by decide +kernel
theorem dX7_takesOut_6 : decode cX7_takesOut 6 = .ok (.iaload, 1) := by decide +kernel
theorem dX7_takesOut_7 : decode cX7_takesOut 7 = .ok (.iconst 1, 1) := by decide +kernel
theorem dX7_takesOut_8 : decode cX7_takesOut 8 = .ok (.isub, 1) := by decide +kernel
theorem dX7_takesOut_9 : decode cX7_takesOut 9 = .ok (.iastore, 1) := by decide +kernel
theorem dX7_takesOut_10 : decode cX7_takesOut 10 = .ok (.iload_n 1, 1) := by decide +kernel
theorem dX7_takesOut_11 : decode cX7_takesOut 11 = .ok (.istore_n 2, 1) := by decide +kernel
theorem dX7_takesOut_12 : decode cX7_takesOut 12 = .ok (.iload_n 2, 1) := by decide +kernel
theorem dX7_takesOut_13 : decode cX7_takesOut 13 = .ok (.aload_n 0, 1) := by decide +kernel
theorem dX7_takesOut_14 : decode cX7_takesOut 14 = .ok (.getfield 7, 3) := by decide +kernel
theorem dX7_takesOut_17 : decode cX7_takesOut 17 = .ok (.iconst 3, 1) := by decide +kernel
theorem dX7_takesOut_18 : decode cX7_takesOut 18 = .ok (.iaload, 1) := by decide +kernel
theorem dX7_takesOut_19 : decode cX7_takesOut 19 = .ok (.if_icmp .ge 27, 3) := by decide +kernel
theorem dX7_takesOut_22 : decode cX7_takesOut 22 = .ok (.aload_n 0, 1) := by decide +kernel
theorem dX7_takesOut_23 : decode cX7_takesOut 23 = .ok (.getfield 7, 3) := by decide +kernel
theorem dX7_takesOut_26 : decode cX7_takesOut 26 = .ok (.iconst 4, 1) := by decide +kernel
theorem dX7_takesOut_27 : decode cX7_takesOut 27 = .ok (.iload_n 2, 1) := by decide +kernel
theorem dX7_takesOut_28 : decode cX7_takesOut 28 = .ok (.iadd, 1) := by decide +kernel
theorem dX7_takesOut_29 : decode cX7_takesOut 29 = .ok (.aload_n 0, 1) := by decide +kernel
theorem dX7_takesOut_30 : decode cX7_takesOut 30 = .ok (.getfield 7, 3) := by decide +kernel
theorem dX7_takesOut_33 : decode cX7_takesOut 33 = .ok (.iconst 4, 1) := by decide +kernel
theorem dX7_takesOut_34 : decode cX7_takesOut 34 = .ok (.iload_n 2, 1) := by decide +kernel
theorem dX7_takesOut_35 : decode cX7_takesOut 35 = .ok (.iadd, 1) := by decide +kernel
theorem dX7_takesOut_36 : decode cX7_takesOut 36 = .ok (.iconst 1, 1) := by decide +kernel
theorem dX7_takesOut_37 : decode cX7_takesOut 37 = .ok (.iadd, 1) := by decide +kernel
theorem dX7_takesOut_38 : decode cX7_takesOut 38 = .ok (.iaload, 1) := by decide +kernel
theorem dX7_takesOut_39 : decode cX7_takesOut 39 = .ok (.iastore, 1) := by decide +kernel
theorem dX7_takesOut_40 : decode cX7_takesOut 40 = .ok (.iinc 2 1, 3) := by decide +kernel
theorem dX7_takesOut_43 : decode cX7_takesOut 43 = .ok (.goto (-31), 3) := by decide +kernel
theorem dX7_takesOut_46 : decode cX7_takesOut 46 = .ok (.aload_n 0, 1) := by decide +kernel
theorem dX7_takesOut_47 : decode cX7_takesOut 47 = .ok (.getfield 7, 3) := by decide +kernel
theorem dX7_takesOut_50 : decode cX7_takesOut 50 = .ok (.iconst 4, 1) := by decide +kernel
theorem dX7_takesOut_51 : decode cX7_takesOut 51 = .ok (.aload_n 0, 1) := by decide +kernel
theorem dX7_takesOut_52 : decode cX7_takesOut 52 = .ok (.getfield 7, 3) := by decide +kernel
theorem dX7_takesOut_55 : decode cX7_takesOut 55 = .ok (.iconst 3, 1) := by decide +kernel
theorem dX7_takesOut_56 : decode cX7_takesOut 56 = .ok (.iaload, 1) := by decide +kernel
theorem dX7_takesOut_57 : decode cX7_takesOut 57 = .ok (.iadd, 1) := by decide +kernel
theorem dX7_takesOut_58 : decode cX7_takesOut 58 = .ok (.iconst 0, 1) := by decide +kernel
theorem dX7_takesOut_59 : decode cX7_takesOut 59 = .ok (.iastore, 1) := by decide +kernel
theorem dX7_takesOut_60 : decode cX7_takesOut 60 = .ok (.return_, 1) := by decide +kernel
theorem dX7_putCut_0 : decode cX7_putCut 0 = .ok (.aload_n 0, 1) := by decide +kernel
theorem dX7_putCut_1 : decode cX7_putCut 1 = .ok (.getfield 7, 3) := by decide +kernel
theorem dX7_putCut_4 : decode cX7_putCut 4 = .ok (.iconst 0, 1) := by decide +kernel
theorem dX7_putCut_5 : decode cX7_putCut 5 = .ok (.iaload, 1) := by decide +kernel
theorem dX7_putCut_6 : decode cX7_putCut 6 = .ok (.ifCond .ne 6, 3) := by decide +kernel
theorem dX7_putCut_9 : decode cX7_putCut 9 = .ok (.bipush (-3), 2) := by decide +kernel
theorem dX7_putCut_11 : decode cX7_putCut 11 = .ok (.ireturn, 1) := by decide +kernel
theorem dX7_putCut_12 : decode cX7_putCut 12 = .ok (.aload_n 0, 1) := by decide +kernel
theorem dX7_putCut_13 : decode cX7_putCut 13 = .ok (.getfield 7, 3) := by decide +kernel
theorem dX7_putCut_16 : decode cX7_putCut 16 = .ok (.iconst 0, 1) := by decide +kernel
theorem dX7_putCut_17 : decode cX7_putCut 17 = .ok (.dup2, 1) := by decide +kernel
theorem dX7_putCut_18 : decode cX7_putCut 18 = .ok (.iaload, 1) := by decide +kernel
theorem dX7_putCut_19 : decode cX7_putCut 19 = .ok (.iconst 1, 1) := by decide +kernel
theorem dX7_putCut_20 : decode cX7_putCut 20 = .ok (.isub, 1) := by decide +kernel
theorem dX7_putCut_21 : decode cX7_putCut 21 = .ok (.iastore, 1) := by decide +kernel
theorem dX7_putCut_22 : decode cX7_putCut 22 = .ok (.aload_n 0, 1) := by decide +kernel
theorem dX7_putCut_23 : decode cX7_putCut 23 = .ok (.aload_n 0, 1) := by decide +kernel
theorem dX7_putCut_24 : decode cX7_putCut 24 = .ok (.getfield 7, 3) := by decide +kernel
theorem dX7_putCut_27 : decode cX7_putCut 27 = .ok (.iconst 0, 1) := by decide +kernel
theorem dX7_putCut_28 : decode cX7_putCut 28 = .ok (.iaload, 1) := by decide +kernel
theorem dX7_putCut_29 : decode cX7_putCut 29 = .ok (.invokevirtual 93, 3) := by decide +kernel
theorem dX7_putCut_32 : decode cX7_putCut 32 = .ok (.istore_n 1, 1) := by decide +kernel
theorem dX7_putCut_33 : decode cX7_putCut 33 = .ok (.iload_n 1, 1) := by decide +kernel
theorem dX7_putCut_34 : decode cX7_putCut 34 = .ok (.iconst (-1), 1) := by decide +kernel
theorem dX7_putCut_35 : decode cX7_putCut 35 = .ok (.if_icmp .eq 8, 3) := by decide +kernel
theorem dX7_putCut_38 : decode cX7_putCut 38 = .ok (.aload_n 0, 1) := by decide +kernel
theorem dX7_putCut_39 : decode cX7_putCut 39 = .ok (.iload_n 1, 1) := by decide +kernel
theorem dX7_putCut_40 : decode cX7_putCut 40 = .ok (.invokevirtual 96, 3) := by decide +kernel
theorem dX7_putCut_43 : decode cX7_putCut 43 = .ok (.aload_n 0, 1) := by decide +kernel
theorem dX7_putCut_44 : decode cX7_putCut 44 = .ok (.getfield 7, 3) := by decide +kernel
theorem dX7_putCut_47 : decode cX7_putCut 47 = .ok (.iconst 0, 1) := by decide +kernel
theorem dX7_putCut_48 : decode cX7_putCut 48 = .ok (.iaload, 1) := by decide +kernel
theorem dX7_putCut_49 : decode cX7_putCut 49 = .ok (.ireturn, 1) := by decide +kernel
theorem dX7_putLaid_0 : decode cX7_putLaid 0 = .ok (.aload_n 0, 1) := by decide +kernel
theorem dX7_putLaid_1 : decode cX7_putLaid 1 = .ok (.iload_n 1, 1) := by decide +kernel
theorem dX7_putLaid_2 : decode cX7_putLaid 2 = .ok (.invokevirtual 100, 3) := by decide +kernel
theorem dX7_putLaid_5 : decode cX7_putLaid 5 = .ok (.ifCond .ne 6, 3) := by decide +kernel
theorem dX7_putLaid_8 : decode cX7_putLaid 8 = .ok (.bipush (-2), 2) := by decide +kernel
theorem dX7_putLaid_10 : decode cX7_putLaid 10 = .ok (.ireturn, 1) := by decide +kernel
theorem dX7_putLaid_11 : decode cX7_putLaid 11 = .ok (.aload_n 0, 1) := by decide +kernel
theorem dX7_putLaid_12 : decode cX7_putLaid 12 = .ok (.iload_n 1, 1) := by decide +kernel
theorem dX7_putLaid_13 : decode cX7_putLaid 13 = .ok (.invokevirtual 93, 3) := by decide +kernel
theorem dX7_putLaid_16 : decode cX7_putLaid 16 = .ok (.iconst (-1), 1) := by decide +kernel
theorem dX7_putLaid_17 : decode cX7_putLaid 17 = .ok (.if_icmp .eq 6, 3) := by decide +kernel
theorem dX7_putLaid_20 : decode cX7_putLaid 20 = .ok (.bipush (-3), 2) := by decide +kernel
theorem dX7_putLaid_22 : decode cX7_putLaid 22 = .ok (.ireturn, 1) := by decide +kernel
theorem dX7_putLaid_23 : decode cX7_putLaid 23 = .ok (.aload_n 0, 1) := by decide +kernel
theorem dX7_putLaid_24 : decode cX7_putLaid 24 = .ok (.getfield 7, 3) := by decide +kernel
theorem dX7_putLaid_27 : decode cX7_putLaid 27 = .ok (.iconst 4, 1) := by decide +kernel
theorem dX7_putLaid_28 : decode cX7_putLaid 28 = .ok (.aload_n 0, 1) := by decide +kernel
theorem dX7_putLaid_29 : decode cX7_putLaid 29 = .ok (.getfield 7, 3) := by decide +kernel
theorem dX7_putLaid_32 : decode cX7_putLaid 32 = .ok (.iconst 3, 1) := by decide +kernel
theorem dX7_putLaid_33 : decode cX7_putLaid 33 = .ok (.iaload, 1) := by decide +kernel
theorem dX7_putLaid_34 : decode cX7_putLaid 34 = .ok (.iadd, 1) := by decide +kernel
theorem dX7_putLaid_35 : decode cX7_putLaid 35 = .ok (.iload_n 1, 1) := by decide +kernel
theorem dX7_putLaid_36 : decode cX7_putLaid 36 = .ok (.iastore, 1) := by decide +kernel
theorem dX7_putLaid_37 : decode cX7_putLaid 37 = .ok (.aload_n 0, 1) := by decide +kernel
theorem dX7_putLaid_38 : decode cX7_putLaid 38 = .ok (.getfield 7, 3) := by decide +kernel
theorem dX7_putLaid_41 : decode cX7_putLaid 41 = .ok (.iconst 3, 1) := by decide +kernel
theorem dX7_putLaid_42 : decode cX7_putLaid 42 = .ok (.dup2, 1) := by decide +kernel
theorem dX7_putLaid_43 : decode cX7_putLaid 43 = .ok (.iaload, 1) := by decide +kernel
theorem dX7_putLaid_44 : decode cX7_putLaid 44 = .ok (.iconst 1, 1) := by decide +kernel
theorem dX7_putLaid_45 : decode cX7_putLaid 45 = .ok (.iadd, 1) := by decide +kernel
theorem dX7_putLaid_46 : decode cX7_putLaid 46 = .ok (.iastore, 1) := by decide +kernel
theorem dX7_putLaid_47 : decode cX7_putLaid 47 = .ok (.aload_n 0, 1) := by decide +kernel
theorem dX7_putLaid_48 : decode cX7_putLaid 48 = .ok (.getfield 7, 3) := by decide +kernel
theorem dX7_putLaid_51 : decode cX7_putLaid 51 = .ok (.iconst 3, 1) := by decide +kernel
theorem dX7_putLaid_52 : decode cX7_putLaid 52 = .ok (.iaload, 1) := by decide +kernel
theorem dX7_putLaid_53 : decode cX7_putLaid 53 = .ok (.ireturn, 1) := by decide +kernel
theorem dX7_putWiped_0 : decode cX7_putWiped 0 = .ok (.aload_n 0, 1) := by decide +kernel
theorem dX7_putWiped_1 : decode cX7_putWiped 1 = .ok (.getfield 7, 3) := by decide +kernel
theorem dX7_putWiped_4 : decode cX7_putWiped 4 = .ok (.iconst 3, 1) := by decide +kernel
theorem dX7_putWiped_5 : decode cX7_putWiped 5 = .ok (.iaload, 1) := by decide +kernel
theorem dX7_putWiped_6 : decode cX7_putWiped 6 = .ok (.istore_n 1, 1) := by decide +kernel
theorem dX7_putWiped_7 : decode cX7_putWiped 7 = .ok (.aload_n 0, 1) := by decide +kernel
theorem dX7_putWiped_8 : decode cX7_putWiped 8 = .ok (.getfield 7, 3) := by decide +kernel
theorem dX7_putWiped_11 : decode cX7_putWiped 11 = .ok (.iconst 3, 1) := by decide +kernel
theorem dX7_putWiped_12 : decode cX7_putWiped 12 = .ok (.iconst 0, 1) := by decide +kernel
theorem dX7_putWiped_13 : decode cX7_putWiped 13 = .ok (.iastore, 1) := by decide +kernel
theorem dX7_putWiped_14 : decode cX7_putWiped 14 = .ok (.iload_n 1, 1) := by decide +kernel
theorem dX7_putWiped_15 : decode cX7_putWiped 15 = .ok (.ireturn, 1) := by decide +kernel
theorem dX7_change_0 : decode cX7_change 0 = .ok (.iload_n 2, 1) := by decide +kernel
theorem dX7_change_1 : decode cX7_change 1 = .ok (.iconst 0, 1) := by decide +kernel
theorem dX7_change_2 : decode cX7_change 2 = .ok (.iload_n 3, 1) := by decide +kernel
theorem dX7_change_3 : decode cX7_change 3 = .ok (.invokestatic 48, 3) := by decide +kernel
theorem dX7_change_6 : decode cX7_change 6 = .ok (.ifCond .ne 6, 3) := by decide +kernel
theorem dX7_change_9 : decode cX7_change 9 = .ok (.bipush (-2), 2) := by decide +kernel
theorem dX7_change_11 : decode cX7_change 11 = .ok (.ireturn, 1) := by decide +kernel
theorem dX7_change_12 : decode cX7_change 12 = .ok (.aload_n 0, 1) := by decide +kernel
theorem dX7_change_13 : decode cX7_change 13 = .ok (.getfield 7, 3) := by decide +kernel
theorem dX7_change_16 : decode cX7_change 16 = .ok (.iload_n 1, 1) := by decide +kernel
theorem dX7_change_17 : decode cX7_change 17 = .ok (.iaload, 1) := by decide +kernel
theorem dX7_change_18 : decode cX7_change 18 = .ok (.istore 4, 2) := by decide +kernel
theorem dX7_change_20 : decode cX7_change 20 = .ok (.aload_n 0, 1) := by decide +kernel
theorem dX7_change_21 : decode cX7_change 21 = .ok (.getfield 7, 3) := by decide +kernel
theorem dX7_change_24 : decode cX7_change 24 = .ok (.iload_n 1, 1) := by decide +kernel
theorem dX7_change_25 : decode cX7_change 25 = .ok (.iload_n 2, 1) := by decide +kernel
theorem dX7_change_26 : decode cX7_change 26 = .ok (.iastore, 1) := by decide +kernel
theorem dX7_change_27 : decode cX7_change 27 = .ok (.iload 4, 2) := by decide +kernel
theorem dX7_change_29 : decode cX7_change 29 = .ok (.ireturn, 1) := by decide +kernel
theorem dX7_laysShuffled_0 : decode cX7_laysShuffled 0 = .ok (.iconst 0, 1) := by decide +kernel
theorem dX7_laysShuffled_1 : decode cX7_laysShuffled 1 = .ok (.istore_n 2, 1) := by decide +kernel
theorem dX7_laysShuffled_2 : decode cX7_laysShuffled 2 = .ok (.iload_n 2, 1) := by decide +kernel
theorem dX7_laysShuffled_3 : decode cX7_laysShuffled 3 = .ok (.aload_n 0, 1) := by decide +kernel
theorem dX7_laysShuffled_4 : decode cX7_laysShuffled 4 = .ok (.getfield 7, 3) := by decide +kernel
theorem dX7_laysShuffled_7 : decode cX7_laysShuffled 7 = .ok (.iconst 0, 1) := by decide +kernel
theorem dX7_laysShuffled_8 : decode cX7_laysShuffled 8 = .ok (.iaload, 1) := by decide +kernel
theorem dX7_laysShuffled_9 : decode cX7_laysShuffled 9 = .ok (.if_icmp .ge 16, 3) := by decide +kernel
theorem dX7_laysShuffled_12 : decode cX7_laysShuffled 12 = .ok (.aload_n 0, 1) := by decide +kernel
theorem dX7_laysShuffled_13 : decode cX7_laysShuffled 13 = .ok (.getfield 28, 3) := by decide +kernel
theorem dX7_laysShuffled_16 : decode cX7_laysShuffled 16 = .ok (.iload_n 2, 1) := by decide +kernel
theorem dX7_laysShuffled_17 : decode cX7_laysShuffled 17 = .ok (.iload_n 2, 1) := by decide +kernel
theorem dX7_laysShuffled_18 : decode cX7_laysShuffled 18 = .ok (.iastore, 1) := by decide +kernel
theorem dX7_laysShuffled_19 : decode cX7_laysShuffled 19 = .ok (.iinc 2 1, 3) := by decide +kernel
theorem dX7_laysShuffled_22 : decode cX7_laysShuffled 22 = .ok (.goto (-20), 3) := by decide +kernel
theorem dX7_laysShuffled_25 : decode cX7_laysShuffled 25 = .ok (.iload_n 1, 1) := by decide +kernel
theorem dX7_laysShuffled_26 : decode cX7_laysShuffled 26 = .ok (.i2l, 1) := by decide +kernel
theorem dX7_laysShuffled_27 : decode cX7_laysShuffled 27 = .ok (.lstore_n 2, 1) := by decide +kernel
theorem dX7_laysShuffled_28 : decode cX7_laysShuffled 28 = .ok (.aload_n 0, 1) := by decide +kernel
theorem dX7_laysShuffled_29 : decode cX7_laysShuffled 29 = .ok (.getfield 7, 3) := by decide +kernel
theorem dX7_laysShuffled_32 : decode cX7_laysShuffled 32 = .ok (.iconst 0, 1) := by decide +kernel
theorem dX7_laysShuffled_33 : decode cX7_laysShuffled 33 = .ok (.iaload, 1) := by decide +kernel
theorem dX7_laysShuffled_34 : decode cX7_laysShuffled 34 = .ok (.iconst 1, 1) := by decide +kernel
theorem dX7_laysShuffled_35 : decode cX7_laysShuffled 35 = .ok (.isub, 1) := by decide +kernel
theorem dX7_laysShuffled_36 : decode cX7_laysShuffled 36 = .ok (.istore 4, 2) := by decide +kernel
theorem dX7_laysShuffled_38 : decode cX7_laysShuffled 38 = .ok (.iload 4, 2) := by decide +kernel
theorem dX7_laysShuffled_40 : decode cX7_laysShuffled 40 = .ok (.ifCond .le 69, 3) := by decide +kernel
theorem dX7_laysShuffled_43 : decode cX7_laysShuffled 43 = .ok (.lload_n 2, 1) := by decide +kernel
theorem dX7_laysShuffled_44 : decode cX7_laysShuffled 44 = .ok (.ldc2_w 103, 3) := by decide +kernel
theorem dX7_laysShuffled_47 : decode cX7_laysShuffled 47 = .ok (.lmul, 1) := by decide +kernel
theorem dX7_laysShuffled_48 : decode cX7_laysShuffled 48 = .ok (.ldc2_w 105, 3) := by decide +kernel
theorem dX7_laysShuffled_51 : decode cX7_laysShuffled 51 = .ok (.ladd, 1) := by decide +kernel
theorem dX7_laysShuffled_52 : decode cX7_laysShuffled 52 = .ok (.ldc2_w 107, 3) := by decide +kernel
theorem dX7_laysShuffled_55 : decode cX7_laysShuffled 55 = .ok (.lrem, 1) := by decide +kernel
theorem dX7_laysShuffled_56 : decode cX7_laysShuffled 56 = .ok (.lstore_n 2, 1) := by decide +kernel
theorem dX7_laysShuffled_57 : decode cX7_laysShuffled 57 = .ok (.lload_n 2, 1) := by decide +kernel
theorem dX7_laysShuffled_58 : decode cX7_laysShuffled 58 = .ok (.ldc2_w 109, 3) := by decide +kernel
theorem dX7_laysShuffled_61 : decode cX7_laysShuffled 61 = .ok (.ldiv, 1) := by decide +kernel
theorem dX7_laysShuffled_62 : decode cX7_laysShuffled 62 = .ok (.iload 4, 2) := by decide +kernel
theorem dX7_laysShuffled_64 : decode cX7_laysShuffled 64 = .ok (.iconst 1, 1) := by decide +kernel
theorem dX7_laysShuffled_65 : decode cX7_laysShuffled 65 = .ok (.iadd, 1) := by decide +kernel
theorem dX7_laysShuffled_66 : decode cX7_laysShuffled 66 = .ok (.i2l, 1) := by decide +kernel
theorem dX7_laysShuffled_67 : decode cX7_laysShuffled 67 = .ok (.lrem, 1) := by decide +kernel
theorem dX7_laysShuffled_68 : decode cX7_laysShuffled 68 = .ok (.l2i, 1) := by decide +kernel
theorem dX7_laysShuffled_69 : decode cX7_laysShuffled 69 = .ok (.istore 5, 2) := by decide +kernel
theorem dX7_laysShuffled_71 : decode cX7_laysShuffled 71 = .ok (.aload_n 0, 1) := by decide +kernel
theorem dX7_laysShuffled_72 : decode cX7_laysShuffled 72 = .ok (.getfield 28, 3) := by decide +kernel
theorem dX7_laysShuffled_75 : decode cX7_laysShuffled 75 = .ok (.iload 4, 2) := by decide +kernel
theorem dX7_laysShuffled_77 : decode cX7_laysShuffled 77 = .ok (.iaload, 1) := by decide +kernel
theorem dX7_laysShuffled_78 : decode cX7_laysShuffled 78 = .ok (.istore 6, 2) := by decide +kernel
theorem dX7_laysShuffled_80 : decode cX7_laysShuffled 80 = .ok (.aload_n 0, 1) := by decide +kernel
theorem dX7_laysShuffled_81 : decode cX7_laysShuffled 81 = .ok (.getfield 28, 3) := by decide +kernel
theorem dX7_laysShuffled_84 : decode cX7_laysShuffled 84 = .ok (.iload 4, 2) := by decide +kernel
theorem dX7_laysShuffled_86 : decode cX7_laysShuffled 86 = .ok (.aload_n 0, 1) := by decide +kernel
theorem dX7_laysShuffled_87 : decode cX7_laysShuffled 87 = .ok (.getfield 28, 3) := by decide +kernel
theorem dX7_laysShuffled_90 : decode cX7_laysShuffled 90 = .ok (.iload 5, 2) := by decide +kernel
theorem dX7_laysShuffled_92 : decode cX7_laysShuffled 92 = .ok (.iaload, 1) := by decide +kernel
theorem dX7_laysShuffled_93 : decode cX7_laysShuffled 93 = .ok (.iastore, 1) := by decide +kernel
theorem dX7_laysShuffled_94 : decode cX7_laysShuffled 94 = .ok (.aload_n 0, 1) := by decide +kernel
theorem dX7_laysShuffled_95 : decode cX7_laysShuffled 95 = .ok (.getfield 28, 3) := by decide +kernel
theorem dX7_laysShuffled_98 : decode cX7_laysShuffled 98 = .ok (.iload 5, 2) := by decide +kernel
theorem dX7_laysShuffled_100 : decode cX7_laysShuffled 100 = .ok (.iload 6, 2) := by decide +kernel
theorem dX7_laysShuffled_102 : decode cX7_laysShuffled 102 = .ok (.iastore, 1) := by decide +kernel
theorem dX7_laysShuffled_103 : decode cX7_laysShuffled 103 = .ok (.iinc 4 (-1), 3) := by decide +kernel
theorem dX7_laysShuffled_106 : decode cX7_laysShuffled 106 = .ok (.goto (-68), 3) := by decide +kernel
theorem dX7_laysShuffled_109 : decode cX7_laysShuffled 109 = .ok (.return_, 1) := by decide +kernel
theorem dX7_putShuffled_0 : decode cX7_putShuffled 0 = .ok (.iload_n 1, 1) := by decide +kernel
theorem dX7_putShuffled_1 : decode cX7_putShuffled 1 = .ok (.iconst 0, 1) := by decide +kernel
theorem dX7_putShuffled_2 : decode cX7_putShuffled 2 = .ok (.ldc 111, 2) := by decide +kernel
theorem dX7_putShuffled_4 : decode cX7_putShuffled 4 = .ok (.invokestatic 48, 3) := by decide +kernel
theorem dX7_putShuffled_7 : decode cX7_putShuffled 7 = .ok (.ifCond .ne 6, 3) := by decide +kernel
theorem dX7_putShuffled_10 : decode cX7_putShuffled 10 = .ok (.bipush (-2), 2) := by decide +kernel
theorem dX7_putShuffled_12 : decode cX7_putShuffled 12 = .ok (.ireturn, 1) := by decide +kernel
theorem dX7_putShuffled_13 : decode cX7_putShuffled 13 = .ok (.aload_n 0, 1) := by decide +kernel
theorem dX7_putShuffled_14 : decode cX7_putShuffled 14 = .ok (.iload_n 1, 1) := by decide +kernel
theorem dX7_putShuffled_15 : decode cX7_putShuffled 15 = .ok (.invokevirtual 112, 3) := by decide +kernel
theorem dX7_putShuffled_18 : decode cX7_putShuffled 18 = .ok (.aload_n 0, 1) := by decide +kernel
theorem dX7_putShuffled_19 : decode cX7_putShuffled 19 = .ok (.getfield 7, 3) := by decide +kernel
theorem dX7_putShuffled_22 : decode cX7_putShuffled 22 = .ok (.iconst 3, 1) := by decide +kernel
theorem dX7_putShuffled_23 : decode cX7_putShuffled 23 = .ok (.aload_n 0, 1) := by decide +kernel
theorem dX7_putShuffled_24 : decode cX7_putShuffled 24 = .ok (.getfield 7, 3) := by decide +kernel
theorem dX7_putShuffled_27 : decode cX7_putShuffled 27 = .ok (.iconst 0, 1) := by decide +kernel
theorem dX7_putShuffled_28 : decode cX7_putShuffled 28 = .ok (.iaload, 1) := by decide +kernel
theorem dX7_putShuffled_29 : decode cX7_putShuffled 29 = .ok (.iastore, 1) := by decide +kernel
theorem dX7_putShuffled_30 : decode cX7_putShuffled 30 = .ok (.iconst 0, 1) := by decide +kernel
theorem dX7_putShuffled_31 : decode cX7_putShuffled 31 = .ok (.istore_n 2, 1) := by decide +kernel
theorem dX7_putShuffled_32 : decode cX7_putShuffled 32 = .ok (.iload_n 2, 1) := by decide +kernel
theorem dX7_putShuffled_33 : decode cX7_putShuffled 33 = .ok (.aload_n 0, 1) := by decide +kernel
theorem dX7_putShuffled_34 : decode cX7_putShuffled 34 = .ok (.getfield 7, 3) := by decide +kernel
theorem dX7_putShuffled_37 : decode cX7_putShuffled 37 = .ok (.iconst 3, 1) := by decide +kernel
theorem dX7_putShuffled_38 : decode cX7_putShuffled 38 = .ok (.iaload, 1) := by decide +kernel
theorem dX7_putShuffled_39 : decode cX7_putShuffled 39 = .ok (.if_icmp .ge 23, 3) := by decide +kernel
theorem dX7_putShuffled_42 : decode cX7_putShuffled 42 = .ok (.aload_n 0, 1) := by decide +kernel
theorem dX7_putShuffled_43 : decode cX7_putShuffled 43 = .ok (.getfield 7, 3) := by decide +kernel
theorem dX7_putShuffled_46 : decode cX7_putShuffled 46 = .ok (.iconst 4, 1) := by decide +kernel
theorem dX7_putShuffled_47 : decode cX7_putShuffled 47 = .ok (.iload_n 2, 1) := by decide +kernel
theorem dX7_putShuffled_48 : decode cX7_putShuffled 48 = .ok (.iadd, 1) := by decide +kernel
theorem dX7_putShuffled_49 : decode cX7_putShuffled 49 = .ok (.aload_n 0, 1) := by decide +kernel
theorem dX7_putShuffled_50 : decode cX7_putShuffled 50 = .ok (.getfield 28, 3) := by decide +kernel
theorem dX7_putShuffled_53 : decode cX7_putShuffled 53 = .ok (.iload_n 2, 1) := by decide +kernel
theorem dX7_putShuffled_54 : decode cX7_putShuffled 54 = .ok (.iaload, 1) := by decide +kernel
theorem dX7_putShuffled_55 : decode cX7_putShuffled 55 = .ok (.iastore, 1) := by decide +kernel
theorem dX7_putShuffled_56 : decode cX7_putShuffled 56 = .ok (.iinc 2 1, 3) := by decide +kernel
theorem dX7_putShuffled_59 : decode cX7_putShuffled 59 = .ok (.goto (-27), 3) := by decide +kernel
theorem dX7_putShuffled_62 : decode cX7_putShuffled 62 = .ok (.aload_n 0, 1) := by decide +kernel
theorem dX7_putShuffled_63 : decode cX7_putShuffled 63 = .ok (.getfield 7, 3) := by decide +kernel
theorem dX7_putShuffled_66 : decode cX7_putShuffled 66 = .ok (.iconst 3, 1) := by decide +kernel
theorem dX7_putShuffled_67 : decode cX7_putShuffled 67 = .ok (.iaload, 1) := by decide +kernel
theorem dX7_putShuffled_68 : decode cX7_putShuffled 68 = .ok (.ireturn, 1) := by decide +kernel
theorem dX7_putTrimmed_0 : decode cX7_putTrimmed 0 = .ok (.aload_n 0, 1) := by decide +kernel
theorem dX7_putTrimmed_1 : decode cX7_putTrimmed 1 = .ok (.iload_n 1, 1) := by decide +kernel
theorem dX7_putTrimmed_2 : decode cX7_putTrimmed 2 = .ok (.invokevirtual 100, 3) := by decide +kernel
theorem dX7_putTrimmed_5 : decode cX7_putTrimmed 5 = .ok (.ifCond .ne 6, 3) := by decide +kernel
theorem dX7_putTrimmed_8 : decode cX7_putTrimmed 8 = .ok (.bipush (-2), 2) := by decide +kernel
theorem dX7_putTrimmed_10 : decode cX7_putTrimmed 10 = .ok (.ireturn, 1) := by decide +kernel
theorem dX7_putTrimmed_11 : decode cX7_putTrimmed 11 = .ok (.aload_n 0, 1) := by decide +kernel
theorem dX7_putTrimmed_12 : decode cX7_putTrimmed 12 = .ok (.iload_n 1, 1) := by decide +kernel
theorem dX7_putTrimmed_13 : decode cX7_putTrimmed 13 = .ok (.invokevirtual 115, 3) := by decide +kernel
theorem dX7_putTrimmed_16 : decode cX7_putTrimmed 16 = .ok (.ifCond .ne 6, 3) := by decide +kernel
theorem dX7_putTrimmed_19 : decode cX7_putTrimmed 19 = .ok (.bipush (-3), 2) := by decide +kernel
theorem dX7_putTrimmed_21 : decode cX7_putTrimmed 21 = .ok (.ireturn, 1) := by decide +kernel
theorem dX7_putTrimmed_22 : decode cX7_putTrimmed 22 = .ok (.aload_n 0, 1) := by decide +kernel
theorem dX7_putTrimmed_23 : decode cX7_putTrimmed 23 = .ok (.iload_n 1, 1) := by decide +kernel
theorem dX7_putTrimmed_24 : decode cX7_putTrimmed 24 = .ok (.invokevirtual 93, 3) := by decide +kernel
theorem dX7_putTrimmed_27 : decode cX7_putTrimmed 27 = .ok (.istore_n 2, 1) := by decide +kernel
theorem dX7_putTrimmed_28 : decode cX7_putTrimmed 28 = .ok (.aload_n 0, 1) := by decide +kernel
theorem dX7_putTrimmed_29 : decode cX7_putTrimmed 29 = .ok (.iload_n 2, 1) := by decide +kernel
theorem dX7_putTrimmed_30 : decode cX7_putTrimmed 30 = .ok (.invokevirtual 118, 3) := by decide +kernel
theorem dX7_putTrimmed_33 : decode cX7_putTrimmed 33 = .ok (.istore_n 3, 1) := by decide +kernel
theorem dX7_putTrimmed_34 : decode cX7_putTrimmed 34 = .ok (.iconst 0, 1) := by decide +kernel
theorem dX7_putTrimmed_35 : decode cX7_putTrimmed 35 = .ok (.istore 4, 2) := by decide +kernel
theorem dX7_putTrimmed_37 : decode cX7_putTrimmed 37 = .ok (.iload_n 2, 1) := by decide +kernel
theorem dX7_putTrimmed_38 : decode cX7_putTrimmed 38 = .ok (.iconst 1, 1) := by decide +kernel
theorem dX7_putTrimmed_39 : decode cX7_putTrimmed 39 = .ok (.isub, 1) := by decide +kernel
theorem dX7_putTrimmed_40 : decode cX7_putTrimmed 40 = .ok (.istore 5, 2) := by decide +kernel
theorem dX7_putTrimmed_42 : decode cX7_putTrimmed 42 = .ok (.iload 5, 2) := by decide +kernel
theorem dX7_putTrimmed_44 : decode cX7_putTrimmed 44 = .ok (.ifCond .lt 34, 3) := by decide +kernel
theorem dX7_putTrimmed_47 : decode cX7_putTrimmed 47 = .ok (.iload_n 3, 1) := by decide +kernel
theorem dX7_putTrimmed_48 : decode cX7_putTrimmed 48 = .ok (.aload_n 0, 1) := by decide +kernel
theorem dX7_putTrimmed_49 : decode cX7_putTrimmed 49 = .ok (.getfield 7, 3) := by decide +kernel
theorem dX7_putTrimmed_52 : decode cX7_putTrimmed 52 = .ok (.iconst 4, 1) := by decide +kernel
theorem dX7_putTrimmed_53 : decode cX7_putTrimmed 53 = .ok (.iload 5, 2) := by decide +kernel
theorem dX7_putTrimmed_55 : decode cX7_putTrimmed 55 = .ok (.iadd, 1) := by decide +kernel
theorem dX7_putTrimmed_56 : decode cX7_putTrimmed 56 = .ok (.iaload, 1) := by decide +kernel
theorem dX7_putTrimmed_57 : decode cX7_putTrimmed 57 = .ok (.invokestatic 77, 3) := by decide +kernel
theorem dX7_putTrimmed_60 : decode cX7_putTrimmed 60 = .ok (.ifCond .ne 12, 3) := by decide +kernel
theorem dX7_putTrimmed_63 : decode cX7_putTrimmed 63 = .ok (.aload_n 0, 1) := by decide +kernel
theorem dX7_putTrimmed_64 : decode cX7_putTrimmed 64 = .ok (.iload 5, 2) := by decide +kernel
theorem dX7_putTrimmed_66 : decode cX7_putTrimmed 66 = .ok (.invokevirtual 96, 3) := by decide +kernel
theorem dX7_putTrimmed_69 : decode cX7_putTrimmed 69 = .ok (.iinc 4 1, 3) := by decide +kernel
theorem dX7_putTrimmed_72 : decode cX7_putTrimmed 72 = .ok (.iinc 5 (-1), 3) := by decide +kernel
theorem dX7_putTrimmed_75 : decode cX7_putTrimmed 75 = .ok (.goto (-33), 3) := by decide +kernel
theorem dX7_putTrimmed_78 : decode cX7_putTrimmed 78 = .ok (.iload 4, 2) := by decide +kernel
theorem dX7_putTrimmed_80 : decode cX7_putTrimmed 80 = .ok (.ireturn, 1) := by decide +kernel
theorem dX7_test_0 : decode cX7_test 0 = .ok (.aload_n 0, 1) := by decide +kernel
theorem dX7_test_1 : decode cX7_test 1 = .ok (.invokevirtual 121, 3) := by decide +kernel
theorem dX7_test_4 : decode cX7_test 4 = .ok (.aload_n 0, 1) := by decide +kernel
theorem dX7_test_5 : decode cX7_test 5 = .ok (.aload_n 0, 1) := by decide +kernel
theorem dX7_test_6 : decode cX7_test 6 = .ok (.iload_n 1, 1) := by decide +kernel
theorem dX7_test_7 : decode cX7_test 7 = .ok (.iload_n 2, 1) := by decide +kernel
theorem dX7_test_8 : decode cX7_test 8 = .ok (.iload_n 3, 1) := by decide +kernel
theorem dX7_test_9 : decode cX7_test 9 = .ok (.iload 4, 2) := by decide +kernel
theorem dX7_test_11 : decode cX7_test 11 = .ok (.iload 5, 2) := by decide +kernel
theorem dX7_test_13 : decode cX7_test 13 = .ok (.invokevirtual 124, 3) := by decide +kernel
theorem dX7_test_16 : decode cX7_test 16 = .ok (.invokevirtual 128, 3) := by decide +kernel
theorem dX7_test_19 : decode cX7_test 19 = .ok (.ireturn, 1) := by decide +kernel
theorem dX7_cuts_0 : decode cX7_cuts 0 = .ok (.aload_n 0, 1) := by decide +kernel
theorem dX7_cuts_1 : decode cX7_cuts 1 = .ok (.invokevirtual 121, 3) := by decide +kernel
theorem dX7_cuts_4 : decode cX7_cuts 4 = .ok (.aload_n 0, 1) := by decide +kernel
theorem dX7_cuts_5 : decode cX7_cuts 5 = .ok (.aload_n 0, 1) := by decide +kernel
theorem dX7_cuts_6 : decode cX7_cuts 6 = .ok (.invokevirtual 131, 3) := by decide +kernel
theorem dX7_cuts_9 : decode cX7_cuts 9 = .ok (.invokevirtual 128, 3) := by decide +kernel
theorem dX7_cuts_12 : decode cX7_cuts 12 = .ok (.ireturn, 1) := by decide +kernel
theorem dX7_lays_0 : decode cX7_lays 0 = .ok (.aload_n 0, 1) := by decide +kernel
theorem dX7_lays_1 : decode cX7_lays 1 = .ok (.invokevirtual 121, 3) := by decide +kernel
theorem dX7_lays_4 : decode cX7_lays 4 = .ok (.aload_n 0, 1) := by decide +kernel
theorem dX7_lays_5 : decode cX7_lays 5 = .ok (.aload_n 0, 1) := by decide +kernel
theorem dX7_lays_6 : decode cX7_lays 6 = .ok (.iload_n 1, 1) := by decide +kernel
theorem dX7_lays_7 : decode cX7_lays 7 = .ok (.invokevirtual 134, 3) := by decide +kernel
theorem dX7_lays_10 : decode cX7_lays 10 = .ok (.invokevirtual 128, 3) := by decide +kernel
theorem dX7_lays_13 : decode cX7_lays 13 = .ok (.ireturn, 1) := by decide +kernel
theorem dX7_wipes_0 : decode cX7_wipes 0 = .ok (.aload_n 0, 1) := by decide +kernel
theorem dX7_wipes_1 : decode cX7_wipes 1 = .ok (.invokevirtual 121, 3) := by decide +kernel
theorem dX7_wipes_4 : decode cX7_wipes 4 = .ok (.aload_n 0, 1) := by decide +kernel
theorem dX7_wipes_5 : decode cX7_wipes 5 = .ok (.aload_n 0, 1) := by decide +kernel
theorem dX7_wipes_6 : decode cX7_wipes 6 = .ok (.invokevirtual 137, 3) := by decide +kernel
theorem dX7_wipes_9 : decode cX7_wipes 9 = .ok (.invokevirtual 128, 3) := by decide +kernel
theorem dX7_wipes_12 : decode cX7_wipes 12 = .ok (.ireturn, 1) := by decide +kernel
theorem dX7_start_0 : decode cX7_start 0 = .ok (.aload_n 0, 1) := by decide +kernel
theorem dX7_start_1 : decode cX7_start 1 = .ok (.invokevirtual 121, 3) := by decide +kernel
theorem dX7_start_4 : decode cX7_start 4 = .ok (.aload_n 0, 1) := by decide +kernel
theorem dX7_start_5 : decode cX7_start 5 = .ok (.aload_n 0, 1) := by decide +kernel
theorem dX7_start_6 : decode cX7_start 6 = .ok (.iconst 1, 1) := by decide +kernel
theorem dX7_start_7 : decode cX7_start 7 = .ok (.iload_n 1, 1) := by decide +kernel
theorem dX7_start_8 : decode cX7_start 8 = .ok (.bipush 63, 2) := by decide +kernel
theorem dX7_start_10 : decode cX7_start 10 = .ok (.invokevirtual 140, 3) := by decide +kernel
theorem dX7_start_13 : decode cX7_start 13 = .ok (.invokevirtual 128, 3) := by decide +kernel
theorem dX7_start_16 : decode cX7_start 16 = .ok (.ireturn, 1) := by decide +kernel
theorem dX7_mode_0 : decode cX7_mode 0 = .ok (.aload_n 0, 1) := by decide +kernel
theorem dX7_mode_1 : decode cX7_mode 1 = .ok (.invokevirtual 121, 3) := by decide +kernel
theorem dX7_mode_4 : decode cX7_mode 4 = .ok (.aload_n 0, 1) := by decide +kernel
theorem dX7_mode_5 : decode cX7_mode 5 = .ok (.aload_n 0, 1) := by decide +kernel
theorem dX7_mode_6 : decode cX7_mode 6 = .ok (.iconst 2, 1) := by decide +kernel
theorem dX7_mode_7 : decode cX7_mode 7 = .ok (.iload_n 1, 1) := by decide +kernel
theorem dX7_mode_8 : decode cX7_mode 8 = .ok (.iconst 1, 1) := by decide +kernel
theorem dX7_mode_9 : decode cX7_mode 9 = .ok (.invokevirtual 140, 3) := by decide +kernel
theorem dX7_mode_12 : decode cX7_mode 12 = .ok (.invokevirtual 128, 3) := by decide +kernel
theorem dX7_mode_15 : decode cX7_mode 15 = .ok (.ireturn, 1) := by decide +kernel
theorem dX7_shuffles_0 : decode cX7_shuffles 0 = .ok (.aload_n 0, 1) := by decide +kernel
theorem dX7_shuffles_1 : decode cX7_shuffles 1 = .ok (.invokevirtual 121, 3) := by decide +kernel
theorem dX7_shuffles_4 : decode cX7_shuffles 4 = .ok (.aload_n 0, 1) := by decide +kernel
theorem dX7_shuffles_5 : decode cX7_shuffles 5 = .ok (.aload_n 0, 1) := by decide +kernel
theorem dX7_shuffles_6 : decode cX7_shuffles 6 = .ok (.iload_n 1, 1) := by decide +kernel
theorem dX7_shuffles_7 : decode cX7_shuffles 7 = .ok (.invokevirtual 144, 3) := by decide +kernel
theorem dX7_shuffles_10 : decode cX7_shuffles 10 = .ok (.invokevirtual 128, 3) := by decide +kernel
theorem dX7_shuffles_13 : decode cX7_shuffles 13 = .ok (.ireturn, 1) := by decide +kernel
theorem dX7_trims_0 : decode cX7_trims 0 = .ok (.aload_n 0, 1) := by decide +kernel
theorem dX7_trims_1 : decode cX7_trims 1 = .ok (.invokevirtual 121, 3) := by decide +kernel
theorem dX7_trims_4 : decode cX7_trims 4 = .ok (.aload_n 0, 1) := by decide +kernel
theorem dX7_trims_5 : decode cX7_trims 5 = .ok (.aload_n 0, 1) := by decide +kernel
theorem dX7_trims_6 : decode cX7_trims 6 = .ok (.iload_n 1, 1) := by decide +kernel
theorem dX7_trims_7 : decode cX7_trims 7 = .ok (.invokevirtual 147, 3) := by decide +kernel
theorem dX7_trims_10 : decode cX7_trims 10 = .ok (.invokevirtual 128, 3) := by decide +kernel
theorem dX7_trims_13 : decode cX7_trims 13 = .ok (.ireturn, 1) := by decide +kernel
theorem dX7_testTold_0 : decode cX7_testTold 0 = .ok (.iload_n 2, 1) := by decide +kernel
theorem dX7_testTold_1 : decode cX7_testTold 1 = .ok (.iconst 5, 1) := by decide +kernel
theorem dX7_testTold_2 : decode cX7_testTold 2 = .ok (.if_icmp .ge 12, 3) := by decide +kernel
theorem dX7_testTold_5 : decode cX7_testTold 5 = .ok (.aload_n 0, 1) := by decide +kernel
theorem dX7_testTold_6 : decode cX7_testTold 6 = .ok (.iload_n 1, 1) := by decide +kernel
theorem dX7_testTold_7 : decode cX7_testTold 7 = .ok (.iload_n 2, 1) := by decide +kernel
theorem dX7_testTold_8 : decode cX7_testTold 8 = .ok (.invokevirtual 52, 3) := by decide +kernel
theorem dX7_testTold_11 : decode cX7_testTold 11 = .ok (.goto 16, 3) := by decide +kernel
theorem dX7_testTold_14 : decode cX7_testTold 14 = .ok (.aload_n 0, 1) := by decide +kernel
theorem dX7_testTold_15 : decode cX7_testTold 15 = .ok (.iload_n 1, 1) := by decide +kernel
theorem dX7_testTold_16 : decode cX7_testTold 16 = .ok (.invokevirtual 70, 3) := by decide +kernel
theorem dX7_testTold_19 : decode cX7_testTold 19 = .ok (.ifCond .eq 7, 3) := by decide +kernel
theorem dX7_testTold_22 : decode cX7_testTold 22 = .ok (.iconst 1, 1) := by decide +kernel
theorem dX7_testTold_23 : decode cX7_testTold 23 = .ok (.goto 4, 3) := by decide +kernel
theorem dX7_testTold_26 : decode cX7_testTold 26 = .ok (.iconst 0, 1) := by decide +kernel
theorem dX7_testTold_27 : decode cX7_testTold 27 = .ok (.ireturn, 1) := by decide +kernel
theorem dX7_of_0 : decode cX7_of 0 = .ok (.aload_n 0, 1) := by decide +kernel
theorem dX7_of_1 : decode cX7_of 1 = .ok (.iload_n 1, 1) := by decide +kernel
theorem dX7_of_2 : decode cX7_of 2 = .ok (.invokevirtual 100, 3) := by decide +kernel
theorem dX7_of_5 : decode cX7_of 5 = .ok (.ifCond .eq 21, 3) := by decide +kernel
theorem dX7_of_8 : decode cX7_of 8 = .ok (.iload_n 2, 1) := by decide +kernel
theorem dX7_of_9 : decode cX7_of 9 = .ok (.iconst 0, 1) := by decide +kernel
theorem dX7_of_10 : decode cX7_of 10 = .ok (.iconst 5, 1) := by decide +kernel
theorem dX7_of_11 : decode cX7_of 11 = .ok (.invokestatic 48, 3) := by decide +kernel
theorem dX7_of_14 : decode cX7_of 14 = .ok (.ifCond .eq 12, 3) := by decide +kernel
theorem dX7_of_17 : decode cX7_of 17 = .ok (.aload_n 0, 1) := by decide +kernel
theorem dX7_of_18 : decode cX7_of 18 = .ok (.iload_n 1, 1) := by decide +kernel
theorem dX7_of_19 : decode cX7_of 19 = .ok (.iload_n 2, 1) := by decide +kernel
theorem dX7_of_20 : decode cX7_of 20 = .ok (.invokevirtual 150, 3) := by decide +kernel
theorem dX7_of_23 : decode cX7_of 23 = .ok (.goto 9, 3) := by decide +kernel
theorem dX7_of_26 : decode cX7_of 26 = .ok (.aload_n 0, 1) := by decide +kernel
theorem dX7_of_27 : decode cX7_of 27 = .ok (.bipush (-2), 2) := by decide +kernel
theorem dX7_of_29 : decode cX7_of 29 = .ok (.invokevirtual 41, 3) := by decide +kernel
theorem dX7_of_32 : decode cX7_of 32 = .ok (.ireturn, 1) := by decide +kernel
theorem dX7_areTwo_0 : decode cX7_areTwo 0 = .ok (.aload_n 0, 1) := by decide +kernel
theorem dX7_areTwo_1 : decode cX7_areTwo 1 = .ok (.iload_n 1, 1) := by decide +kernel
theorem dX7_areTwo_2 : decode cX7_areTwo 2 = .ok (.invokevirtual 100, 3) := by decide +kernel
theorem dX7_areTwo_5 : decode cX7_areTwo 5 = .ok (.ifCond .eq 20, 3) := by decide +kernel
theorem dX7_areTwo_8 : decode cX7_areTwo 8 = .ok (.aload_n 0, 1) := by decide +kernel
theorem dX7_areTwo_9 : decode cX7_areTwo 9 = .ok (.iload_n 2, 1) := by decide +kernel
theorem dX7_areTwo_10 : decode cX7_areTwo 10 = .ok (.invokevirtual 100, 3) := by decide +kernel
theorem dX7_areTwo_13 : decode cX7_areTwo 13 = .ok (.ifCond .eq 12, 3) := by decide +kernel
theorem dX7_areTwo_16 : decode cX7_areTwo 16 = .ok (.iload_n 1, 1) := by decide +kernel
theorem dX7_areTwo_17 : decode cX7_areTwo 17 = .ok (.iload_n 2, 1) := by decide +kernel
theorem dX7_areTwo_18 : decode cX7_areTwo 18 = .ok (.if_icmp .eq 7, 3) := by decide +kernel
theorem dX7_areTwo_21 : decode cX7_areTwo 21 = .ok (.iconst 1, 1) := by decide +kernel
theorem dX7_areTwo_22 : decode cX7_areTwo 22 = .ok (.goto 4, 3) := by decide +kernel
theorem dX7_areTwo_25 : decode cX7_areTwo 25 = .ok (.iconst 0, 1) := by decide +kernel
theorem dX7_areTwo_26 : decode cX7_areTwo 26 = .ok (.ireturn, 1) := by decide +kernel
theorem dX7_soils_0 : decode cX7_soils 0 = .ok (.aload_n 0, 1) := by decide +kernel
theorem dX7_soils_1 : decode cX7_soils 1 = .ok (.iload_n 1, 1) := by decide +kernel
theorem dX7_soils_2 : decode cX7_soils 2 = .ok (.iload_n 2, 1) := by decide +kernel
theorem dX7_soils_3 : decode cX7_soils 3 = .ok (.invokevirtual 153, 3) := by decide +kernel
theorem dX7_soils_6 : decode cX7_soils 6 = .ok (.ifCond .ne 12, 3) := by decide +kernel
theorem dX7_soils_9 : decode cX7_soils 9 = .ok (.aload_n 0, 1) := by decide +kernel
theorem dX7_soils_10 : decode cX7_soils 10 = .ok (.bipush (-2), 2) := by decide +kernel
theorem dX7_soils_12 : decode cX7_soils 12 = .ok (.invokevirtual 41, 3) := by decide +kernel
theorem dX7_soils_15 : decode cX7_soils 15 = .ok (.goto 17, 3) := by decide +kernel
theorem dX7_soils_18 : decode cX7_soils 18 = .ok (.aload_n 0, 1) := by decide +kernel
theorem dX7_soils_19 : decode cX7_soils 19 = .ok (.iload_n 1, 1) := by decide +kernel
theorem dX7_soils_20 : decode cX7_soils 20 = .ok (.iload_n 2, 1) := by decide +kernel
theorem dX7_soils_21 : decode cX7_soils 21 = .ok (.invokevirtual 156, 3) := by decide +kernel
theorem dX7_soils_24 : decode cX7_soils 24 = .ok (.ifCond .eq 7, 3) := by decide +kernel
theorem dX7_soils_27 : decode cX7_soils 27 = .ok (.iconst 1, 1) := by decide +kernel
theorem dX7_soils_28 : decode cX7_soils 28 = .ok (.goto 4, 3) := by decide +kernel
theorem dX7_soils_31 : decode cX7_soils 31 = .ok (.iconst 0, 1) := by decide +kernel
theorem dX7_soils_32 : decode cX7_soils 32 = .ok (.ireturn, 1) := by decide +kernel
theorem dX7_cleans_0 : decode cX7_cleans 0 = .ok (.aload_n 0, 1) := by decide +kernel
theorem dX7_cleans_1 : decode cX7_cleans 1 = .ok (.iload_n 1, 1) := by decide +kernel
theorem dX7_cleans_2 : decode cX7_cleans 2 = .ok (.iload_n 2, 1) := by decide +kernel
theorem dX7_cleans_3 : decode cX7_cleans 3 = .ok (.invokevirtual 153, 3) := by decide +kernel
theorem dX7_cleans_6 : decode cX7_cleans 6 = .ok (.ifCond .ne 10, 3) := by decide +kernel
theorem dX7_cleans_9 : decode cX7_cleans 9 = .ok (.aload_n 0, 1) := by decide +kernel
theorem dX7_cleans_10 : decode cX7_cleans 10 = .ok (.bipush (-2), 2) := by decide +kernel
theorem dX7_cleans_12 : decode cX7_cleans 12 = .ok (.invokevirtual 41, 3) := by decide +kernel
theorem dX7_cleans_15 : decode cX7_cleans 15 = .ok (.ireturn, 1) := by decide +kernel
theorem dX7_cleans_16 : decode cX7_cleans 16 = .ok (.aload_n 0, 1) := by decide +kernel
theorem dX7_cleans_17 : decode cX7_cleans 17 = .ok (.iload_n 1, 1) := by decide +kernel
theorem dX7_cleans_18 : decode cX7_cleans 18 = .ok (.iload_n 2, 1) := by decide +kernel
theorem dX7_cleans_19 : decode cX7_cleans 19 = .ok (.invokevirtual 156, 3) := by decide +kernel
theorem dX7_cleans_22 : decode cX7_cleans 22 = .ok (.ifCond .ne 10, 3) := by decide +kernel
theorem dX7_cleans_25 : decode cX7_cleans 25 = .ok (.aload_n 0, 1) := by decide +kernel
theorem dX7_cleans_26 : decode cX7_cleans 26 = .ok (.bipush (-3), 2) := by decide +kernel
theorem dX7_cleans_28 : decode cX7_cleans 28 = .ok (.invokevirtual 41, 3) := by decide +kernel
theorem dX7_cleans_31 : decode cX7_cleans 31 = .ok (.ireturn, 1) := by decide +kernel
theorem dX7_cleans_32 : decode cX7_cleans 32 = .ok (.iconst 0, 1) := by decide +kernel
theorem dX7_cleans_33 : decode cX7_cleans 33 = .ok (.istore_n 3, 1) := by decide +kernel
theorem dX7_cleans_34 : decode cX7_cleans 34 = .ok (.iconst 0, 1) := by decide +kernel
theorem dX7_cleans_35 : decode cX7_cleans 35 = .ok (.istore 4, 2) := by decide +kernel
theorem dX7_cleans_37 : decode cX7_cleans 37 = .ok (.iload 4, 2) := by decide +kernel
theorem dX7_cleans_39 : decode cX7_cleans 39 = .ok (.aload_n 0, 1) := by decide +kernel
theorem dX7_cleans_40 : decode cX7_cleans 40 = .ok (.getfield 7, 3) := by decide +kernel
theorem dX7_cleans_43 : decode cX7_cleans 43 = .ok (.iconst 0, 1) := by decide +kernel
theorem dX7_cleans_44 : decode cX7_cleans 44 = .ok (.iaload, 1) := by decide +kernel
theorem dX7_cleans_45 : decode cX7_cleans 45 = .ok (.if_icmp .ge 43, 3) := by decide +kernel
theorem dX7_cleans_48 : decode cX7_cleans 48 = .ok (.iload_n 3, 1) := by decide +kernel
theorem dX7_cleans_49 : decode cX7_cleans 49 = .ok (.iload 4, 2) := by decide +kernel
theorem dX7_cleans_51 : decode cX7_cleans 51 = .ok (.iload_n 1, 1) := by decide +kernel
theorem dX7_cleans_52 : decode cX7_cleans 52 = .ok (.if_icmp .eq 27, 3) := by decide +kernel
theorem dX7_cleans_55 : decode cX7_cleans 55 = .ok (.iload 4, 2) := by decide +kernel
theorem dX7_cleans_57 : decode cX7_cleans 57 = .ok (.iload_n 2, 1) := by decide +kernel
theorem dX7_cleans_58 : decode cX7_cleans 58 = .ok (.if_icmp .eq 21, 3) := by decide +kernel
theorem dX7_cleans_61 : decode cX7_cleans 61 = .ok (.aload_n 0, 1) := by decide +kernel
theorem dX7_cleans_62 : decode cX7_cleans 62 = .ok (.iload 4, 2) := by decide +kernel
theorem dX7_cleans_64 : decode cX7_cleans 64 = .ok (.iload_n 1, 1) := by decide +kernel
theorem dX7_cleans_65 : decode cX7_cleans 65 = .ok (.iload_n 2, 1) := by decide +kernel
theorem dX7_cleans_66 : decode cX7_cleans 66 = .ok (.invokevirtual 159, 3) := by decide +kernel
theorem dX7_cleans_69 : decode cX7_cleans 69 = .ok (.ifCond .eq 10, 3) := by decide +kernel
theorem dX7_cleans_72 : decode cX7_cleans 72 = .ok (.iconst 1, 1) := by decide +kernel
theorem dX7_cleans_73 : decode cX7_cleans 73 = .ok (.iload 4, 2) := by decide +kernel
theorem dX7_cleans_75 : decode cX7_cleans 75 = .ok (.ishl, 1) := by decide +kernel
theorem dX7_cleans_76 : decode cX7_cleans 76 = .ok (.goto 4, 3) := by decide +kernel
theorem dX7_cleans_79 : decode cX7_cleans 79 = .ok (.iconst 0, 1) := by decide +kernel
theorem dX7_cleans_80 : decode cX7_cleans 80 = .ok (.ior, 1) := by decide +kernel
theorem dX7_cleans_81 : decode cX7_cleans 81 = .ok (.istore_n 3, 1) := by decide +kernel
theorem dX7_cleans_82 : decode cX7_cleans 82 = .ok (.iinc 4 1, 3) := by decide +kernel
theorem dX7_cleans_85 : decode cX7_cleans 85 = .ok (.goto (-48), 3) := by decide +kernel
theorem dX7_cleans_88 : decode cX7_cleans 88 = .ok (.iload_n 3, 1) := by decide +kernel
theorem dX7_cleans_89 : decode cX7_cleans 89 = .ok (.ireturn, 1) := by decide +kernel
theorem dX7_flipsBy_0 : decode cX7_flipsBy 0 = .ok (.aload_n 0, 1) := by decide +kernel
theorem dX7_flipsBy_1 : decode cX7_flipsBy 1 = .ok (.iload_n 1, 1) := by decide +kernel
theorem dX7_flipsBy_2 : decode cX7_flipsBy 2 = .ok (.invokevirtual 112, 3) := by decide +kernel
theorem dX7_flipsBy_5 : decode cX7_flipsBy 5 = .ok (.iconst 0, 1) := by decide +kernel
theorem dX7_flipsBy_6 : decode cX7_flipsBy 6 = .ok (.istore_n 2, 1) := by decide +kernel
theorem dX7_flipsBy_7 : decode cX7_flipsBy 7 = .ok (.aload_n 0, 1) := by decide +kernel
theorem dX7_flipsBy_8 : decode cX7_flipsBy 8 = .ok (.getfield 7, 3) := by decide +kernel
theorem dX7_flipsBy_11 : decode cX7_flipsBy 11 = .ok (.iconst 1, 1) := by decide +kernel
theorem dX7_flipsBy_12 : decode cX7_flipsBy 12 = .ok (.iaload, 1) := by decide +kernel
theorem dX7_flipsBy_13 : decode cX7_flipsBy 13 = .ok (.istore_n 3, 1) := by decide +kernel
theorem dX7_flipsBy_14 : decode cX7_flipsBy 14 = .ok (.iconst 0, 1) := by decide +kernel
theorem dX7_flipsBy_15 : decode cX7_flipsBy 15 = .ok (.istore 4, 2) := by decide +kernel
theorem dX7_flipsBy_17 : decode cX7_flipsBy 17 = .ok (.iload 4, 2) := by decide +kernel
theorem dX7_flipsBy_19 : decode cX7_flipsBy 19 = .ok (.aload_n 0, 1) := by decide +kernel
theorem dX7_flipsBy_20 : decode cX7_flipsBy 20 = .ok (.getfield 7, 3) := by decide +kernel
theorem dX7_flipsBy_23 : decode cX7_flipsBy 23 = .ok (.iconst 0, 1) := by decide +kernel
theorem dX7_flipsBy_24 : decode cX7_flipsBy 24 = .ok (.iaload, 1) := by decide +kernel
theorem dX7_flipsBy_25 : decode cX7_flipsBy 25 = .ok (.if_icmp .ge 53, 3) := by decide +kernel
theorem dX7_flipsBy_28 : decode cX7_flipsBy 28 = .ok (.aload_n 0, 1) := by decide +kernel
theorem dX7_flipsBy_29 : decode cX7_flipsBy 29 = .ok (.getfield 28, 3) := by decide +kernel
theorem dX7_flipsBy_32 : decode cX7_flipsBy 32 = .ok (.iload 4, 2) := by decide +kernel
theorem dX7_flipsBy_34 : decode cX7_flipsBy 34 = .ok (.iaload, 1) := by decide +kernel
theorem dX7_flipsBy_35 : decode cX7_flipsBy 35 = .ok (.istore 5, 2) := by decide +kernel
theorem dX7_flipsBy_37 : decode cX7_flipsBy 37 = .ok (.iload_n 2, 1) := by decide +kernel
theorem dX7_flipsBy_38 : decode cX7_flipsBy 38 = .ok (.aload_n 0, 1) := by decide +kernel
theorem dX7_flipsBy_39 : decode cX7_flipsBy 39 = .ok (.iload 5, 2) := by decide +kernel
theorem dX7_flipsBy_41 : decode cX7_flipsBy 41 = .ok (.iload_n 3, 1) := by decide +kernel
theorem dX7_flipsBy_42 : decode cX7_flipsBy 42 = .ok (.invokevirtual 56, 3) := by decide +kernel
theorem dX7_flipsBy_45 : decode cX7_flipsBy 45 = .ok (.aload_n 0, 1) := by decide +kernel
theorem dX7_flipsBy_46 : decode cX7_flipsBy 46 = .ok (.iload 5, 2) := by decide +kernel
theorem dX7_flipsBy_48 : decode cX7_flipsBy 48 = .ok (.invokevirtual 70, 3) := by decide +kernel
theorem dX7_flipsBy_51 : decode cX7_flipsBy 51 = .ok (.if_icmp .eq 10, 3) := by decide +kernel
theorem dX7_flipsBy_54 : decode cX7_flipsBy 54 = .ok (.iconst 1, 1) := by decide +kernel
theorem dX7_flipsBy_55 : decode cX7_flipsBy 55 = .ok (.iload 5, 2) := by decide +kernel
theorem dX7_flipsBy_57 : decode cX7_flipsBy 57 = .ok (.ishl, 1) := by decide +kernel
theorem dX7_flipsBy_58 : decode cX7_flipsBy 58 = .ok (.goto 4, 3) := by decide +kernel
theorem dX7_flipsBy_61 : decode cX7_flipsBy 61 = .ok (.iconst 0, 1) := by decide +kernel
theorem dX7_flipsBy_62 : decode cX7_flipsBy 62 = .ok (.ior, 1) := by decide +kernel
theorem dX7_flipsBy_63 : decode cX7_flipsBy 63 = .ok (.istore_n 2, 1) := by decide +kernel
theorem dX7_flipsBy_64 : decode cX7_flipsBy 64 = .ok (.aload_n 0, 1) := by decide +kernel
theorem dX7_flipsBy_65 : decode cX7_flipsBy 65 = .ok (.iload 5, 2) := by decide +kernel
theorem dX7_flipsBy_67 : decode cX7_flipsBy 67 = .ok (.iload_n 3, 1) := by decide +kernel
theorem dX7_flipsBy_68 : decode cX7_flipsBy 68 = .ok (.invokevirtual 63, 3) := by decide +kernel
theorem dX7_flipsBy_71 : decode cX7_flipsBy 71 = .ok (.istore_n 3, 1) := by decide +kernel
theorem dX7_flipsBy_72 : decode cX7_flipsBy 72 = .ok (.iinc 4 1, 3) := by decide +kernel
theorem dX7_flipsBy_75 : decode cX7_flipsBy 75 = .ok (.goto (-58), 3) := by decide +kernel
theorem dX7_flipsBy_78 : decode cX7_flipsBy 78 = .ok (.iload_n 2, 1) := by decide +kernel
theorem dX7_flipsBy_79 : decode cX7_flipsBy 79 = .ok (.ireturn, 1) := by decide +kernel
theorem dX7_flips_0 : decode cX7_flips 0 = .ok (.iload_n 1, 1) := by decide +kernel
theorem dX7_flips_1 : decode cX7_flips 1 = .ok (.iconst 0, 1) := by decide +kernel
theorem dX7_flips_2 : decode cX7_flips 2 = .ok (.ldc 111, 2) := by decide +kernel
theorem dX7_flips_4 : decode cX7_flips 4 = .ok (.invokestatic 48, 3) := by decide +kernel
theorem dX7_flips_7 : decode cX7_flips 7 = .ok (.ifCond .eq 11, 3) := by decide +kernel
theorem dX7_flips_10 : decode cX7_flips 10 = .ok (.aload_n 0, 1) := by decide +kernel
theorem dX7_flips_11 : decode cX7_flips 11 = .ok (.iload_n 1, 1) := by decide +kernel
theorem dX7_flips_12 : decode cX7_flips 12 = .ok (.invokevirtual 162, 3) := by decide +kernel
theorem dX7_flips_15 : decode cX7_flips 15 = .ok (.goto 9, 3) := by decide +kernel
theorem dX7_flips_18 : decode cX7_flips 18 = .ok (.aload_n 0, 1) := by decide +kernel
theorem dX7_flips_19 : decode cX7_flips 19 = .ok (.bipush (-2), 2) := by decide +kernel
theorem dX7_flips_21 : decode cX7_flips 21 = .ok (.invokevirtual 41, 3) := by decide +kernel
theorem dX7_flips_24 : decode cX7_flips 24 = .ok (.ireturn, 1) := by decide +kernel
theorem dX7_seed_0 : decode cX7_seed 0 = .ok (.iload_n 1, 1) := by decide +kernel
theorem dX7_seed_1 : decode cX7_seed 1 = .ok (.iconst 0, 1) := by decide +kernel
theorem dX7_seed_2 : decode cX7_seed 2 = .ok (.ldc 111, 2) := by decide +kernel
theorem dX7_seed_4 : decode cX7_seed 4 = .ok (.invokestatic 48, 3) := by decide +kernel
theorem dX7_seed_7 : decode cX7_seed 7 = .ok (.ifCond .eq 11, 3) := by decide +kernel
theorem dX7_seed_10 : decode cX7_seed 10 = .ok (.aload_n 0, 1) := by decide +kernel
theorem dX7_seed_11 : decode cX7_seed 11 = .ok (.iload_n 2, 1) := by decide +kernel
theorem dX7_seed_12 : decode cX7_seed 12 = .ok (.invokevirtual 100, 3) := by decide +kernel
theorem dX7_seed_15 : decode cX7_seed 15 = .ok (.ifCond .ne 10, 3) := by decide +kernel
theorem dX7_seed_18 : decode cX7_seed 18 = .ok (.aload_n 0, 1) := by decide +kernel
theorem dX7_seed_19 : decode cX7_seed 19 = .ok (.bipush (-2), 2) := by decide +kernel
theorem dX7_seed_21 : decode cX7_seed 21 = .ok (.invokevirtual 41, 3) := by decide +kernel
theorem dX7_seed_24 : decode cX7_seed 24 = .ok (.ireturn, 1) := by decide +kernel
