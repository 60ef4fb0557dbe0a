theorem dX0_init_0 : decode cX0_init 0 = .ok (.aload_n 0, 1) := by decide +kernel
theorem dX0_init_1 : decode cX0_init 1 = .ok (.invokespecial 3, 3) := by decide +kernel
theorem dX0_init_4 : decode cX0_init 4 = .ok (.aload_n 0, 1) := by decide +kernel
theorem dX0_init_5 : decode cX0_init 5 = .ok (.bipush 75, 2) := by decide +kernel
theorem dX0_init_7 : decode cX0_init 7 = .ok (.newarray .int, 2) := by decide +kernel
theorem dX0_init_9 : decode cX0_init 9 = .ok (.putfield 9, 3) := by decide +kernel
theorem dX0_init_12 : decode cX0_init 12 = .ok (.aload_n 0, 1) := by decide +kernel
theorem dX0_init_13 : decode cX0_init 13 = .ok (.sipush 375, 3) := by decide +kernel
theorem dX0_init_16 : decode cX0_init 16 = .ok (.newarray .int, 2) := by decide +kernel
theorem dX0_init_18 : decode cX0_init 18 = .ok (.putfield 15, 3) := by decide +kernel
theorem dX0_init_21 : decode cX0_init 21 = .ok (.return_, 1) := by decide +kernel
theorem dX0_read_0 : decode cX0_read 0 = .ok (.aload_n 0, 1) := by decide +kernel
theorem dX0_read_1 : decode cX0_read 1 = .ok (.iconst 0, 1) := by decide +kernel
theorem dX0_read_2 : decode cX0_read 2 = .ok (.putfield 18, 3) := by decide +kernel
theorem dX0_read_5 : decode cX0_read 5 = .ok (.aload_n 0, 1) := by decide +kernel
theorem dX0_read_6 : decode cX0_read 6 = .ok (.iconst (-1), 1) := by decide +kernel
theorem dX0_read_7 : decode cX0_read 7 = .ok (.putfield 22, 3) := by decide +kernel
theorem dX0_read_10 : decode cX0_read 10 = .ok (.iconst 0, 1) := by decide +kernel
theorem dX0_read_11 : decode cX0_read 11 = .ok (.istore_n 2, 1) := by decide +kernel
theorem dX0_read_12 : decode cX0_read 12 = .ok (.iload_n 2, 1) := by decide +kernel
theorem dX0_read_13 : decode cX0_read 13 = .ok (.aload_n 1, 1) := by decide +kernel
theorem dX0_read_14 : decode cX0_read 14 = .ok (.getfield 25, 3) := by decide +kernel
theorem dX0_read_17 : decode cX0_read 17 = .ok (.if_icmp .ge 23, 3) := by decide +kernel
theorem dX0_read_20 : decode cX0_read 20 = .ok (.aload_n 0, 1) := by decide +kernel
theorem dX0_read_21 : decode cX0_read 21 = .ok (.aload_n 1, 1) := by decide +kernel
theorem dX0_read_22 : decode cX0_read 22 = .ok (.iload_n 2, 1) := by decide +kernel
theorem dX0_read_23 : decode cX0_read 23 = .ok (.invokevirtual 30, 3) := by decide +kernel
theorem dX0_read_26 : decode cX0_read 26 = .ok (.invokevirtual 34, 3) := by decide +kernel
theorem dX0_read_29 : decode cX0_read 29 = .ok (.ifCond .ne 5, 3) := by decide +kernel
theorem dX0_read_32 : decode cX0_read 32 = .ok (.iload_n 2, 1) := by decide +kernel
theorem dX0_read_33 : decode cX0_read 33 = .ok (.ireturn, 1) := by decide +kernel
theorem dX0_read_34 : decode cX0_read 34 = .ok (.iinc 2 1, 3) := by decide +kernel
theorem dX0_read_37 : decode cX0_read 37 = .ok (.goto (-25), 3) := by decide +kernel
theorem dX0_read_40 : decode cX0_read 40 = .ok (.aload_n 0, 1) := by decide +kernel
theorem dX0_read_41 : decode cX0_read 41 = .ok (.getfield 22, 3) := by decide +kernel
theorem dX0_read_44 : decode cX0_read 44 = .ok (.iconst (-1), 1) := by decide +kernel
theorem dX0_read_45 : decode cX0_read 45 = .ok (.if_icmp .ne 10, 3) := by decide +kernel
theorem dX0_read_48 : decode cX0_read 48 = .ok (.aload_n 0, 1) := by decide +kernel
theorem dX0_read_49 : decode cX0_read 49 = .ok (.getfield 18, 3) := by decide +kernel
theorem dX0_read_52 : decode cX0_read 52 = .ok (.ifCond .ne 10, 3) := by decide +kernel
theorem dX0_read_55 : decode cX0_read 55 = .ok (.aload_n 1, 1) := by decide +kernel
theorem dX0_read_56 : decode cX0_read 56 = .ok (.getfield 25, 3) := by decide +kernel
theorem dX0_read_59 : decode cX0_read 59 = .ok (.goto 4, 3) := by decide +kernel
theorem dX0_read_62 : decode cX0_read 62 = .ok (.iconst (-1), 1) := by decide +kernel
theorem dX0_read_63 : decode cX0_read 63 = .ok (.ireturn, 1) := by decide +kernel
theorem dX0_takes_0 : decode cX0_takes 0 = .ok (.iload_n 1, 1) := by decide +kernel
theorem dX0_takes_1 : decode cX0_takes 1 = .ok (.bipush 32, 2) := by decide +kernel
theorem dX0_takes_3 : decode cX0_takes 3 = .ok (.if_icmp .ne 10, 3) := by decide +kernel
theorem dX0_takes_6 : decode cX0_takes 6 = .ok (.aload_n 0, 1) := by decide +kernel
theorem dX0_takes_7 : decode cX0_takes 7 = .ok (.iconst 0, 1) := by decide +kernel
theorem dX0_takes_8 : decode cX0_takes 8 = .ok (.putfield 38, 3) := by decide +kernel
theorem dX0_takes_11 : decode cX0_takes 11 = .ok (.iconst 1, 1) := by decide +kernel
theorem dX0_takes_12 : decode cX0_takes 12 = .ok (.ireturn, 1) := by decide +kernel
theorem dX0_takes_13 : decode cX0_takes 13 = .ok (.aload_n 0, 1) := by decide +kernel
theorem dX0_takes_14 : decode cX0_takes 14 = .ok (.getfield 22, 3) := by decide +kernel
theorem dX0_takes_17 : decode cX0_takes 17 = .ok (.iconst (-1), 1) := by decide +kernel
theorem dX0_takes_18 : decode cX0_takes 18 = .ok (.if_icmp .ne 9, 3) := by decide +kernel
theorem dX0_takes_21 : decode cX0_takes 21 = .ok (.aload_n 0, 1) := by decide +kernel
theorem dX0_takes_22 : decode cX0_takes 22 = .ok (.iload_n 1, 1) := by decide +kernel
theorem dX0_takes_23 : decode cX0_takes 23 = .ok (.invokevirtual 41, 3) := by decide +kernel
theorem dX0_takes_26 : decode cX0_takes 26 = .ok (.ireturn, 1) := by decide +kernel
theorem dX0_takes_27 : decode cX0_takes 27 = .ok (.iload_n 1, 1) := by decide +kernel
theorem dX0_takes_28 : decode cX0_takes 28 = .ok (.bipush 59, 2) := by decide +kernel
theorem dX0_takes_30 : decode cX0_takes 30 = .ok (.if_icmp .ne 10, 3) := by decide +kernel
theorem dX0_takes_33 : decode cX0_takes 33 = .ok (.aload_n 0, 1) := by decide +kernel
theorem dX0_takes_34 : decode cX0_takes 34 = .ok (.invokevirtual 44, 3) := by decide +kernel
theorem dX0_takes_37 : decode cX0_takes 37 = .ok (.goto 8, 3) := by decide +kernel
theorem dX0_takes_40 : decode cX0_takes 40 = .ok (.aload_n 0, 1) := by decide +kernel
theorem dX0_takes_41 : decode cX0_takes 41 = .ok (.iload_n 1, 1) := by decide +kernel
theorem dX0_takes_42 : decode cX0_takes 42 = .ok (.invokevirtual 48, 3) := by decide +kernel
theorem dX0_takes_45 : decode cX0_takes 45 = .ok (.ireturn, 1) := by decide +kernel
theorem dX0_opensOrder_0 : decode cX0_opensOrder 0 = .ok (.aload_n 0, 1) := by decide +kernel
theorem dX0_opensOrder_1 : decode cX0_opensOrder 1 = .ok (.iload_n 1, 1) := by decide +kernel
theorem dX0_opensOrder_2 : decode cX0_opensOrder 2 = .ok (.invokestatic 51, 3) := by decide +kernel
theorem dX0_opensOrder_5 : decode cX0_opensOrder 5 = .ok (.putfield 22, 3) := by decide +kernel
theorem dX0_opensOrder_8 : decode cX0_opensOrder 8 = .ok (.aload_n 0, 1) := by decide +kernel
theorem dX0_opensOrder_9 : decode cX0_opensOrder 9 = .ok (.getfield 22, 3) := by decide +kernel
theorem dX0_opensOrder_12 : decode cX0_opensOrder 12 = .ok (.iconst (-1), 1) := by decide +kernel
theorem dX0_opensOrder_13 : decode cX0_opensOrder 13 = .ok (.if_icmp .eq 22, 3) := by decide +kernel
theorem dX0_opensOrder_16 : decode cX0_opensOrder 16 = .ok (.aload_n 0, 1) := by decide +kernel
theorem dX0_opensOrder_17 : decode cX0_opensOrder 17 = .ok (.getfield 18, 3) := by decide +kernel
theorem dX0_opensOrder_20 : decode cX0_opensOrder 20 = .ok (.ifCond .lt 15, 3) := by decide +kernel
theorem dX0_opensOrder_23 : decode cX0_opensOrder 23 = .ok (.aload_n 0, 1) := by decide +kernel
theorem dX0_opensOrder_24 : decode cX0_opensOrder 24 = .ok (.getfield 18, 3) := by decide +kernel
theorem dX0_opensOrder_27 : decode cX0_opensOrder 27 = .ok (.aload_n 0, 1) := by decide +kernel
theorem dX0_opensOrder_28 : decode cX0_opensOrder 28 = .ok (.getfield 9, 3) := by decide +kernel
theorem dX0_opensOrder_31 : decode cX0_opensOrder 31 = .ok (.arraylength, 1) := by decide +kernel
theorem dX0_opensOrder_32 : decode cX0_opensOrder 32 = .ok (.if_icmp .lt 5, 3) := by decide +kernel
theorem dX0_opensOrder_35 : decode cX0_opensOrder 35 = .ok (.iconst 0, 1) := by decide +kernel
theorem dX0_opensOrder_36 : decode cX0_opensOrder 36 = .ok (.ireturn, 1) := by decide +kernel
theorem dX0_opensOrder_37 : decode cX0_opensOrder 37 = .ok (.aload_n 0, 1) := by decide +kernel
theorem dX0_opensOrder_38 : decode cX0_opensOrder 38 = .ok (.getfield 9, 3) := by decide +kernel
theorem dX0_opensOrder_41 : decode cX0_opensOrder 41 = .ok (.aload_n 0, 1) := by decide +kernel
theorem dX0_opensOrder_42 : decode cX0_opensOrder 42 = .ok (.getfield 18, 3) := by decide +kernel
theorem dX0_opensOrder_45 : decode cX0_opensOrder 45 = .ok (.iload_n 1, 1) := by decide +kernel
theorem dX0_opensOrder_46 : decode cX0_opensOrder 46 = .ok (.iastore, 1) := by decide +kernel
theorem dX0_opensOrder_47 : decode cX0_opensOrder 47 = .ok (.aload_n 0, 1) := by decide +kernel
theorem dX0_opensOrder_48 : decode cX0_opensOrder 48 = .ok (.iconst 0, 1) := by decide +kernel
theorem dX0_opensOrder_49 : decode cX0_opensOrder 49 = .ok (.putfield 54, 3) := by decide +kernel
theorem dX0_opensOrder_52 : decode cX0_opensOrder 52 = .ok (.aload_n 0, 1) := by decide +kernel
theorem dX0_opensOrder_53 : decode cX0_opensOrder 53 = .ok (.iconst 0, 1) := by decide +kernel
theorem dX0_opensOrder_54 : decode cX0_opensOrder 54 = .ok (.putfield 38, 3) := by decide +kernel
theorem dX0_opensOrder_57 : decode cX0_opensOrder 57 = .ok (.iconst 1, 1) := by decide +kernel
theorem dX0_opensOrder_58 : decode cX0_opensOrder 58 = .ok (.ireturn, 1) := by decide +kernel
theorem dX0_endsOrder_0 : decode cX0_endsOrder 0 = .ok (.aload_n 0, 1) := by decide +kernel
theorem dX0_endsOrder_1 : decode cX0_endsOrder 1 = .ok (.getfield 54, 3) := by decide +kernel
theorem dX0_endsOrder_4 : decode cX0_endsOrder 4 = .ok (.aload_n 0, 1) := by decide +kernel
theorem dX0_endsOrder_5 : decode cX0_endsOrder 5 = .ok (.getfield 22, 3) := by decide +kernel
theorem dX0_endsOrder_8 : decode cX0_endsOrder 8 = .ok (.if_icmp .ge 5, 3) := by decide +kernel
theorem dX0_endsOrder_11 : decode cX0_endsOrder 11 = .ok (.iconst 0, 1) := by decide +kernel
theorem dX0_endsOrder_12 : decode cX0_endsOrder 12 = .ok (.ireturn, 1) := by decide +kernel
theorem dX0_endsOrder_13 : decode cX0_endsOrder 13 = .ok (.aload_n 0, 1) := by decide +kernel
theorem dX0_endsOrder_14 : decode cX0_endsOrder 14 = .ok (.dup, 1) := by decide +kernel
theorem dX0_endsOrder_15 : decode cX0_endsOrder 15 = .ok (.getfield 18, 3) := by decide +kernel
theorem dX0_endsOrder_18 : decode cX0_endsOrder 18 = .ok (.iconst 1, 1) := by decide +kernel
theorem dX0_endsOrder_19 : decode cX0_endsOrder 19 = .ok (.iadd, 1) := by decide +kernel
theorem dX0_endsOrder_20 : decode cX0_endsOrder 20 = .ok (.putfield 18, 3) := by decide +kernel
theorem dX0_endsOrder_23 : decode cX0_endsOrder 23 = .ok (.aload_n 0, 1) := by decide +kernel
theorem dX0_endsOrder_24 : decode cX0_endsOrder 24 = .ok (.iconst (-1), 1) := by decide +kernel
theorem dX0_endsOrder_25 : decode cX0_endsOrder 25 = .ok (.putfield 22, 3) := by decide +kernel
theorem dX0_endsOrder_28 : decode cX0_endsOrder 28 = .ok (.iconst 1, 1) := by decide +kernel
theorem dX0_endsOrder_29 : decode cX0_endsOrder 29 = .ok (.ireturn, 1) := by decide +kernel
theorem dX0_takesFigure_0 : decode cX0_takesFigure 0 = .ok (.iload_n 1, 1) := by decide +kernel
theorem dX0_takesFigure_1 : decode cX0_takesFigure 1 = .ok (.bipush 48, 2) := by decide +kernel
theorem dX0_takesFigure_3 : decode cX0_takesFigure 3 = .ok (.if_icmp .lt 35, 3) := by decide +kernel
theorem dX0_takesFigure_6 : decode cX0_takesFigure 6 = .ok (.iload_n 1, 1) := by decide +kernel
theorem dX0_takesFigure_7 : decode cX0_takesFigure 7 = .ok (.bipush 57, 2) := by decide +kernel
theorem dX0_takesFigure_9 : decode cX0_takesFigure 9 = .ok (.if_icmp .gt 29, 3) := by decide +kernel
theorem dX0_takesFigure_12 : decode cX0_takesFigure 12 = .ok (.aload_n 0, 1) := by decide +kernel
theorem dX0_takesFigure_13 : decode cX0_takesFigure 13 = .ok (.getfield 38, 3) := by decide +kernel
theorem dX0_takesFigure_16 : decode cX0_takesFigure 16 = .ok (.iconst 2, 1) := by decide +kernel
theorem dX0_takesFigure_17 : decode cX0_takesFigure 17 = .ok (.if_icmp .eq 21, 3) := by decide +kernel
theorem dX0_takesFigure_20 : decode cX0_takesFigure 20 = .ok (.aload_n 0, 1) := by decide +kernel
theorem dX0_takesFigure_21 : decode cX0_takesFigure 21 = .ok (.getfield 38, 3) := by decide +kernel
theorem dX0_takesFigure_24 : decode cX0_takesFigure 24 = .ok (.ifCond .ne 16, 3) := by decide +kernel
theorem dX0_takesFigure_27 : decode cX0_takesFigure 27 = .ok (.aload_n 0, 1) := by decide +kernel
theorem dX0_takesFigure_28 : decode cX0_takesFigure 28 = .ok (.getfield 54, 3) := by decide +kernel
theorem dX0_takesFigure_31 : decode cX0_takesFigure 31 = .ok (.aload_n 0, 1) := by decide +kernel
theorem dX0_takesFigure_32 : decode cX0_takesFigure 32 = .ok (.getfield 22, 3) := by decide +kernel
theorem dX0_takesFigure_35 : decode cX0_takesFigure 35 = .ok (.if_icmp .ne 5, 3) := by decide +kernel
theorem dX0_takesFigure_38 : decode cX0_takesFigure 38 = .ok (.iconst 0, 1) := by decide +kernel
theorem dX0_takesFigure_39 : decode cX0_takesFigure 39 = .ok (.ireturn, 1) := by decide +kernel
theorem dX0_takesFigure_40 : decode cX0_takesFigure 40 = .ok (.aload_n 0, 1) := by decide +kernel
theorem dX0_takesFigure_41 : decode cX0_takesFigure 41 = .ok (.getfield 38, 3) := by decide +kernel
theorem dX0_takesFigure_44 : decode cX0_takesFigure 44 = .ok (.ifCond .ne 24, 3) := by decide +kernel
theorem dX0_takesFigure_47 : decode cX0_takesFigure 47 = .ok (.aload_n 0, 1) := by decide +kernel
theorem dX0_takesFigure_48 : decode cX0_takesFigure 48 = .ok (.dup, 1) := by decide +kernel
theorem dX0_takesFigure_49 : decode cX0_takesFigure 49 = .ok (.getfield 54, 3) := by decide +kernel
theorem dX0_takesFigure_52 : decode cX0_takesFigure 52 = .ok (.iconst 1, 1) := by decide +kernel
theorem dX0_takesFigure_53 : decode cX0_takesFigure 53 = .ok (.iadd, 1) := by decide +kernel
theorem dX0_takesFigure_54 : decode cX0_takesFigure 54 = .ok (.putfield 54, 3) := by decide +kernel
theorem dX0_takesFigure_57 : decode cX0_takesFigure 57 = .ok (.aload_n 0, 1) := by decide +kernel
theorem dX0_takesFigure_58 : decode cX0_takesFigure 58 = .ok (.iload_n 1, 1) := by decide +kernel
theorem dX0_takesFigure_59 : decode cX0_takesFigure 59 = .ok (.bipush 48, 2) := by decide +kernel
theorem dX0_takesFigure_61 : decode cX0_takesFigure 61 = .ok (.isub, 1) := by decide +kernel
theorem dX0_takesFigure_62 : decode cX0_takesFigure 62 = .ok (.invokevirtual 57, 3) := by decide +kernel
theorem dX0_takesFigure_65 : decode cX0_takesFigure 65 = .ok (.goto 29, 3) := by decide +kernel
theorem dX0_takesFigure_68 : decode cX0_takesFigure 68 = .ok (.aload_n 0, 1) := by decide +kernel
theorem dX0_takesFigure_69 : decode cX0_takesFigure 69 = .ok (.bipush 10, 2) := by decide +kernel
theorem dX0_takesFigure_71 : decode cX0_takesFigure 71 = .ok (.aload_n 0, 1) := by decide +kernel
theorem dX0_takesFigure_72 : decode cX0_takesFigure 72 = .ok (.aload_n 0, 1) := by decide +kernel
theorem dX0_takesFigure_73 : decode cX0_takesFigure 73 = .ok (.getfield 18, 3) := by decide +kernel
theorem dX0_takesFigure_76 : decode cX0_takesFigure 76 = .ok (.aload_n 0, 1) := by decide +kernel
theorem dX0_takesFigure_77 : decode cX0_takesFigure 77 = .ok (.getfield 54, 3) := by decide +kernel
theorem dX0_takesFigure_80 : decode cX0_takesFigure 80 = .ok (.iconst 1, 1) := by decide +kernel
theorem dX0_takesFigure_81 : decode cX0_takesFigure 81 = .ok (.isub, 1) := by decide +kernel
theorem dX0_takesFigure_82 : decode cX0_takesFigure 82 = .ok (.invokevirtual 61, 3) := by decide +kernel
theorem dX0_takesFigure_85 : decode cX0_takesFigure 85 = .ok (.imul, 1) := by decide +kernel
theorem dX0_takesFigure_86 : decode cX0_takesFigure 86 = .ok (.iload_n 1, 1) := by decide +kernel
theorem dX0_takesFigure_87 : decode cX0_takesFigure 87 = .ok (.iadd, 1) := by decide +kernel
theorem dX0_takesFigure_88 : decode cX0_takesFigure 88 = .ok (.bipush 48, 2) := by decide +kernel
theorem dX0_takesFigure_90 : decode cX0_takesFigure 90 = .ok (.isub, 1) := by decide +kernel
theorem dX0_takesFigure_91 : decode cX0_takesFigure 91 = .ok (.invokevirtual 57, 3) := by decide +kernel
theorem dX0_takesFigure_94 : decode cX0_takesFigure 94 = .ok (.aload_n 0, 1) := by decide +kernel
theorem dX0_takesFigure_95 : decode cX0_takesFigure 95 = .ok (.dup, 1) := by decide +kernel
theorem dX0_takesFigure_96 : decode cX0_takesFigure 96 = .ok (.getfield 38, 3) := by decide +kernel
theorem dX0_takesFigure_99 : decode cX0_takesFigure 99 = .ok (.iconst 1, 1) := by decide +kernel
theorem dX0_takesFigure_100 : decode cX0_takesFigure 100 = .ok (.iadd, 1) := by decide +kernel
theorem dX0_takesFigure_101 : decode cX0_takesFigure 101 = .ok (.putfield 38, 3) := by decide +kernel
theorem dX0_takesFigure_104 : decode cX0_takesFigure 104 = .ok (.iconst 1, 1) := by decide +kernel
theorem dX0_takesFigure_105 : decode cX0_takesFigure 105 = .ok (.ireturn, 1) := by decide +kernel
theorem dX0_setNumber_0 : decode cX0_setNumber 0 = .ok (.aload_n 0, 1) := by decide +kernel
theorem dX0_setNumber_1 : decode cX0_setNumber 1 = .ok (.getfield 18, 3) := by decide +kernel
theorem dX0_setNumber_4 : decode cX0_setNumber 4 = .ok (.iconst 5, 1) := by decide +kernel
theorem dX0_setNumber_5 : decode cX0_setNumber 5 = .ok (.imul, 1) := by decide +kernel
theorem dX0_setNumber_6 : decode cX0_setNumber 6 = .ok (.aload_n 0, 1) := by decide +kernel
theorem dX0_setNumber_7 : decode cX0_setNumber 7 = .ok (.getfield 54, 3) := by decide +kernel
theorem dX0_setNumber_10 : decode cX0_setNumber 10 = .ok (.iadd, 1) := by decide +kernel
theorem dX0_setNumber_11 : decode cX0_setNumber 11 = .ok (.iconst 1, 1) := by decide +kernel
theorem dX0_setNumber_12 : decode cX0_setNumber 12 = .ok (.isub, 1) := by decide +kernel
theorem dX0_setNumber_13 : decode cX0_setNumber 13 = .ok (.istore_n 2, 1) := by decide +kernel
theorem dX0_setNumber_14 : decode cX0_setNumber 14 = .ok (.iload_n 2, 1) := by decide +kernel
theorem dX0_setNumber_15 : decode cX0_setNumber 15 = .ok (.ifCond .lt 19, 3) := by decide +kernel
theorem dX0_setNumber_18 : decode cX0_setNumber 18 = .ok (.iload_n 2, 1) := by decide +kernel
theorem dX0_setNumber_19 : decode cX0_setNumber 19 = .ok (.aload_n 0, 1) := by decide +kernel
theorem dX0_setNumber_20 : decode cX0_setNumber 20 = .ok (.getfield 15, 3) := by decide +kernel
theorem dX0_setNumber_23 : decode cX0_setNumber 23 = .ok (.arraylength, 1) := by decide +kernel
theorem dX0_setNumber_24 : decode cX0_setNumber 24 = .ok (.if_icmp .ge 10, 3) := by decide +kernel
theorem dX0_setNumber_27 : decode cX0_setNumber 27 = .ok (.aload_n 0, 1) := by decide +kernel
theorem dX0_setNumber_28 : decode cX0_setNumber 28 = .ok (.getfield 15, 3) := by decide +kernel
theorem dX0_setNumber_31 : decode cX0_setNumber 31 = .ok (.iload_n 2, 1) := by decide +kernel
theorem dX0_setNumber_32 : decode cX0_setNumber 32 = .ok (.iload_n 1, 1) := by decide +kernel
theorem dX0_setNumber_33 : decode cX0_setNumber 33 = .ok (.iastore, 1) := by decide +kernel
theorem dX0_setNumber_34 : decode cX0_setNumber 34 = .ok (.return_, 1) := by decide +kernel
theorem dX0_numbersOf_0 : decode cX0_numbersOf 0 = .ok (.iload_n 0, 1) := by decide +kernel
theorem dX0_numbersOf_1 : decode cX0_numbersOf 1 = .ok (.lookupswitch 65 #[(99, 63), (109, 61), (114, 61), (115, 61), (116, 59), (119, 63)], 59) := by decide +kernel
theorem dX0_numbersOf_60 : decode cX0_numbersOf 60 = .ok (.iconst 5, 1) := by decide +kernel
theorem dX0_numbersOf_61 : decode cX0_numbersOf 61 = .ok (.ireturn, 1) := by decide +kernel
theorem dX0_numbersOf_62 : decode cX0_numbersOf 62 = .ok (.iconst 1, 1) := by decide +kernel
theorem dX0_numbersOf_63 : decode cX0_numbersOf 63 = .ok (.ireturn, 1) := by decide +kernel
theorem dX0_numbersOf_64 : decode cX0_numbersOf 64 = .ok (.iconst 0, 1) := by decide +kernel
theorem dX0_numbersOf_65 : decode cX0_numbersOf 65 = .ok (.ireturn, 1) := by decide +kernel
theorem dX0_numbersOf_66 : decode cX0_numbersOf 66 = .ok (.iconst (-1), 1) := by decide +kernel
theorem dX0_numbersOf_67 : decode cX0_numbersOf 67 = .ok (.ireturn, 1) := by decide +kernel
theorem dX0_letter_0 : decode cX0_letter 0 = .ok (.iload_n 1, 1) := by decide +kernel
theorem dX0_letter_1 : decode cX0_letter 1 = .ok (.ifCond .lt 21, 3) := by decide +kernel
theorem dX0_letter_4 : decode cX0_letter 4 = .ok (.iload_n 1, 1) := by decide +kernel
theorem dX0_letter_5 : decode cX0_letter 5 = .ok (.aload_n 0, 1) := by decide +kernel
theorem dX0_letter_6 : decode cX0_letter 6 = .ok (.getfield 9, 3) := by decide +kernel
theorem dX0_letter_9 : decode cX0_letter 9 = .ok (.arraylength, 1) := by decide +kernel
theorem dX0_letter_10 : decode cX0_letter 10 = .ok (.if_icmp .ge 12, 3) := by decide +kernel
theorem dX0_letter_13 : decode cX0_letter 13 = .ok (.aload_n 0, 1) := by decide +kernel
theorem dX0_letter_14 : decode cX0_letter 14 = .ok (.getfield 9, 3) := by decide +kernel
theorem dX0_letter_17 : decode cX0_letter 17 = .ok (.iload_n 1, 1) := by decide +kernel
theorem dX0_letter_18 : decode cX0_letter 18 = .ok (.iaload, 1) := by decide +kernel
theorem dX0_letter_19 : decode cX0_letter 19 = .ok (.goto 4, 3) := by decide +kernel
theorem dX0_letter_22 : decode cX0_letter 22 = .ok (.iconst (-1), 1) := by decide +kernel
theorem dX0_letter_23 : decode cX0_letter 23 = .ok (.ireturn, 1) := by decide +kernel
theorem dX0_number_0 : decode cX0_number 0 = .ok (.iload_n 1, 1) := by decide +kernel
theorem dX0_number_1 : decode cX0_number 1 = .ok (.iconst 5, 1) := by decide +kernel
theorem dX0_number_2 : decode cX0_number 2 = .ok (.imul, 1) := by decide +kernel
theorem dX0_number_3 : decode cX0_number 3 = .ok (.iload_n 2, 1) := by decide +kernel
theorem dX0_number_4 : decode cX0_number 4 = .ok (.iadd, 1) := by decide +kernel
theorem dX0_number_5 : decode cX0_number 5 = .ok (.istore_n 3, 1) := by decide +kernel
theorem dX0_number_6 : decode cX0_number 6 = .ok (.iload_n 3, 1) := by decide +kernel
theorem dX0_number_7 : decode cX0_number 7 = .ok (.ifCond .lt 21, 3) := by decide +kernel
theorem dX0_number_10 : decode cX0_number 10 = .ok (.iload_n 3, 1) := by decide +kernel
theorem dX0_number_11 : decode cX0_number 11 = .ok (.aload_n 0, 1) := by decide +kernel
theorem dX0_number_12 : decode cX0_number 12 = .ok (.getfield 15, 3) := by decide +kernel
theorem dX0_number_15 : decode cX0_number 15 = .ok (.arraylength, 1) := by decide +kernel
theorem dX0_number_16 : decode cX0_number 16 = .ok (.if_icmp .ge 12, 3) := by decide +kernel
theorem dX0_number_19 : decode cX0_number 19 = .ok (.aload_n 0, 1) := by decide +kernel
theorem dX0_number_20 : decode cX0_number 20 = .ok (.getfield 15, 3) := by decide +kernel
theorem dX0_number_23 : decode cX0_number 23 = .ok (.iload_n 3, 1) := by decide +kernel
theorem dX0_number_24 : decode cX0_number 24 = .ok (.iaload, 1) := by decide +kernel
theorem dX0_number_25 : decode cX0_number 25 = .ok (.goto 4, 3) := by decide +kernel
theorem dX0_number_28 : decode cX0_number 28 = .ok (.iconst 0, 1) := by decide +kernel
theorem dX0_number_29 : decode cX0_number 29 = .ok (.ireturn, 1) := by decide +kernel
theorem dX1_init_0 : decode cX1_init 0 = .ok (.aload_n 0, 1) := by decide +kernel
theorem dX1_init_1 : decode cX1_init 1 = .ok (.invokespecial 3, 3) := by decide +kernel
theorem dX1_init_4 : decode cX1_init 4 = .ok (.aload_n 0, 1) := by decide +kernel
theorem dX1_init_5 : decode cX1_init 5 = .ok (.bipush 6, 2) := by decide +kernel
theorem dX1_init_7 : decode cX1_init 7 = .ok (.anewarray 11, 3) := by decide +kernel
theorem dX1_init_10 : decode cX1_init 10 = .ok (.putfield 13, 3) := by decide +kernel
theorem dX1_init_13 : decode cX1_init 13 = .ok (.iconst 0, 1) := by decide +kernel
theorem dX1_init_14 : decode cX1_init 14 = .ok (.istore_n 1, 1) := by decide +kernel
theorem dX1_init_15 : decode cX1_init 15 = .ok (.iload_n 1, 1) := by decide +kernel
theorem dX1_init_16 : decode cX1_init 16 = .ok (.aload_n 0, 1) := by decide +kernel
theorem dX1_init_17 : decode cX1_init 17 = .ok (.getfield 13, 3) := by decide +kernel
theorem dX1_init_20 : decode cX1_init 20 = .ok (.arraylength, 1) := by decide +kernel
theorem dX1_init_21 : decode cX1_init 21 = .ok (.if_icmp .ge 22, 3) := by decide +kernel
theorem dX1_init_24 : decode cX1_init 24 = .ok (.aload_n 0, 1) := by decide +kernel
theorem dX1_init_25 : decode cX1_init 25 = .ok (.getfield 13, 3) := by decide +kernel
theorem dX1_init_28 : decode cX1_init 28 = .ok (.iload_n 1, 1) := by decide +kernel
theorem dX1_init_29 : decode cX1_init 29 = .ok (.new 11, 3) := by decide +kernel
theorem dX1_init_32 : decode cX1_init 32 = .ok (.dup, 1) := by decide +kernel
theorem dX1_init_33 : decode cX1_init 33 = .ok (.invokespecial 17, 3) := by decide +kernel
theorem dX1_init_36 : decode cX1_init 36 = .ok (.aastore, 1) := by decide +kernel
theorem dX1_init_37 : decode cX1_init 37 = .ok (.iinc 1 1, 3) := by decide +kernel
theorem dX1_init_40 : decode cX1_init 40 = .ok (.goto (-25), 3) := by decide +kernel
theorem dX1_init_43 : decode cX1_init 43 = .ok (.return_, 1) := by decide +kernel
theorem dX1_markedSlot_0 : decode cX1_markedSlot 0 = .ok (.aload_n 0, 1) := by decide +kernel
theorem dX1_markedSlot_1 : decode cX1_markedSlot 1 = .ok (.getfield 18, 3) := by decide +kernel
theorem dX1_markedSlot_4 : decode cX1_markedSlot 4 = .ok (.ifCond .lt 27, 3) := by decide +kernel
theorem dX1_markedSlot_7 : decode cX1_markedSlot 7 = .ok (.aload_n 0, 1) := by decide +kernel
theorem dX1_markedSlot_8 : decode cX1_markedSlot 8 = .ok (.getfield 18, 3) := by decide +kernel
theorem dX1_markedSlot_11 : decode cX1_markedSlot 11 = .ok (.aload_n 0, 1) := by decide +kernel
theorem dX1_markedSlot_12 : decode cX1_markedSlot 12 = .ok (.getfield 13, 3) := by decide +kernel
theorem dX1_markedSlot_15 : decode cX1_markedSlot 15 = .ok (.arraylength, 1) := by decide +kernel
theorem dX1_markedSlot_16 : decode cX1_markedSlot 16 = .ok (.if_icmp .ge 15, 3) := by decide +kernel
theorem dX1_markedSlot_19 : decode cX1_markedSlot 19 = .ok (.aload_n 0, 1) := by decide +kernel
theorem dX1_markedSlot_20 : decode cX1_markedSlot 20 = .ok (.getfield 13, 3) := by decide +kernel
theorem dX1_markedSlot_23 : decode cX1_markedSlot 23 = .ok (.aload_n 0, 1) := by decide +kernel
theorem dX1_markedSlot_24 : decode cX1_markedSlot 24 = .ok (.getfield 18, 3) := by decide +kernel
theorem dX1_markedSlot_27 : decode cX1_markedSlot 27 = .ok (.aaload, 1) := by decide +kernel
theorem dX1_markedSlot_28 : decode cX1_markedSlot 28 = .ok (.goto 4, 3) := by decide +kernel
theorem dX1_markedSlot_31 : decode cX1_markedSlot 31 = .ok (.aconst_null, 1) := by decide +kernel
theorem dX1_markedSlot_32 : decode cX1_markedSlot 32 = .ok (.areturn, 1) := by decide +kernel
theorem dX1_mark_0 : decode cX1_mark 0 = .ok (.aload_n 0, 1) := by decide +kernel
theorem dX1_mark_1 : decode cX1_mark 1 = .ok (.invokevirtual 22, 3) := by decide +kernel
theorem dX1_mark_4 : decode cX1_mark 4 = .ok (.astore_n 2, 1) := by decide +kernel
theorem dX1_mark_5 : decode cX1_mark 5 = .ok (.aload_n 2, 1) := by decide +kernel
theorem dX1_mark_6 : decode cX1_mark 6 = .ok (.ifnull 8, 3) := by decide +kernel
theorem dX1_mark_9 : decode cX1_mark 9 = .ok (.aload_n 2, 1) := by decide +kernel
theorem dX1_mark_10 : decode cX1_mark 10 = .ok (.aload_n 1, 1) := by decide +kernel
theorem dX1_mark_11 : decode cX1_mark 11 = .ok (.invokevirtual 26, 3) := by decide +kernel
theorem dX1_mark_14 : decode cX1_mark 14 = .ok (.return_, 1) := by decide +kernel
theorem dX1_recall_0 : decode cX1_recall 0 = .ok (.aload_n 0, 1) := by decide +kernel
theorem dX1_recall_1 : decode cX1_recall 1 = .ok (.invokevirtual 22, 3) := by decide +kernel
theorem dX1_recall_4 : decode cX1_recall 4 = .ok (.astore_n 2, 1) := by decide +kernel
theorem dX1_recall_5 : decode cX1_recall 5 = .ok (.aload_n 2, 1) := by decide +kernel
theorem dX1_recall_6 : decode cX1_recall 6 = .ok (.ifnull 8, 3) := by decide +kernel
theorem dX1_recall_9 : decode cX1_recall 9 = .ok (.aload_n 1, 1) := by decide +kernel
theorem dX1_recall_10 : decode cX1_recall 10 = .ok (.aload_n 2, 1) := by decide +kernel
theorem dX1_recall_11 : decode cX1_recall 11 = .ok (.invokevirtual 26, 3) := by decide +kernel
theorem dX1_recall_14 : decode cX1_recall 14 = .ok (.return_, 1) := by decide +kernel
theorem dX1_keep_0 : decode cX1_keep 0 = .ok (.aload_n 0, 1) := by decide +kernel
theorem dX1_keep_1 : decode cX1_keep 1 = .ok (.aload_n 0, 1) := by decide +kernel
theorem dX1_keep_2 : decode cX1_keep 2 = .ok (.getfield 18, 3) := by decide +kernel
theorem dX1_keep_5 : decode cX1_keep 5 = .ok (.iconst 1, 1) := by decide +kernel
theorem dX1_keep_6 : decode cX1_keep 6 = .ok (.iadd, 1) := by decide +kernel
theorem dX1_keep_7 : decode cX1_keep 7 = .ok (.bipush 6, 2) := by decide +kernel
theorem dX1_keep_9 : decode cX1_keep 9 = .ok (.irem, 1) := by decide +kernel
theorem dX1_keep_10 : decode cX1_keep 10 = .ok (.putfield 18, 3) := by decide +kernel
theorem dX1_keep_13 : decode cX1_keep 13 = .ok (.aload_n 0, 1) := by decide +kernel
theorem dX1_keep_14 : decode cX1_keep 14 = .ok (.aload_n 0, 1) := by decide +kernel
theorem dX1_keep_15 : decode cX1_keep 15 = .ok (.getfield 30, 3) := by decide +kernel
theorem dX1_keep_18 : decode cX1_keep 18 = .ok (.iconst 1, 1) := by decide +kernel
theorem dX1_keep_19 : decode cX1_keep 19 = .ok (.iadd, 1) := by decide +kernel
theorem dX1_keep_20 : decode cX1_keep 20 = .ok (.iconst 5, 1) := by decide +kernel
theorem dX1_keep_21 : decode cX1_keep 21 = .ok (.invokestatic 33, 3) := by decide +kernel
theorem dX1_keep_24 : decode cX1_keep 24 = .ok (.putfield 30, 3) := by decide +kernel
theorem dX1_keep_27 : decode cX1_keep 27 = .ok (.return_, 1) := by decide +kernel
theorem dX1_stepBack_0 : decode cX1_stepBack 0 = .ok (.aload_n 0, 1) := by decide +kernel
theorem dX1_stepBack_1 : decode cX1_stepBack 1 = .ok (.getfield 30, 3) := by decide +kernel
theorem dX1_stepBack_4 : decode cX1_stepBack 4 = .ok (.ifCond .le 34, 3) := by decide +kernel
theorem dX1_stepBack_7 : decode cX1_stepBack 7 = .ok (.aload_n 0, 1) := by decide +kernel
theorem dX1_stepBack_8 : decode cX1_stepBack 8 = .ok (.dup, 1) := by decide +kernel
theorem dX1_stepBack_9 : decode cX1_stepBack 9 = .ok (.getfield 30, 3) := by decide +kernel
theorem dX1_stepBack_12 : decode cX1_stepBack 12 = .ok (.iconst 1, 1) := by decide +kernel
theorem dX1_stepBack_13 : decode cX1_stepBack 13 = .ok (.isub, 1) := by decide +kernel
theorem dX1_stepBack_14 : decode cX1_stepBack 14 = .ok (.putfield 30, 3) := by decide +kernel
theorem dX1_stepBack_17 : decode cX1_stepBack 17 = .ok (.aload_n 0, 1) := by decide +kernel
theorem dX1_stepBack_18 : decode cX1_stepBack 18 = .ok (.aload_n 0, 1) := by decide +kernel
theorem dX1_stepBack_19 : decode cX1_stepBack 19 = .ok (.getfield 18, 3) := by decide +kernel
theorem dX1_stepBack_22 : decode cX1_stepBack 22 = .ok (.bipush 6, 2) := by decide +kernel
theorem dX1_stepBack_24 : decode cX1_stepBack 24 = .ok (.iadd, 1) := by decide +kernel
theorem dX1_stepBack_25 : decode cX1_stepBack 25 = .ok (.iconst 1, 1) := by decide +kernel
theorem dX1_stepBack_26 : decode cX1_stepBack 26 = .ok (.isub, 1) := by decide +kernel
theorem dX1_stepBack_27 : decode cX1_stepBack 27 = .ok (.bipush 6, 2) := by decide +kernel
theorem dX1_stepBack_29 : decode cX1_stepBack 29 = .ok (.irem, 1) := by decide +kernel
theorem dX1_stepBack_30 : decode cX1_stepBack 30 = .ok (.putfield 18, 3) := by decide +kernel
theorem dX1_stepBack_33 : decode cX1_stepBack 33 = .ok (.aload_n 0, 1) := by decide +kernel
theorem dX1_stepBack_34 : decode cX1_stepBack 34 = .ok (.aload_n 1, 1) := by decide +kernel
theorem dX1_stepBack_35 : decode cX1_stepBack 35 = .ok (.invokevirtual 39, 3) := by decide +kernel
theorem dX1_stepBack_38 : decode cX1_stepBack 38 = .ok (.aload_n 0, 1) := by decide +kernel
theorem dX1_stepBack_39 : decode cX1_stepBack 39 = .ok (.getfield 30, 3) := by decide +kernel
theorem dX1_stepBack_42 : decode cX1_stepBack 42 = .ok (.ireturn, 1) := by decide +kernel
theorem dX2_least_0 : decode cX2_least 0 = .ok (.iload_n 1, 1) := by decide +kernel
theorem dX2_least_1 : decode cX2_least 1 = .ok (.istore_n 3, 1) := by decide +kernel
theorem dX2_least_2 : decode cX2_least 2 = .ok (.iconst 1, 1) := by decide +kernel
theorem dX2_least_3 : decode cX2_least 3 = .ok (.istore 4, 2) := by decide +kernel
theorem dX2_least_5 : decode cX2_least 5 = .ok (.iconst 0, 1) := by decide +kernel
theorem dX2_least_6 : decode cX2_least 6 = .ok (.istore 5, 2) := by decide +kernel
theorem dX2_least_8 : decode cX2_least 8 = .ok (.iload 5, 2) := by decide +kernel
theorem dX2_least_10 : decode cX2_least 10 = .ok (.bipush 8, 2) := by decide +kernel
theorem dX2_least_12 : decode cX2_least 12 = .ok (.if_icmp .gt 84, 3) := by decide +kernel
theorem dX2_least_15 : decode cX2_least 15 = .ok (.iload 4, 2) := by decide +kernel
theorem dX2_least_17 : decode cX2_least 17 = .ok (.ifCond .eq 79, 3) := by decide +kernel
theorem dX2_least_20 : decode cX2_least 20 = .ok (.iconst 0, 1) := by decide +kernel
theorem dX2_least_21 : decode cX2_least 21 = .ok (.istore 4, 2) := by decide +kernel
theorem dX2_least_23 : decode cX2_least 23 = .ok (.iconst 0, 1) := by decide +kernel
theorem dX2_least_24 : decode cX2_least 24 = .ok (.istore 6, 2) := by decide +kernel
theorem dX2_least_26 : decode cX2_least 26 = .ok (.iload 6, 2) := by decide +kernel
theorem dX2_least_28 : decode cX2_least 28 = .ok (.aload_n 0, 1) := by decide +kernel
theorem dX2_least_29 : decode cX2_least 29 = .ok (.getfield 9, 3) := by decide +kernel
theorem dX2_least_32 : decode cX2_least 32 = .ok (.getfield 15, 3) := by decide +kernel
theorem dX2_least_35 : decode cX2_least 35 = .ok (.if_icmp .ge 55, 3) := by decide +kernel
theorem dX2_least_38 : decode cX2_least 38 = .ok (.aload_n 0, 1) := by decide +kernel
theorem dX2_least_39 : decode cX2_least 39 = .ok (.getfield 9, 3) := by decide +kernel
theorem dX2_least_42 : decode cX2_least 42 = .ok (.iload 6, 2) := by decide +kernel
theorem dX2_least_44 : decode cX2_least 44 = .ok (.invokevirtual 21, 3) := by decide +kernel
theorem dX2_least_47 : decode cX2_least 47 = .ok (.istore 7, 2) := by decide +kernel
theorem dX2_least_49 : decode cX2_least 49 = .ok (.iload_n 3, 1) := by decide +kernel
theorem dX2_least_50 : decode cX2_least 50 = .ok (.iconst 1, 1) := by decide +kernel
theorem dX2_least_51 : decode cX2_least 51 = .ok (.iload 7, 2) := by decide +kernel
theorem dX2_least_53 : decode cX2_least 53 = .ok (.ishl, 1) := by decide +kernel
theorem dX2_least_54 : decode cX2_least 54 = .ok (.iconst (-1), 1) := by decide +kernel
theorem dX2_least_55 : decode cX2_least 55 = .ok (.ixor, 1) := by decide +kernel
theorem dX2_least_56 : decode cX2_least 56 = .ok (.iand, 1) := by decide +kernel
theorem dX2_least_57 : decode cX2_least 57 = .ok (.istore 8, 2) := by decide +kernel
theorem dX2_least_59 : decode cX2_least 59 = .ok (.iload 7, 2) := by decide +kernel
theorem dX2_least_61 : decode cX2_least 61 = .ok (.iload_n 3, 1) := by decide +kernel
theorem dX2_least_62 : decode cX2_least 62 = .ok (.invokestatic 25, 3) := by decide +kernel
theorem dX2_least_65 : decode cX2_least 65 = .ok (.ifCond .eq 19, 3) := by decide +kernel
theorem dX2_least_68 : decode cX2_least 68 = .ok (.aload_n 0, 1) := by decide +kernel
theorem dX2_least_69 : decode cX2_least 69 = .ok (.iload 8, 2) := by decide +kernel
theorem dX2_least_71 : decode cX2_least 71 = .ok (.iload_n 2, 1) := by decide +kernel
theorem dX2_least_72 : decode cX2_least 72 = .ok (.invokevirtual 29, 3) := by decide +kernel
theorem dX2_least_75 : decode cX2_least 75 = .ok (.ifCond .eq 9, 3) := by decide +kernel
theorem dX2_least_78 : decode cX2_least 78 = .ok (.iload 8, 2) := by decide +kernel
theorem dX2_least_80 : decode cX2_least 80 = .ok (.istore_n 3, 1) := by decide +kernel
theorem dX2_least_81 : decode cX2_least 81 = .ok (.iconst 1, 1) := by decide +kernel
theorem dX2_least_82 : decode cX2_least 82 = .ok (.istore 4, 2) := by decide +kernel
theorem dX2_least_84 : decode cX2_least 84 = .ok (.iinc 6 1, 3) := by decide +kernel
theorem dX2_least_87 : decode cX2_least 87 = .ok (.goto (-61), 3) := by decide +kernel
theorem dX2_least_90 : decode cX2_least 90 = .ok (.iinc 5 1, 3) := by decide +kernel
theorem dX2_least_93 : decode cX2_least 93 = .ok (.goto (-85), 3) := by decide +kernel
theorem dX2_least_96 : decode cX2_least 96 = .ok (.iload_n 3, 1) := by decide +kernel
theorem dX2_least_97 : decode cX2_least 97 = .ok (.ireturn, 1) := by decide +kernel
theorem dX2_fewest_0 : decode cX2_fewest 0 = .ok (.iload_n 1, 1) := by decide +kernel
theorem dX2_fewest_1 : decode cX2_fewest 1 = .ok (.istore_n 3, 1) := by decide +kernel
theorem dX2_fewest_2 : decode cX2_fewest 2 = .ok (.iload_n 1, 1) := by decide +kernel
theorem dX2_fewest_3 : decode cX2_fewest 3 = .ok (.istore 4, 2) := by decide +kernel
theorem dX2_fewest_5 : decode cX2_fewest 5 = .ok (.iload 4, 2) := by decide +kernel
theorem dX2_fewest_7 : decode cX2_fewest 7 = .ok (.ifCond .le 55, 3) := by decide +kernel
theorem dX2_fewest_10 : decode cX2_fewest 10 = .ok (.iload 4, 2) := by decide +kernel
theorem dX2_fewest_12 : decode cX2_fewest 12 = .ok (.iload_n 1, 1) := by decide +kernel
theorem dX2_fewest_13 : decode cX2_fewest 13 = .ok (.iconst (-1), 1) := by decide +kernel
theorem dX2_fewest_14 : decode cX2_fewest 14 = .ok (.ixor, 1) := by decide +kernel
theorem dX2_fewest_15 : decode cX2_fewest 15 = .ok (.iand, 1) := by decide +kernel
theorem dX2_fewest_16 : decode cX2_fewest 16 = .ok (.ifCond .ne 7, 3) := by decide +kernel
theorem dX2_fewest_19 : decode cX2_fewest 19 = .ok (.iconst 1, 1) := by decide +kernel
theorem dX2_fewest_20 : decode cX2_fewest 20 = .ok (.goto 4, 3) := by decide +kernel
theorem dX2_fewest_23 : decode cX2_fewest 23 = .ok (.iconst 0, 1) := by decide +kernel
theorem dX2_fewest_24 : decode cX2_fewest 24 = .ok (.istore 5, 2) := by decide +kernel
theorem dX2_fewest_26 : decode cX2_fewest 26 = .ok (.iload 5, 2) := by decide +kernel
theorem dX2_fewest_28 : decode cX2_fewest 28 = .ok (.ifCond .eq 28, 3) := by decide +kernel
theorem dX2_fewest_31 : decode cX2_fewest 31 = .ok (.iload 4, 2) := by decide +kernel
theorem dX2_fewest_33 : decode cX2_fewest 33 = .ok (.invokestatic 32, 3) := by decide +kernel
theorem dX2_fewest_36 : decode cX2_fewest 36 = .ok (.iload_n 3, 1) := by decide +kernel
theorem dX2_fewest_37 : decode cX2_fewest 37 = .ok (.invokestatic 32, 3) := by decide +kernel
theorem dX2_fewest_40 : decode cX2_fewest 40 = .ok (.if_icmp .gt 16, 3) := by decide +kernel
theorem dX2_fewest_43 : decode cX2_fewest 43 = .ok (.aload_n 0, 1) := by decide +kernel
theorem dX2_fewest_44 : decode cX2_fewest 44 = .ok (.iload 4, 2) := by decide +kernel
theorem dX2_fewest_46 : decode cX2_fewest 46 = .ok (.iload_n 2, 1) := by decide +kernel
theorem dX2_fewest_47 : decode cX2_fewest 47 = .ok (.invokevirtual 29, 3) := by decide +kernel
theorem dX2_fewest_50 : decode cX2_fewest 50 = .ok (.ifCond .eq 6, 3) := by decide +kernel
theorem dX2_fewest_53 : decode cX2_fewest 53 = .ok (.iload 4, 2) := by decide +kernel
theorem dX2_fewest_55 : decode cX2_fewest 55 = .ok (.istore_n 3, 1) := by decide +kernel
theorem dX2_fewest_56 : decode cX2_fewest 56 = .ok (.iinc 4 (-1), 3) := by decide +kernel
theorem dX2_fewest_59 : decode cX2_fewest 59 = .ok (.goto (-54), 3) := by decide +kernel
theorem dX2_fewest_62 : decode cX2_fewest 62 = .ok (.iload_n 3, 1) := by decide +kernel
theorem dX2_fewest_63 : decode cX2_fewest 63 = .ok (.ireturn, 1) := by decide +kernel
theorem dX2_halves_0 : decode cX2_halves 0 = .ok (.iload_n 1, 1) := by decide +kernel
theorem dX2_halves_1 : decode cX2_halves 1 = .ok (.istore_n 3, 1) := by decide +kernel
theorem dX2_halves_2 : decode cX2_halves 2 = .ok (.iconst 0, 1) := by decide +kernel
theorem dX2_halves_3 : decode cX2_halves 3 = .ok (.istore 4, 2) := by decide +kernel
theorem dX2_halves_5 : decode cX2_halves 5 = .ok (.iload 4, 2) := by decide +kernel
theorem dX2_halves_7 : decode cX2_halves 7 = .ok (.bipush 8, 2) := by decide +kernel
theorem dX2_halves_9 : decode cX2_halves 9 = .ok (.if_icmp .ge 64, 3) := by decide +kernel
theorem dX2_halves_12 : decode cX2_halves 12 = .ok (.iload_n 3, 1) := by decide +kernel
theorem dX2_halves_13 : decode cX2_halves 13 = .ok (.invokestatic 32, 3) := by decide +kernel
theorem dX2_halves_16 : decode cX2_halves 16 = .ok (.iconst 2, 1) := by decide +kernel
theorem dX2_halves_17 : decode cX2_halves 17 = .ok (.if_icmp .lt 56, 3) := by decide +kernel
theorem dX2_halves_20 : decode cX2_halves 20 = .ok (.aload_n 0, 1) := by decide +kernel
theorem dX2_halves_21 : decode cX2_halves 21 = .ok (.getfield 9, 3) := by decide +kernel
theorem dX2_halves_24 : decode cX2_halves 24 = .ok (.iload_n 3, 1) := by decide +kernel
theorem dX2_halves_25 : decode cX2_halves 25 = .ok (.invokestatic 37, 3) := by decide +kernel
theorem dX2_halves_28 : decode cX2_halves 28 = .ok (.istore 5, 2) := by decide +kernel
theorem dX2_halves_30 : decode cX2_halves 30 = .ok (.iload_n 3, 1) := by decide +kernel
theorem dX2_halves_31 : decode cX2_halves 31 = .ok (.iload 5, 2) := by decide +kernel
theorem dX2_halves_33 : decode cX2_halves 33 = .ok (.iconst (-1), 1) := by decide +kernel
theorem dX2_halves_34 : decode cX2_halves 34 = .ok (.ixor, 1) := by decide +kernel
theorem dX2_halves_35 : decode cX2_halves 35 = .ok (.iand, 1) := by decide +kernel
theorem dX2_halves_36 : decode cX2_halves 36 = .ok (.istore 6, 2) := by decide +kernel
theorem dX2_halves_38 : decode cX2_halves 38 = .ok (.aload_n 0, 1) := by decide +kernel
theorem dX2_halves_39 : decode cX2_halves 39 = .ok (.iload 5, 2) := by decide +kernel
theorem dX2_halves_41 : decode cX2_halves 41 = .ok (.iload_n 2, 1) := by decide +kernel
theorem dX2_halves_42 : decode cX2_halves 42 = .ok (.invokevirtual 29, 3) := by decide +kernel
theorem dX2_halves_45 : decode cX2_halves 45 = .ok (.ifCond .eq 9, 3) := by decide +kernel
theorem dX2_halves_48 : decode cX2_halves 48 = .ok (.iload 5, 2) := by decide +kernel
theorem dX2_halves_50 : decode cX2_halves 50 = .ok (.istore_n 3, 1) := by decide +kernel
theorem dX2_halves_51 : decode cX2_halves 51 = .ok (.goto 16, 3) := by decide +kernel
theorem dX2_halves_54 : decode cX2_halves 54 = .ok (.aload_n 0, 1) := by decide +kernel
theorem dX2_halves_55 : decode cX2_halves 55 = .ok (.iload 6, 2) := by decide +kernel
theorem dX2_halves_57 : decode cX2_halves 57 = .ok (.iload_n 2, 1) := by decide +kernel
theorem dX2_halves_58 : decode cX2_halves 58 = .ok (.invokevirtual 29, 3) := by decide +kernel
theorem dX2_halves_61 : decode cX2_halves 61 = .ok (.ifCond .eq 12, 3) := by decide +kernel
theorem dX2_halves_64 : decode cX2_halves 64 = .ok (.iload 6, 2) := by decide +kernel
theorem dX2_halves_66 : decode cX2_halves 66 = .ok (.istore_n 3, 1) := by decide +kernel
theorem dX2_halves_67 : decode cX2_halves 67 = .ok (.iinc 4 1, 3) := by decide +kernel
theorem dX2_halves_70 : decode cX2_halves 70 = .ok (.goto (-65), 3) := by decide +kernel
theorem dX2_halves_73 : decode cX2_halves 73 = .ok (.iload_n 3, 1) := by decide +kernel
theorem dX2_halves_74 : decode cX2_halves 74 = .ok (.ireturn, 1) := by decide +kernel
theorem dX2_firstHalf_0 : decode cX2_firstHalf 0 = .ok (.iconst 0, 1) := by decide +kernel
theorem dX2_firstHalf_1 : decode cX2_firstHalf 1 = .ok (.istore_n 2, 1) := by decide +kernel
theorem dX2_firstHalf_2 : decode cX2_firstHalf 2 = .ok (.iload_n 1, 1) := by decide +kernel
theorem dX2_firstHalf_3 : decode cX2_firstHalf 3 = .ok (.invokestatic 32, 3) := by decide +kernel
theorem dX2_firstHalf_6 : decode cX2_firstHalf 6 = .ok (.iconst 2, 1) := by decide +kernel
theorem dX2_firstHalf_7 : decode cX2_firstHalf 7 = .ok (.idiv, 1) := by decide +kernel
theorem dX2_firstHalf_8 : decode cX2_firstHalf 8 = .ok (.istore_n 3, 1) := by decide +kernel
theorem dX2_firstHalf_9 : decode cX2_firstHalf 9 = .ok (.iconst 0, 1) := by decide +kernel
theorem dX2_firstHalf_10 : decode cX2_firstHalf 10 = .ok (.istore 4, 2) := by decide +kernel
theorem dX2_firstHalf_12 : decode cX2_firstHalf 12 = .ok (.iload 4, 2) := by decide +kernel
theorem dX2_firstHalf_14 : decode cX2_firstHalf 14 = .ok (.aload_n 0, 1) := by decide +kernel
theorem dX2_firstHalf_15 : decode cX2_firstHalf 15 = .ok (.getfield 15, 3) := by decide +kernel
theorem dX2_firstHalf_18 : decode cX2_firstHalf 18 = .ok (.if_icmp .ge 40, 3) := by decide +kernel
theorem dX2_firstHalf_21 : decode cX2_firstHalf 21 = .ok (.iload_n 3, 1) := by decide +kernel
theorem dX2_firstHalf_22 : decode cX2_firstHalf 22 = .ok (.ifCond .le 36, 3) := by decide +kernel
theorem dX2_firstHalf_25 : decode cX2_firstHalf 25 = .ok (.aload_n 0, 1) := by decide +kernel
theorem dX2_firstHalf_26 : decode cX2_firstHalf 26 = .ok (.iload 4, 2) := by decide +kernel
theorem dX2_firstHalf_28 : decode cX2_firstHalf 28 = .ok (.invokevirtual 21, 3) := by decide +kernel
theorem dX2_firstHalf_31 : decode cX2_firstHalf 31 = .ok (.istore 5, 2) := by decide +kernel
theorem dX2_firstHalf_33 : decode cX2_firstHalf 33 = .ok (.iload 5, 2) := by decide +kernel
theorem dX2_firstHalf_35 : decode cX2_firstHalf 35 = .ok (.iload_n 1, 1) := by decide +kernel
theorem dX2_firstHalf_36 : decode cX2_firstHalf 36 = .ok (.invokestatic 25, 3) := by decide +kernel
theorem dX2_firstHalf_39 : decode cX2_firstHalf 39 = .ok (.ifCond .eq 13, 3) := by decide +kernel
theorem dX2_firstHalf_42 : decode cX2_firstHalf 42 = .ok (.iload_n 2, 1) := by decide +kernel
theorem dX2_firstHalf_43 : decode cX2_firstHalf 43 = .ok (.iconst 1, 1) := by decide +kernel
theorem dX2_firstHalf_44 : decode cX2_firstHalf 44 = .ok (.iload 5, 2) := by decide +kernel
theorem dX2_firstHalf_46 : decode cX2_firstHalf 46 = .ok (.ishl, 1) := by decide +kernel
theorem dX2_firstHalf_47 : decode cX2_firstHalf 47 = .ok (.ior, 1) := by decide +kernel
theorem dX2_firstHalf_48 : decode cX2_firstHalf 48 = .ok (.istore_n 2, 1) := by decide +kernel
theorem dX2_firstHalf_49 : decode cX2_firstHalf 49 = .ok (.iinc 3 (-1), 3) := by decide +kernel
theorem dX2_firstHalf_52 : decode cX2_firstHalf 52 = .ok (.iinc 4 1, 3) := by decide +kernel
theorem dX2_firstHalf_55 : decode cX2_firstHalf 55 = .ok (.goto (-43), 3) := by decide +kernel
theorem dX2_firstHalf_58 : decode cX2_firstHalf 58 = .ok (.iload_n 2, 1) := by decide +kernel
theorem dX2_firstHalf_59 : decode cX2_firstHalf 59 = .ok (.ireturn, 1) := by decide +kernel
theorem dX3_init_0 : decode cX3_init 0 = .ok (.aload_n 0, 1) := by decide +kernel
theorem dX3_init_1 : decode cX3_init 1 = .ok (.invokespecial 3, 3) := by decide +kernel
theorem dX3_init_4 : decode cX3_init 4 = .ok (.aload_n 0, 1) := by decide +kernel
theorem dX3_init_5 : decode cX3_init 5 = .ok (.bipush 8, 2) := by decide +kernel
theorem dX3_init_7 : decode cX3_init 7 = .ok (.newarray .int, 2) := by decide +kernel
theorem dX3_init_9 : decode cX3_init 9 = .ok (.putfield 9, 3) := by decide +kernel
theorem dX3_init_12 : decode cX3_init 12 = .ok (.return_, 1) := by decide +kernel
theorem dX3_nth_0 : decode cX3_nth 0 = .ok (.iload_n 1, 1) := by decide +kernel
theorem dX3_nth_1 : decode cX3_nth 1 = .ok (.ifCond .lt 29, 3) := by decide +kernel
theorem dX3_nth_4 : decode cX3_nth 4 = .ok (.iload_n 1, 1) := by decide +kernel
theorem dX3_nth_5 : decode cX3_nth 5 = .ok (.aload_n 0, 1) := by decide +kernel
theorem dX3_nth_6 : decode cX3_nth 6 = .ok (.getfield 15, 3) := by decide +kernel
theorem dX3_nth_9 : decode cX3_nth 9 = .ok (.if_icmp .ge 21, 3) := by decide +kernel
theorem dX3_nth_12 : decode cX3_nth 12 = .ok (.iload_n 1, 1) := by decide +kernel
theorem dX3_nth_13 : decode cX3_nth 13 = .ok (.aload_n 0, 1) := by decide +kernel
theorem dX3_nth_14 : decode cX3_nth 14 = .ok (.getfield 9, 3) := by decide +kernel
theorem dX3_nth_17 : decode cX3_nth 17 = .ok (.arraylength, 1) := by decide +kernel
theorem dX3_nth_18 : decode cX3_nth 18 = .ok (.if_icmp .ge 12, 3) := by decide +kernel
theorem dX3_nth_21 : decode cX3_nth 21 = .ok (.aload_n 0, 1) := by decide +kernel
theorem dX3_nth_22 : decode cX3_nth 22 = .ok (.getfield 9, 3) := by decide +kernel
theorem dX3_nth_25 : decode cX3_nth 25 = .ok (.iload_n 1, 1) := by decide +kernel
theorem dX3_nth_26 : decode cX3_nth 26 = .ok (.iaload, 1) := by decide +kernel
theorem dX3_nth_27 : decode cX3_nth 27 = .ok (.goto 4, 3) := by decide +kernel
theorem dX3_nth_30 : decode cX3_nth 30 = .ok (.iconst (-1), 1) := by decide +kernel
theorem dX3_nth_31 : decode cX3_nth 31 = .ok (.ireturn, 1) := by decide +kernel
theorem dX3_placeOf_0 : decode cX3_placeOf 0 = .ok (.iconst 0, 1) := by decide +kernel
theorem dX3_placeOf_1 : decode cX3_placeOf 1 = .ok (.istore_n 2, 1) := by decide +kernel
theorem dX3_placeOf_2 : decode cX3_placeOf 2 = .ok (.iload_n 2, 1) := by decide +kernel
theorem dX3_placeOf_3 : decode cX3_placeOf 3 = .ok (.aload_n 0, 1) := by decide +kernel
theorem dX3_placeOf_4 : decode cX3_placeOf 4 = .ok (.getfield 15, 3) := by decide +kernel
theorem dX3_placeOf_7 : decode cX3_placeOf 7 = .ok (.if_icmp .ge 20, 3) := by decide +kernel
theorem dX3_placeOf_10 : decode cX3_placeOf 10 = .ok (.aload_n 0, 1) := by decide +kernel
theorem dX3_placeOf_11 : decode cX3_placeOf 11 = .ok (.iload_n 2, 1) := by decide +kernel
theorem dX3_placeOf_12 : decode cX3_placeOf 12 = .ok (.invokevirtual 19, 3) := by decide +kernel
theorem dX3_placeOf_15 : decode cX3_placeOf 15 = .ok (.iload_n 1, 1) := by decide +kernel
theorem dX3_placeOf_16 : decode cX3_placeOf 16 = .ok (.if_icmp .ne 5, 3) := by decide +kernel
theorem dX3_placeOf_19 : decode cX3_placeOf 19 = .ok (.iload_n 2, 1) := by decide +kernel
theorem dX3_placeOf_20 : decode cX3_placeOf 20 = .ok (.ireturn, 1) := by decide +kernel
theorem dX3_placeOf_21 : decode cX3_placeOf 21 = .ok (.iinc 2 1, 3) := by decide +kernel
theorem dX3_placeOf_24 : decode cX3_placeOf 24 = .ok (.goto (-22), 3) := by decide +kernel
theorem dX3_placeOf_27 : decode cX3_placeOf 27 = .ok (.iconst (-1), 1) := by decide +kernel
theorem dX3_placeOf_28 : decode cX3_placeOf 28 = .ok (.ireturn, 1) := by decide +kernel
theorem dX3_setAhead_0 : decode cX3_setAhead 0 = .ok (.iconst 0, 1) := by decide +kernel
theorem dX3_setAhead_1 : decode cX3_setAhead 1 = .ok (.istore_n 2, 1) := by decide +kernel
theorem dX3_setAhead_2 : decode cX3_setAhead 2 = .ok (.iconst 0, 1) := by decide +kernel
theorem dX3_setAhead_3 : decode cX3_setAhead 3 = .ok (.istore_n 3, 1) := by decide +kernel
theorem dX3_setAhead_4 : decode cX3_setAhead 4 = .ok (.iload_n 3, 1) := by decide +kernel
theorem dX3_setAhead_5 : decode cX3_setAhead 5 = .ok (.iload_n 1, 1) := by decide +kernel
theorem dX3_setAhead_6 : decode cX3_setAhead 6 = .ok (.if_icmp .ge 27, 3) := by decide +kernel
theorem dX3_setAhead_9 : decode cX3_setAhead 9 = .ok (.iload_n 3, 1) := by decide +kernel
theorem dX3_setAhead_10 : decode cX3_setAhead 10 = .ok (.aload_n 0, 1) := by decide +kernel
theorem dX3_setAhead_11 : decode cX3_setAhead 11 = .ok (.getfield 15, 3) := by decide +kernel
theorem dX3_setAhead_14 : decode cX3_setAhead 14 = .ok (.if_icmp .ge 19, 3) := by decide +kernel
theorem dX3_setAhead_17 : decode cX3_setAhead 17 = .ok (.iload_n 2, 1) := by decide +kernel
theorem dX3_setAhead_18 : decode cX3_setAhead 18 = .ok (.iconst 1, 1) := by decide +kernel
theorem dX3_setAhead_19 : decode cX3_setAhead 19 = .ok (.aload_n 0, 1) := by decide +kernel
theorem dX3_setAhead_20 : decode cX3_setAhead 20 = .ok (.iload_n 3, 1) := by decide +kernel
theorem dX3_setAhead_21 : decode cX3_setAhead 21 = .ok (.invokevirtual 19, 3) := by decide +kernel
theorem dX3_setAhead_24 : decode cX3_setAhead 24 = .ok (.ishl, 1) := by decide +kernel
theorem dX3_setAhead_25 : decode cX3_setAhead 25 = .ok (.ior, 1) := by decide +kernel
theorem dX3_setAhead_26 : decode cX3_setAhead 26 = .ok (.istore_n 2, 1) := by decide +kernel
theorem dX3_setAhead_27 : decode cX3_setAhead 27 = .ok (.iinc 3 1, 3) := by decide +kernel
theorem dX3_setAhead_30 : decode cX3_setAhead 30 = .ok (.goto (-26), 3) := by decide +kernel
theorem dX3_setAhead_33 : decode cX3_setAhead 33 = .ok (.iload_n 2, 1) := by decide +kernel
theorem dX3_setAhead_34 : decode cX3_setAhead 34 = .ok (.ireturn, 1) := by decide +kernel
theorem dX3_append_0 : decode cX3_append 0 = .ok (.aload_n 0, 1) := by decide +kernel
theorem dX3_append_1 : decode cX3_append 1 = .ok (.getfield 15, 3) := by decide +kernel
theorem dX3_append_4 : decode cX3_append 4 = .ok (.ifCond .lt 35, 3) := by decide +kernel
theorem dX3_append_7 : decode cX3_append 7 = .ok (.aload_n 0, 1) := by decide +kernel
theorem dX3_append_8 : decode cX3_append 8 = .ok (.getfield 15, 3) := by decide +kernel
theorem dX3_append_11 : decode cX3_append 11 = .ok (.aload_n 0, 1) := by decide +kernel
theorem dX3_append_12 : decode cX3_append 12 = .ok (.getfield 9, 3) := by decide +kernel
theorem dX3_append_15 : decode cX3_append 15 = .ok (.arraylength, 1) := by decide +kernel
theorem dX3_append_16 : decode cX3_append 16 = .ok (.if_icmp .ge 23, 3) := by decide +kernel
theorem dX3_append_19 : decode cX3_append 19 = .ok (.aload_n 0, 1) := by decide +kernel
theorem dX3_append_20 : decode cX3_append 20 = .ok (.getfield 9, 3) := by decide +kernel
theorem dX3_append_23 : decode cX3_append 23 = .ok (.aload_n 0, 1) := by decide +kernel
theorem dX3_append_24 : decode cX3_append 24 = .ok (.getfield 15, 3) := by decide +kernel
theorem dX3_append_27 : decode cX3_append 27 = .ok (.iload_n 1, 1) := by decide +kernel
theorem dX3_append_28 : decode cX3_append 28 = .ok (.iastore, 1) := by decide +kernel
theorem dX3_append_29 : decode cX3_append 29 = .ok (.aload_n 0, 1) := by decide +kernel
theorem dX3_append_30 : decode cX3_append 30 = .ok (.dup, 1) := by decide +kernel
theorem dX3_append_31 : decode cX3_append 31 = .ok (.getfield 15, 3) := by decide +kernel
theorem dX3_append_34 : decode cX3_append 34 = .ok (.iconst 1, 1) := by decide +kernel
theorem dX3_append_35 : decode cX3_append 35 = .ok (.iadd, 1) := by decide +kernel
theorem dX3_append_36 : decode cX3_append 36 = .ok (.putfield 15, 3) := by decide +kernel
theorem dX3_append_39 : decode cX3_append 39 = .ok (.return_, 1) := by decide +kernel
theorem dX3_makeEmpty_0 : decode cX3_makeEmpty 0 = .ok (.aload_n 0, 1) := by decide +kernel
theorem dX3_makeEmpty_1 : decode cX3_makeEmpty 1 = .ok (.iconst 0, 1) := by decide +kernel
theorem dX3_makeEmpty_2 : decode cX3_makeEmpty 2 = .ok (.putfield 15, 3) := by decide +kernel
theorem dX3_makeEmpty_5 : decode cX3_makeEmpty 5 = .ok (.return_, 1) := by decide +kernel
theorem dX3_takeOut_0 : decode cX3_takeOut 0 = .ok (.aload_n 0, 1) := by decide +kernel
theorem dX3_takeOut_1 : decode cX3_takeOut 1 = .ok (.getfield 15, 3) := by decide +kernel
theorem dX3_takeOut_4 : decode cX3_takeOut 4 = .ok (.istore_n 2, 1) := by decide +kernel
theorem dX3_takeOut_5 : decode cX3_takeOut 5 = .ok (.aload_n 0, 1) := by decide +kernel
theorem dX3_takeOut_6 : decode cX3_takeOut 6 = .ok (.iconst 0, 1) := by decide +kernel
theorem dX3_takeOut_7 : decode cX3_takeOut 7 = .ok (.putfield 15, 3) := by decide +kernel
theorem dX3_takeOut_10 : decode cX3_takeOut 10 = .ok (.iconst 0, 1) := by decide +kernel
theorem dX3_takeOut_11 : decode cX3_takeOut 11 = .ok (.istore_n 3, 1) := by decide +kernel
theorem dX3_takeOut_12 : decode cX3_takeOut 12 = .ok (.iload_n 3, 1) := by decide +kernel
theorem dX3_takeOut_13 : decode cX3_takeOut 13 = .ok (.iload_n 2, 1) := by decide +kernel
theorem dX3_takeOut_14 : decode cX3_takeOut 14 = .ok (.if_icmp .ge 41, 3) := by decide +kernel
theorem dX3_takeOut_17 : decode cX3_takeOut 17 = .ok (.iload_n 3, 1) := by decide +kernel
theorem dX3_takeOut_18 : decode cX3_takeOut 18 = .ok (.aload_n 0, 1) := by decide +kernel
theorem dX3_takeOut_19 : decode cX3_takeOut 19 = .ok (.getfield 9, 3) := by decide +kernel
theorem dX3_takeOut_22 : decode cX3_takeOut 22 = .ok (.arraylength, 1) := by decide +kernel
theorem dX3_takeOut_23 : decode cX3_takeOut 23 = .ok (.if_icmp .ge 32, 3) := by decide +kernel
theorem dX3_takeOut_26 : decode cX3_takeOut 26 = .ok (.aload_n 0, 1) := by decide +kernel
theorem dX3_takeOut_27 : decode cX3_takeOut 27 = .ok (.getfield 9, 3) := by decide +kernel
theorem dX3_takeOut_30 : decode cX3_takeOut 30 = .ok (.iload_n 3, 1) := by decide +kernel
theorem dX3_takeOut_31 : decode cX3_takeOut 31 = .ok (.iaload, 1) := by decide +kernel
theorem dX3_takeOut_32 : decode cX3_takeOut 32 = .ok (.istore 4, 2) := by decide +kernel
theorem dX3_takeOut_34 : decode cX3_takeOut 34 = .ok (.iload 4, 2) := by decide +kernel
theorem dX3_takeOut_36 : decode cX3_takeOut 36 = .ok (.iload_n 1, 1) := by decide +kernel
theorem dX3_takeOut_37 : decode cX3_takeOut 37 = .ok (.invokestatic 23, 3) := by decide +kernel
theorem dX3_takeOut_40 : decode cX3_takeOut 40 = .ok (.ifCond .ne 9, 3) := by decide +kernel
theorem dX3_takeOut_43 : decode cX3_takeOut 43 = .ok (.aload_n 0, 1) := by decide +kernel
theorem dX3_takeOut_44 : decode cX3_takeOut 44 = .ok (.iload 4, 2) := by decide +kernel
theorem dX3_takeOut_46 : decode cX3_takeOut 46 = .ok (.invokevirtual 27, 3) := by decide +kernel
theorem dX3_takeOut_49 : decode cX3_takeOut 49 = .ok (.iinc 3 1, 3) := by decide +kernel
theorem dX3_takeOut_52 : decode cX3_takeOut 52 = .ok (.goto (-40), 3) := by decide +kernel
theorem dX3_takeOut_55 : decode cX3_takeOut 55 = .ok (.return_, 1) := by decide +kernel
theorem dX3_layShuffled_0 : decode cX3_layShuffled 0 = .ok (.aload_n 0, 1) := by decide +kernel
theorem dX3_layShuffled_1 : decode cX3_layShuffled 1 = .ok (.invokevirtual 31, 3) := by decide +kernel
theorem dX3_layShuffled_4 : decode cX3_layShuffled 4 = .ok (.iconst 0, 1) := by decide +kernel
theorem dX3_layShuffled_5 : decode cX3_layShuffled 5 = .ok (.istore_n 3, 1) := by decide +kernel
theorem dX3_layShuffled_6 : decode cX3_layShuffled 6 = .ok (.iload_n 3, 1) := by decide +kernel
theorem dX3_layShuffled_7 : decode cX3_layShuffled 7 = .ok (.iload_n 1, 1) := by decide +kernel
theorem dX3_layShuffled_8 : decode cX3_layShuffled 8 = .ok (.if_icmp .ge 14, 3) := by decide +kernel
theorem dX3_layShuffled_11 : decode cX3_layShuffled 11 = .ok (.aload_n 0, 1) := by decide +kernel
theorem dX3_layShuffled_12 : decode cX3_layShuffled 12 = .ok (.iload_n 3, 1) := by decide +kernel
theorem dX3_layShuffled_13 : decode cX3_layShuffled 13 = .ok (.invokevirtual 27, 3) := by decide +kernel
theorem dX3_layShuffled_16 : decode cX3_layShuffled 16 = .ok (.iinc 3 1, 3) := by decide +kernel
theorem dX3_layShuffled_19 : decode cX3_layShuffled 19 = .ok (.goto (-13), 3) := by decide +kernel
theorem dX3_layShuffled_22 : decode cX3_layShuffled 22 = .ok (.iload_n 2, 1) := by decide +kernel
theorem dX3_layShuffled_23 : decode cX3_layShuffled 23 = .ok (.i2l, 1) := by decide +kernel
theorem dX3_layShuffled_24 : decode cX3_layShuffled 24 = .ok (.lstore_n 3, 1) := by decide +kernel
theorem dX3_layShuffled_25 : decode cX3_layShuffled 25 = .ok (.aload_n 0, 1) := by decide +kernel
theorem dX3_layShuffled_26 : decode cX3_layShuffled 26 = .ok (.getfield 15, 3) := by decide +kernel
theorem dX3_layShuffled_29 : decode cX3_layShuffled 29 = .ok (.iconst 1, 1) := by decide +kernel
theorem dX3_layShuffled_30 : decode cX3_layShuffled 30 = .ok (.isub, 1) := by decide +kernel
theorem dX3_layShuffled_31 : decode cX3_layShuffled 31 = .ok (.istore 5, 2) := by decide +kernel
theorem dX3_layShuffled_33 : decode cX3_layShuffled 33 = .ok (.iload 5, 2) := by decide +kernel
theorem dX3_layShuffled_35 : decode cX3_layShuffled 35 = .ok (.iconst 1, 1) := by decide +kernel
theorem dX3_layShuffled_36 : decode cX3_layShuffled 36 = .ok (.if_icmp .lt 41, 3) := by decide +kernel
theorem dX3_layShuffled_39 : decode cX3_layShuffled 39 = .ok (.lload_n 3, 1) := by decide +kernel
theorem dX3_layShuffled_40 : decode cX3_layShuffled 40 = .ok (.ldc2_w 34, 3) := by decide +kernel
theorem dX3_layShuffled_43 : decode cX3_layShuffled 43 = .ok (.lmul, 1) := by decide +kernel
theorem dX3_layShuffled_44 : decode cX3_layShuffled 44 = .ok (.ldc2_w 36, 3) := by decide +kernel
theorem dX3_layShuffled_47 : decode cX3_layShuffled 47 = .ok (.ladd, 1) := by decide +kernel
theorem dX3_layShuffled_48 : decode cX3_layShuffled 48 = .ok (.ldc2_w 38, 3) := by decide +kernel
theorem dX3_layShuffled_51 : decode cX3_layShuffled 51 = .ok (.lrem, 1) := by decide +kernel
theorem dX3_layShuffled_52 : decode cX3_layShuffled 52 = .ok (.lstore_n 3, 1) := by decide +kernel
theorem dX3_layShuffled_53 : decode cX3_layShuffled 53 = .ok (.aload_n 0, 1) := by decide +kernel
theorem dX3_layShuffled_54 : decode cX3_layShuffled 54 = .ok (.iload 5, 2) := by decide +kernel
theorem dX3_layShuffled_56 : decode cX3_layShuffled 56 = .ok (.lload_n 3, 1) := by decide +kernel
theorem dX3_layShuffled_57 : decode cX3_layShuffled 57 = .ok (.ldc2_w 40, 3) := by decide +kernel
theorem dX3_layShuffled_60 : decode cX3_layShuffled 60 = .ok (.ldiv, 1) := by decide +kernel
theorem dX3_layShuffled_61 : decode cX3_layShuffled 61 = .ok (.iload 5, 2) := by decide +kernel
theorem dX3_layShuffled_63 : decode cX3_layShuffled 63 = .ok (.iconst 1, 1) := by decide +kernel
theorem dX3_layShuffled_64 : decode cX3_layShuffled 64 = .ok (.iadd, 1) := by decide +kernel
theorem dX3_layShuffled_65 : decode cX3_layShuffled 65 = .ok (.i2l, 1) := by decide +kernel
theorem dX3_layShuffled_66 : decode cX3_layShuffled 66 = .ok (.lrem, 1) := by decide +kernel
theorem dX3_layShuffled_67 : decode cX3_layShuffled 67 = .ok (.l2i, 1) := by decide +kernel
theorem dX3_layShuffled_68 : decode cX3_layShuffled 68 = .ok (.invokevirtual 42, 3) := by decide +kernel
theorem dX3_layShuffled_71 : decode cX3_layShuffled 71 = .ok (.iinc 5 (-1), 3) := by decide +kernel
theorem dX3_layShuffled_74 : decode cX3_layShuffled 74 = .ok (.goto (-41), 3) := by decide +kernel
theorem dX3_layShuffled_77 : decode cX3_layShuffled 77 = .ok (.return_, 1) := by decide +kernel
theorem dX3_swap_0 : decode cX3_swap 0 = .ok (.iload_n 1, 1) := by decide +kernel
theorem dX3_swap_1 : decode cX3_swap 1 = .ok (.ifCond .lt 51, 3) := by decide +kernel
theorem dX3_swap_4 : decode cX3_swap 4 = .ok (.iload_n 1, 1) := by decide +kernel
theorem dX3_swap_5 : decode cX3_swap 5 = .ok (.aload_n 0, 1) := by decide +kernel
theorem dX3_swap_6 : decode cX3_swap 6 = .ok (.getfield 9, 3) := by decide +kernel
theorem dX3_swap_9 : decode cX3_swap 9 = .ok (.arraylength, 1) := by decide +kernel
theorem dX3_swap_10 : decode cX3_swap 10 = .ok (.if_icmp .ge 42, 3) := by decide +kernel
theorem dX3_swap_13 : decode cX3_swap 13 = .ok (.iload_n 2, 1) := by decide +kernel
theorem dX3_swap_14 : decode cX3_swap 14 = .ok (.ifCond .lt 38, 3) := by decide +kernel
theorem dX3_swap_17 : decode cX3_swap 17 = .ok (.iload_n 2, 1) := by decide +kernel
theorem dX3_swap_18 : decode cX3_swap 18 = .ok (.aload_n 0, 1) := by decide +kernel
theorem dX3_swap_19 : decode cX3_swap 19 = .ok (.getfield 9, 3) := by decide +kernel
theorem dX3_swap_22 : decode cX3_swap 22 = .ok (.arraylength, 1) := by decide +kernel
theorem dX3_swap_23 : decode cX3_swap 23 = .ok (.if_icmp .ge 29, 3) := by decide +kernel
theorem dX3_swap_26 : decode cX3_swap 26 = .ok (.aload_n 0, 1) := by decide +kernel
theorem dX3_swap_27 : decode cX3_swap 27 = .ok (.getfield 9, 3) := by decide +kernel
theorem dX3_swap_30 : decode cX3_swap 30 = .ok (.iload_n 1, 1) := by decide +kernel
theorem dX3_swap_31 : decode cX3_swap 31 = .ok (.iaload, 1) := by decide +kernel
theorem dX3_swap_32 : decode cX3_swap 32 = .ok (.istore_n 3, 1) := by decide +kernel
theorem dX3_swap_33 : decode cX3_swap 33 = .ok (.aload_n 0, 1) := by decide +kernel
theorem dX3_swap_34 : decode cX3_swap 34 = .ok (.getfield 9, 3) := by decide +kernel
theorem dX3_swap_37 : decode cX3_swap 37 = .ok (.iload_n 1, 1) := by decide +kernel
theorem dX3_swap_38 : decode cX3_swap 38 = .ok (.aload_n 0, 1) := by decide +kernel
theorem dX3_swap_39 : decode cX3_swap 39 = .ok (.getfield 9, 3) := by decide +kernel
theorem dX3_swap_42 : decode cX3_swap 42 = .ok (.iload_n 2, 1) := by decide +kernel
theorem dX3_swap_43 : decode cX3_swap 43 = .ok (.iaload, 1) := by decide +kernel
theorem dX3_swap_44 : decode cX3_swap 44 = .ok (.iastore, 1) := by decide +kernel
theorem dX3_swap_45 : decode cX3_swap 45 = .ok (.aload_n 0, 1) := by decide +kernel
theorem dX3_swap_46 : decode cX3_swap 46 = .ok (.getfield 9, 3) := by decide +kernel
theorem dX3_swap_49 : decode cX3_swap 49 = .ok (.iload_n 2, 1) := by decide +kernel
theorem dX3_swap_50 : decode cX3_swap 50 = .ok (.iload_n 3, 1) := by decide +kernel
theorem dX3_swap_51 : decode cX3_swap 51 = .ok (.iastore, 1) := by decide +kernel
theorem dX3_swap_52 : decode cX3_swap 52 = .ok (.return_, 1) := by decide +kernel
theorem dX3_copyFrom_0 : decode cX3_copyFrom 0 = .ok (.aload_n 1, 1) := by decide +kernel
theorem dX3_copyFrom_1 : decode cX3_copyFrom 1 = .ok (.getfield 9, 3) := by decide +kernel
theorem dX3_copyFrom_4 : decode cX3_copyFrom 4 = .ok (.iconst 0, 1) := by decide +kernel
theorem dX3_copyFrom_5 : decode cX3_copyFrom 5 = .ok (.aload_n 0, 1) := by decide +kernel
theorem dX3_copyFrom_6 : decode cX3_copyFrom 6 = .ok (.getfield 9, 3) := by decide +kernel
theorem dX3_copyFrom_9 : decode cX3_copyFrom 9 = .ok (.iconst 0, 1) := by decide +kernel
theorem dX3_copyFrom_10 : decode cX3_copyFrom 10 = .ok (.bipush 8, 2) := by decide +kernel
theorem dX3_copyFrom_12 : decode cX3_copyFrom 12 = .ok (.invokestatic 46, 3) := by decide +kernel
theorem dX3_copyFrom_15 : decode cX3_copyFrom 15 = .ok (.aload_n 0, 1) := by decide +kernel
theorem dX3_copyFrom_16 : decode cX3_copyFrom 16 = .ok (.aload_n 1, 1) := by decide +kernel
theorem dX3_copyFrom_17 : decode cX3_copyFrom 17 = .ok (.getfield 15, 3) := by decide +kernel
theorem dX3_copyFrom_20 : decode cX3_copyFrom 20 = .ok (.putfield 15, 3) := by decide +kernel
theorem dX3_copyFrom_23 : decode cX3_copyFrom 23 = .ok (.return_, 1) := by decide +kernel
theorem dX4_init_0 : decode cX4_init 0 = .ok (.aload_n 0, 1) := by decide +kernel
theorem dX4_init_1 : decode cX4_init 1 = .ok (.invokespecial 3, 3) := by decide +kernel
theorem dX4_init_4 : decode cX4_init 4 = .ok (.aload_n 0, 1) := by decide +kernel
theorem dX4_init_5 : decode cX4_init 5 = .ok (.bipush 40, 2) := by decide +kernel
theorem dX4_init_7 : decode cX4_init 7 = .ok (.newarray .int, 2) := by decide +kernel
theorem dX4_init_9 : decode cX4_init 9 = .ok (.putfield 9, 3) := by decide +kernel
theorem dX4_init_12 : decode cX4_init 12 = .ok (.aload_n 0, 1) := by decide +kernel
theorem dX4_init_13 : decode cX4_init 13 = .ok (.new 15, 3) := by decide +kernel
theorem dX4_init_16 : decode cX4_init 16 = .ok (.dup, 1) := by decide +kernel
theorem dX4_init_17 : decode cX4_init 17 = .ok (.invokespecial 17, 3) := by decide +kernel
theorem dX4_init_20 : decode cX4_init 20 = .ok (.putfield 18, 3) := by decide +kernel
theorem dX4_init_23 : decode cX4_init 23 = .ok (.return_, 1) := by decide +kernel
theorem dX4_addTest_0 : decode cX4_addTest 0 = .ok (.iload_n 1, 1) := by decide +kernel
theorem dX4_addTest_1 : decode cX4_addTest 1 = .ok (.invokestatic 22, 3) := by decide +kernel
theorem dX4_addTest_4 : decode cX4_addTest 4 = .ok (.ifCond .eq 33, 3) := by decide +kernel
theorem dX4_addTest_7 : decode cX4_addTest 7 = .ok (.iload_n 2, 1) := by decide +kernel
theorem dX4_addTest_8 : decode cX4_addTest 8 = .ok (.invokestatic 22, 3) := by decide +kernel
theorem dX4_addTest_11 : decode cX4_addTest 11 = .ok (.ifCond .eq 26, 3) := by decide +kernel
theorem dX4_addTest_14 : decode cX4_addTest 14 = .ok (.iload_n 3, 1) := by decide +kernel
theorem dX4_addTest_15 : decode cX4_addTest 15 = .ok (.invokestatic 22, 3) := by decide +kernel
theorem dX4_addTest_18 : decode cX4_addTest 18 = .ok (.ifCond .eq 19, 3) := by decide +kernel
theorem dX4_addTest_21 : decode cX4_addTest 21 = .ok (.iload 4, 2) := by decide +kernel
theorem dX4_addTest_23 : decode cX4_addTest 23 = .ok (.invokestatic 22, 3) := by decide +kernel
theorem dX4_addTest_26 : decode cX4_addTest 26 = .ok (.ifCond .eq 11, 3) := by decide +kernel
theorem dX4_addTest_29 : decode cX4_addTest 29 = .ok (.iload 5, 2) := by decide +kernel
theorem dX4_addTest_31 : decode cX4_addTest 31 = .ok (.invokestatic 22, 3) := by decide +kernel
theorem dX4_addTest_34 : decode cX4_addTest 34 = .ok (.ifCond .ne 6, 3) := by decide +kernel
theorem dX4_addTest_37 : decode cX4_addTest 37 = .ok (.bipush (-2), 2) := by decide +kernel
theorem dX4_addTest_39 : decode cX4_addTest 39 = .ok (.ireturn, 1) := by decide +kernel
theorem dX4_addTest_40 : decode cX4_addTest 40 = .ok (.iload_n 1, 1) := by decide +kernel
theorem dX4_addTest_41 : decode cX4_addTest 41 = .ok (.iload_n 2, 1) := by decide +kernel
theorem dX4_addTest_42 : decode cX4_addTest 42 = .ok (.iand, 1) := by decide +kernel
theorem dX4_addTest_43 : decode cX4_addTest 43 = .ok (.ifCond .ne 25, 3) := by decide +kernel
theorem dX4_addTest_46 : decode cX4_addTest 46 = .ok (.iload_n 3, 1) := by decide +kernel
theorem dX4_addTest_47 : decode cX4_addTest 47 = .ok (.iload 4, 2) := by decide +kernel
theorem dX4_addTest_49 : decode cX4_addTest 49 = .ok (.iand, 1) := by decide +kernel
theorem dX4_addTest_50 : decode cX4_addTest 50 = .ok (.ifCond .ne 18, 3) := by decide +kernel
theorem dX4_addTest_53 : decode cX4_addTest 53 = .ok (.iload_n 3, 1) := by decide +kernel
theorem dX4_addTest_54 : decode cX4_addTest 54 = .ok (.iload 5, 2) := by decide +kernel
theorem dX4_addTest_56 : decode cX4_addTest 56 = .ok (.iand, 1) := by decide +kernel
theorem dX4_addTest_57 : decode cX4_addTest 57 = .ok (.ifCond .ne 11, 3) := by decide +kernel
theorem dX4_addTest_60 : decode cX4_addTest 60 = .ok (.iload 4, 2) := by decide +kernel
theorem dX4_addTest_62 : decode cX4_addTest 62 = .ok (.iload 5, 2) := by decide +kernel
theorem dX4_addTest_64 : decode cX4_addTest 64 = .ok (.iand, 1) := by decide +kernel
theorem dX4_addTest_65 : decode cX4_addTest 65 = .ok (.ifCond .eq 6, 3) := by decide +kernel
theorem dX4_addTest_68 : decode cX4_addTest 68 = .ok (.bipush (-2), 2) := by decide +kernel
theorem dX4_addTest_70 : decode cX4_addTest 70 = .ok (.ireturn, 1) := by decide +kernel
theorem dX4_addTest_71 : decode cX4_addTest 71 = .ok (.aload_n 0, 1) := by decide +kernel
theorem dX4_addTest_72 : decode cX4_addTest 72 = .ok (.getfield 26, 3) := by decide +kernel
theorem dX4_addTest_75 : decode cX4_addTest 75 = .ok (.ifCond .lt 12, 3) := by decide +kernel
theorem dX4_addTest_78 : decode cX4_addTest 78 = .ok (.aload_n 0, 1) := by decide +kernel
theorem dX4_addTest_79 : decode cX4_addTest 79 = .ok (.getfield 26, 3) := by decide +kernel
theorem dX4_addTest_82 : decode cX4_addTest 82 = .ok (.bipush 8, 2) := by decide +kernel
theorem dX4_addTest_84 : decode cX4_addTest 84 = .ok (.if_icmp .lt 6, 3) := by decide +kernel
theorem dX4_addTest_87 : decode cX4_addTest 87 = .ok (.bipush (-4), 2) := by decide +kernel
theorem dX4_addTest_89 : decode cX4_addTest 89 = .ok (.ireturn, 1) := by decide +kernel
theorem dX4_addTest_90 : decode cX4_addTest 90 = .ok (.aload_n 0, 1) := by decide +kernel
theorem dX4_addTest_91 : decode cX4_addTest 91 = .ok (.getfield 26, 3) := by decide +kernel
theorem dX4_addTest_94 : decode cX4_addTest 94 = .ok (.iconst 5, 1) := by decide +kernel
theorem dX4_addTest_95 : decode cX4_addTest 95 = .ok (.imul, 1) := by decide +kernel
theorem dX4_addTest_96 : decode cX4_addTest 96 = .ok (.istore 6, 2) := by decide +kernel
theorem dX4_addTest_98 : decode cX4_addTest 98 = .ok (.aload_n 0, 1) := by decide +kernel
theorem dX4_addTest_99 : decode cX4_addTest 99 = .ok (.getfield 9, 3) := by decide +kernel
theorem dX4_addTest_102 : decode cX4_addTest 102 = .ok (.iload 6, 2) := by decide +kernel
theorem dX4_addTest_104 : decode cX4_addTest 104 = .ok (.iconst 0, 1) := by decide +kernel
theorem dX4_addTest_105 : decode cX4_addTest 105 = .ok (.iadd, 1) := by decide +kernel
theorem dX4_addTest_106 : decode cX4_addTest 106 = .ok (.iload_n 1, 1) := by decide +kernel
theorem dX4_addTest_107 : decode cX4_addTest 107 = .ok (.iastore, 1) := by decide +kernel
theorem dX4_addTest_108 : decode cX4_addTest 108 = .ok (.aload_n 0, 1) := by decide +kernel
theorem dX4_addTest_109 : decode cX4_addTest 109 = .ok (.getfield 9, 3) := by decide +kernel
theorem dX4_addTest_112 : decode cX4_addTest 112 = .ok (.iload 6, 2) := by decide +kernel
theorem dX4_addTest_114 : decode cX4_addTest 114 = .ok (.iconst 1, 1) := by decide +kernel
theorem dX4_addTest_115 : decode cX4_addTest 115 = .ok (.iadd, 1) := by decide +kernel
theorem dX4_addTest_116 : decode cX4_addTest 116 = .ok (.iload_n 2, 1) := by decide +kernel
theorem dX4_addTest_117 : decode cX4_addTest 117 = .ok (.iastore, 1) := by decide +kernel
theorem dX4_addTest_118 : decode cX4_addTest 118 = .ok (.aload_n 0, 1) := by decide +kernel
theorem dX4_addTest_119 : decode cX4_addTest 119 = .ok (.getfield 9, 3) := by decide +kernel
theorem dX4_addTest_122 : decode cX4_addTest 122 = .ok (.iload 6, 2) := by decide +kernel
theorem dX4_addTest_124 : decode cX4_addTest 124 = .ok (.iconst 2, 1) := by decide +kernel
theorem dX4_addTest_125 : decode cX4_addTest 125 = .ok (.iadd, 1) := by decide +kernel
theorem dX4_addTest_126 : decode cX4_addTest 126 = .ok (.iload_n 3, 1) := by decide +kernel
theorem dX4_addTest_127 : decode cX4_addTest 127 = .ok (.iastore, 1) := by decide +kernel
theorem dX4_addTest_128 : decode cX4_addTest 128 = .ok (.aload_n 0, 1) := by decide +kernel
theorem dX4_addTest_129 : decode cX4_addTest 129 = .ok (.getfield 9, 3) := by decide +kernel
theorem dX4_addTest_132 : decode cX4_addTest 132 = .ok (.iload 6, 2) := by decide +kernel
theorem dX4_addTest_134 : decode cX4_addTest 134 = .ok (.iconst 3, 1) := by decide +kernel
theorem dX4_addTest_135 : decode cX4_addTest 135 = .ok (.iadd, 1) := by decide +kernel
theorem dX4_addTest_136 : decode cX4_addTest 136 = .ok (.iload 4, 2) := by decide +kernel
theorem dX4_addTest_138 : decode cX4_addTest 138 = .ok (.iastore, 1) := by decide +kernel
theorem dX4_addTest_139 : decode cX4_addTest 139 = .ok (.aload_n 0, 1) := by decide +kernel
theorem dX4_addTest_140 : decode cX4_addTest 140 = .ok (.getfield 9, 3) := by decide +kernel
theorem dX4_addTest_143 : decode cX4_addTest 143 = .ok (.iload 6, 2) := by decide +kernel
theorem dX4_addTest_145 : decode cX4_addTest 145 = .ok (.iconst 4, 1) := by decide +kernel
theorem dX4_addTest_146 : decode cX4_addTest 146 = .ok (.iadd, 1) := by decide +kernel
theorem dX4_addTest_147 : decode cX4_addTest 147 = .ok (.iload 5, 2) := by decide +kernel
theorem dX4_addTest_149 : decode cX4_addTest 149 = .ok (.iastore, 1) := by decide +kernel
theorem dX4_addTest_150 : decode cX4_addTest 150 = .ok (.aload_n 0, 1) := by decide +kernel
theorem dX4_addTest_151 : decode cX4_addTest 151 = .ok (.dup, 1) := by decide +kernel
theorem dX4_addTest_152 : decode cX4_addTest 152 = .ok (.getfield 26, 3) := by decide +kernel
theorem dX4_addTest_155 : decode cX4_addTest 155 = .ok (.iconst 1, 1) := by decide +kernel
theorem dX4_addTest_156 : decode cX4_addTest 156 = .ok (.iadd, 1) := by decide +kernel
theorem dX4_addTest_157 : decode cX4_addTest 157 = .ok (.putfield 26, 3) := by decide +kernel
theorem dX4_addTest_160 : decode cX4_addTest 160 = .ok (.aload_n 0, 1) := by decide +kernel
theorem dX4_addTest_161 : decode cX4_addTest 161 = .ok (.getfield 26, 3) := by decide +kernel
theorem dX4_addTest_164 : decode cX4_addTest 164 = .ok (.iconst 1, 1) := by decide +kernel
theorem dX4_addTest_165 : decode cX4_addTest 165 = .ok (.isub, 1) := by decide +kernel
theorem dX4_addTest_166 : decode cX4_addTest 166 = .ok (.ireturn, 1) := by decide +kernel
theorem dX4_cutLast_0 : decode cX4_cutLast 0 = .ok (.aload_n 0, 1) := by decide +kernel
theorem dX4_cutLast_1 : decode cX4_cutLast 1 = .ok (.getfield 26, 3) := by decide +kernel
theorem dX4_cutLast_4 : decode cX4_cutLast 4 = .ok (.ifCond .gt 6, 3) := by decide +kernel
theorem dX4_cutLast_7 : decode cX4_cutLast 7 = .ok (.bipush (-3), 2) := by decide +kernel
theorem dX4_cutLast_9 : decode cX4_cutLast 9 = .ok (.ireturn, 1) := by decide +kernel
theorem dX4_cutLast_10 : decode cX4_cutLast 10 = .ok (.aload_n 0, 1) := by decide +kernel
theorem dX4_cutLast_11 : decode cX4_cutLast 11 = .ok (.dup, 1) := by decide +kernel
theorem dX4_cutLast_12 : decode cX4_cutLast 12 = .ok (.getfield 26, 3) := by decide +kernel
theorem dX4_cutLast_15 : decode cX4_cutLast 15 = .ok (.iconst 1, 1) := by decide +kernel
theorem dX4_cutLast_16 : decode cX4_cutLast 16 = .ok (.isub, 1) := by decide +kernel
theorem dX4_cutLast_17 : decode cX4_cutLast 17 = .ok (.putfield 26, 3) := by decide +kernel
theorem dX4_cutLast_20 : decode cX4_cutLast 20 = .ok (.aload_n 0, 1) := by decide +kernel
theorem dX4_cutLast_21 : decode cX4_cutLast 21 = .ok (.getfield 18, 3) := by decide +kernel
theorem dX4_cutLast_24 : decode cX4_cutLast 24 = .ok (.iconst 1, 1) := by decide +kernel
theorem dX4_cutLast_25 : decode cX4_cutLast 25 = .ok (.aload_n 0, 1) := by decide +kernel
theorem dX4_cutLast_26 : decode cX4_cutLast 26 = .ok (.getfield 26, 3) := by decide +kernel
theorem dX4_cutLast_29 : decode cX4_cutLast 29 = .ok (.ishl, 1) := by decide +kernel
theorem dX4_cutLast_30 : decode cX4_cutLast 30 = .ok (.invokevirtual 30, 3) := by decide +kernel
theorem dX4_cutLast_33 : decode cX4_cutLast 33 = .ok (.aload_n 0, 1) := by decide +kernel
theorem dX4_cutLast_34 : decode cX4_cutLast 34 = .ok (.getfield 26, 3) := by decide +kernel
theorem dX4_cutLast_37 : decode cX4_cutLast 37 = .ok (.ireturn, 1) := by decide +kernel
theorem dX4_layTest_0 : decode cX4_layTest 0 = .ok (.aload_n 0, 1) := by decide +kernel
theorem dX4_layTest_1 : decode cX4_layTest 1 = .ok (.iload_n 1, 1) := by decide +kernel
theorem dX4_layTest_2 : decode cX4_layTest 2 = .ok (.invokevirtual 34, 3) := by decide +kernel
theorem dX4_layTest_5 : decode cX4_layTest 5 = .ok (.ifCond .ne 6, 3) := by decide +kernel
theorem dX4_layTest_8 : decode cX4_layTest 8 = .ok (.bipush (-2), 2) := by decide +kernel
theorem dX4_layTest_10 : decode cX4_layTest 10 = .ok (.ireturn, 1) := by decide +kernel
theorem dX4_layTest_11 : decode cX4_layTest 11 = .ok (.aload_n 0, 1) := by decide +kernel
theorem dX4_layTest_12 : decode cX4_layTest 12 = .ok (.getfield 18, 3) := by decide +kernel
theorem dX4_layTest_15 : decode cX4_layTest 15 = .ok (.iload_n 1, 1) := by decide +kernel
theorem dX4_layTest_16 : decode cX4_layTest 16 = .ok (.invokevirtual 37, 3) := by decide +kernel
theorem dX4_layTest_19 : decode cX4_layTest 19 = .ok (.iconst (-1), 1) := by decide +kernel
theorem dX4_layTest_20 : decode cX4_layTest 20 = .ok (.if_icmp .eq 6, 3) := by decide +kernel
theorem dX4_layTest_23 : decode cX4_layTest 23 = .ok (.bipush (-3), 2) := by decide +kernel
theorem dX4_layTest_25 : decode cX4_layTest 25 = .ok (.ireturn, 1) := by decide +kernel
theorem dX4_layTest_26 : decode cX4_layTest 26 = .ok (.aload_n 0, 1) := by decide +kernel
theorem dX4_layTest_27 : decode cX4_layTest 27 = .ok (.getfield 18, 3) := by decide +kernel
theorem dX4_layTest_30 : decode cX4_layTest 30 = .ok (.iload_n 1, 1) := by decide +kernel
theorem dX4_layTest_31 : decode cX4_layTest 31 = .ok (.invokevirtual 41, 3) := by decide +kernel
theorem dX4_layTest_34 : decode cX4_layTest 34 = .ok (.aload_n 0, 1) := by decide +kernel
theorem dX4_layTest_35 : decode cX4_layTest 35 = .ok (.getfield 18, 3) := by decide +kernel
theorem dX4_layTest_38 : decode cX4_layTest 38 = .ok (.getfield 44, 3) := by decide +kernel
theorem dX4_layTest_41 : decode cX4_layTest 41 = .ok (.ireturn, 1) := by decide +kernel
theorem dX4_wipeRow_0 : decode cX4_wipeRow 0 = .ok (.aload_n 0, 1) := by decide +kernel
theorem dX4_wipeRow_1 : decode cX4_wipeRow 1 = .ok (.getfield 18, 3) := by decide +kernel
theorem dX4_wipeRow_4 : decode cX4_wipeRow 4 = .ok (.getfield 44, 3) := by decide +kernel
theorem dX4_wipeRow_7 : decode cX4_wipeRow 7 = .ok (.istore_n 1, 1) := by decide +kernel
theorem dX4_wipeRow_8 : decode cX4_wipeRow 8 = .ok (.aload_n 0, 1) := by decide +kernel
theorem dX4_wipeRow_9 : decode cX4_wipeRow 9 = .ok (.getfield 18, 3) := by decide +kernel
theorem dX4_wipeRow_12 : decode cX4_wipeRow 12 = .ok (.invokevirtual 45, 3) := by decide +kernel
theorem dX4_wipeRow_15 : decode cX4_wipeRow 15 = .ok (.iload_n 1, 1) := by decide +kernel
theorem dX4_wipeRow_16 : decode cX4_wipeRow 16 = .ok (.ireturn, 1) := by decide +kernel
theorem dX4_changeStart_0 : decode cX4_changeStart 0 = .ok (.iload_n 1, 1) := by decide +kernel
theorem dX4_changeStart_1 : decode cX4_changeStart 1 = .ok (.invokestatic 22, 3) := by decide +kernel
theorem dX4_changeStart_4 : decode cX4_changeStart 4 = .ok (.ifCond .ne 6, 3) := by decide +kernel
theorem dX4_changeStart_7 : decode cX4_changeStart 7 = .ok (.bipush (-2), 2) := by decide +kernel
theorem dX4_changeStart_9 : decode cX4_changeStart 9 = .ok (.ireturn, 1) := by decide +kernel
theorem dX4_changeStart_10 : decode cX4_changeStart 10 = .ok (.aload_n 0, 1) := by decide +kernel
theorem dX4_changeStart_11 : decode cX4_changeStart 11 = .ok (.getfield 48, 3) := by decide +kernel
theorem dX4_changeStart_14 : decode cX4_changeStart 14 = .ok (.istore_n 2, 1) := by decide +kernel
theorem dX4_changeStart_15 : decode cX4_changeStart 15 = .ok (.aload_n 0, 1) := by decide +kernel
theorem dX4_changeStart_16 : decode cX4_changeStart 16 = .ok (.iload_n 1, 1) := by decide +kernel
theorem dX4_changeStart_17 : decode cX4_changeStart 17 = .ok (.putfield 48, 3) := by decide +kernel
theorem dX4_changeStart_20 : decode cX4_changeStart 20 = .ok (.iload_n 2, 1) := by decide +kernel
theorem dX4_changeStart_21 : decode cX4_changeStart 21 = .ok (.ireturn, 1) := by decide +kernel
theorem dX4_changeMode_0 : decode cX4_changeMode 0 = .ok (.iload_n 1, 1) := by decide +kernel
theorem dX4_changeMode_1 : decode cX4_changeMode 1 = .ok (.ifCond .eq 11, 3) := by decide +kernel
theorem dX4_changeMode_4 : decode cX4_changeMode 4 = .ok (.iload_n 1, 1) := by decide +kernel
theorem dX4_changeMode_5 : decode cX4_changeMode 5 = .ok (.iconst 1, 1) := by decide +kernel
theorem dX4_changeMode_6 : decode cX4_changeMode 6 = .ok (.if_icmp .eq 6, 3) := by decide +kernel
