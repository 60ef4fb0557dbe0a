theorem dX4_changeMode_9 : decode cX4_changeMode 9 = .ok (.bipush (-2), 2) := by decide +kernel
theorem dX4_changeMode_11 : decode cX4_changeMode 11 = .ok (.ireturn, 1) := by decide +kernel
theorem dX4_changeMode_12 : decode cX4_changeMode 12 = .ok (.aload_n 0, 1) := by decide +kernel
theorem dX4_changeMode_13 : decode cX4_changeMode 13 = .ok (.getfield 51, 3) := by decide +kernel
theorem dX4_changeMode_16 : decode cX4_changeMode 16 = .ok (.istore_n 2, 1) := by decide +kernel
theorem dX4_changeMode_17 : decode cX4_changeMode 17 = .ok (.aload_n 0, 1) := by decide +kernel
theorem dX4_changeMode_18 : decode cX4_changeMode 18 = .ok (.iload_n 1, 1) := by decide +kernel
theorem dX4_changeMode_19 : decode cX4_changeMode 19 = .ok (.putfield 51, 3) := by decide +kernel
theorem dX4_changeMode_22 : decode cX4_changeMode 22 = .ok (.iload_n 2, 1) := by decide +kernel
theorem dX4_changeMode_23 : decode cX4_changeMode 23 = .ok (.ireturn, 1) := by decide +kernel
theorem dX4_shuffleRow_0 : decode cX4_shuffleRow 0 = .ok (.iload_n 1, 1) := by decide +kernel
theorem dX4_shuffleRow_1 : decode cX4_shuffleRow 1 = .ok (.invokestatic 54, 3) := by decide +kernel
theorem dX4_shuffleRow_4 : decode cX4_shuffleRow 4 = .ok (.ifCond .ne 6, 3) := by decide +kernel
theorem dX4_shuffleRow_7 : decode cX4_shuffleRow 7 = .ok (.bipush (-2), 2) := by decide +kernel
theorem dX4_shuffleRow_9 : decode cX4_shuffleRow 9 = .ok (.ireturn, 1) := by decide +kernel
theorem dX4_shuffleRow_10 : decode cX4_shuffleRow 10 = .ok (.aload_n 0, 1) := by decide +kernel
theorem dX4_shuffleRow_11 : decode cX4_shuffleRow 11 = .ok (.getfield 18, 3) := by decide +kernel
theorem dX4_shuffleRow_14 : decode cX4_shuffleRow 14 = .ok (.aload_n 0, 1) := by decide +kernel
theorem dX4_shuffleRow_15 : decode cX4_shuffleRow 15 = .ok (.getfield 26, 3) := by decide +kernel
theorem dX4_shuffleRow_18 : decode cX4_shuffleRow 18 = .ok (.iload_n 1, 1) := by decide +kernel
theorem dX4_shuffleRow_19 : decode cX4_shuffleRow 19 = .ok (.invokevirtual 57, 3) := by decide +kernel
theorem dX4_shuffleRow_22 : decode cX4_shuffleRow 22 = .ok (.aload_n 0, 1) := by decide +kernel
theorem dX4_shuffleRow_23 : decode cX4_shuffleRow 23 = .ok (.getfield 18, 3) := by decide +kernel
theorem dX4_shuffleRow_26 : decode cX4_shuffleRow 26 = .ok (.getfield 44, 3) := by decide +kernel
theorem dX4_shuffleRow_29 : decode cX4_shuffleRow 29 = .ok (.ireturn, 1) := by decide +kernel
theorem dX4_trimAhead_0 : decode cX4_trimAhead 0 = .ok (.aload_n 0, 1) := by decide +kernel
theorem dX4_trimAhead_1 : decode cX4_trimAhead 1 = .ok (.iload_n 1, 1) := by decide +kernel
theorem dX4_trimAhead_2 : decode cX4_trimAhead 2 = .ok (.invokevirtual 61, 3) := by decide +kernel
theorem dX4_trimAhead_5 : decode cX4_trimAhead 5 = .ok (.istore_n 2, 1) := by decide +kernel
theorem dX4_trimAhead_6 : decode cX4_trimAhead 6 = .ok (.iload_n 2, 1) := by decide +kernel
theorem dX4_trimAhead_7 : decode cX4_trimAhead 7 = .ok (.ifCond .ge 5, 3) := by decide +kernel
theorem dX4_trimAhead_10 : decode cX4_trimAhead 10 = .ok (.iload_n 2, 1) := by decide +kernel
theorem dX4_trimAhead_11 : decode cX4_trimAhead 11 = .ok (.ireturn, 1) := by decide +kernel
theorem dX4_trimAhead_12 : decode cX4_trimAhead 12 = .ok (.iload_n 2, 1) := by decide +kernel
theorem dX4_trimAhead_13 : decode cX4_trimAhead 13 = .ok (.aload_n 0, 1) := by decide +kernel
theorem dX4_trimAhead_14 : decode cX4_trimAhead 14 = .ok (.iload_n 2, 1) := by decide +kernel
theorem dX4_trimAhead_15 : decode cX4_trimAhead 15 = .ok (.iload_n 1, 1) := by decide +kernel
theorem dX4_trimAhead_16 : decode cX4_trimAhead 16 = .ok (.invokestatic 64, 3) := by decide +kernel
theorem dX4_trimAhead_19 : decode cX4_trimAhead 19 = .ok (.iconst (-1), 1) := by decide +kernel
theorem dX4_trimAhead_20 : decode cX4_trimAhead 20 = .ok (.ixor, 1) := by decide +kernel
theorem dX4_trimAhead_21 : decode cX4_trimAhead 21 = .ok (.iand, 1) := by decide +kernel
theorem dX4_trimAhead_22 : decode cX4_trimAhead 22 = .ok (.istore_n 3, 1) := by decide +kernel
theorem dX4_trimAhead_23 : decode cX4_trimAhead 23 = .ok (.aload_n 0, 1) := by decide +kernel
theorem dX4_trimAhead_24 : decode cX4_trimAhead 24 = .ok (.getfield 18, 3) := by decide +kernel
theorem dX4_trimAhead_27 : decode cX4_trimAhead 27 = .ok (.iload_n 3, 1) := by decide +kernel
theorem dX4_trimAhead_28 : decode cX4_trimAhead 28 = .ok (.invokevirtual 30, 3) := by decide +kernel
theorem dX4_trimAhead_31 : decode cX4_trimAhead 31 = .ok (.iload_n 3, 1) := by decide +kernel
theorem dX4_trimAhead_32 : decode cX4_trimAhead 32 = .ok (.invokestatic 70, 3) := by decide +kernel
theorem dX4_trimAhead_35 : decode cX4_trimAhead 35 = .ok (.ireturn, 1) := by decide +kernel
theorem dX4_hasTest_0 : decode cX4_hasTest 0 = .ok (.iload_n 1, 1) := by decide +kernel
theorem dX4_hasTest_1 : decode cX4_hasTest 1 = .ok (.ifCond .lt 15, 3) := by decide +kernel
theorem dX4_hasTest_4 : decode cX4_hasTest 4 = .ok (.iload_n 1, 1) := by decide +kernel
theorem dX4_hasTest_5 : decode cX4_hasTest 5 = .ok (.aload_n 0, 1) := by decide +kernel
theorem dX4_hasTest_6 : decode cX4_hasTest 6 = .ok (.getfield 26, 3) := by decide +kernel
theorem dX4_hasTest_9 : decode cX4_hasTest 9 = .ok (.if_icmp .ge 7, 3) := by decide +kernel
theorem dX4_hasTest_12 : decode cX4_hasTest 12 = .ok (.iconst 1, 1) := by decide +kernel
theorem dX4_hasTest_13 : decode cX4_hasTest 13 = .ok (.goto 4, 3) := by decide +kernel
theorem dX4_hasTest_16 : decode cX4_hasTest 16 = .ok (.iconst 0, 1) := by decide +kernel
theorem dX4_hasTest_17 : decode cX4_hasTest 17 = .ok (.ireturn, 1) := by decide +kernel
theorem dX4_mask_0 : decode cX4_mask 0 = .ok (.iload_n 1, 1) := by decide +kernel
theorem dX4_mask_1 : decode cX4_mask 1 = .ok (.iconst 5, 1) := by decide +kernel
theorem dX4_mask_2 : decode cX4_mask 2 = .ok (.imul, 1) := by decide +kernel
theorem dX4_mask_3 : decode cX4_mask 3 = .ok (.iload_n 2, 1) := by decide +kernel
theorem dX4_mask_4 : decode cX4_mask 4 = .ok (.iadd, 1) := by decide +kernel
theorem dX4_mask_5 : decode cX4_mask 5 = .ok (.istore_n 3, 1) := by decide +kernel
theorem dX4_mask_6 : decode cX4_mask 6 = .ok (.iload_n 3, 1) := by decide +kernel
theorem dX4_mask_7 : decode cX4_mask 7 = .ok (.ifCond .lt 21, 3) := by decide +kernel
theorem dX4_mask_10 : decode cX4_mask 10 = .ok (.iload_n 3, 1) := by decide +kernel
theorem dX4_mask_11 : decode cX4_mask 11 = .ok (.aload_n 0, 1) := by decide +kernel
theorem dX4_mask_12 : decode cX4_mask 12 = .ok (.getfield 9, 3) := by decide +kernel
theorem dX4_mask_15 : decode cX4_mask 15 = .ok (.arraylength, 1) := by decide +kernel
theorem dX4_mask_16 : decode cX4_mask 16 = .ok (.if_icmp .ge 12, 3) := by decide +kernel
theorem dX4_mask_19 : decode cX4_mask 19 = .ok (.aload_n 0, 1) := by decide +kernel
theorem dX4_mask_20 : decode cX4_mask 20 = .ok (.getfield 9, 3) := by decide +kernel
theorem dX4_mask_23 : decode cX4_mask 23 = .ok (.iload_n 3, 1) := by decide +kernel
theorem dX4_mask_24 : decode cX4_mask 24 = .ok (.iaload, 1) := by decide +kernel
theorem dX4_mask_25 : decode cX4_mask 25 = .ok (.goto 4, 3) := by decide +kernel
theorem dX4_mask_28 : decode cX4_mask 28 = .ok (.iconst 0, 1) := by decide +kernel
theorem dX4_mask_29 : decode cX4_mask 29 = .ok (.ireturn, 1) := by decide +kernel
theorem dX4_wrongCells_0 : decode cX4_wrongCells 0 = .ok (.iload_n 1, 1) := by decide +kernel
theorem dX4_wrongCells_1 : decode cX4_wrongCells 1 = .ok (.ifCond .lt 9, 3) := by decide +kernel
theorem dX4_wrongCells_4 : decode cX4_wrongCells 4 = .ok (.iload_n 1, 1) := by decide +kernel
theorem dX4_wrongCells_5 : decode cX4_wrongCells 5 = .ok (.bipush 8, 2) := by decide +kernel
theorem dX4_wrongCells_7 : decode cX4_wrongCells 7 = .ok (.if_icmp .lt 5, 3) := by decide +kernel
theorem dX4_wrongCells_10 : decode cX4_wrongCells 10 = .ok (.iconst 0, 1) := by decide +kernel
theorem dX4_wrongCells_11 : decode cX4_wrongCells 11 = .ok (.ireturn, 1) := by decide +kernel
theorem dX4_wrongCells_12 : decode cX4_wrongCells 12 = .ok (.iload_n 1, 1) := by decide +kernel
theorem dX4_wrongCells_13 : decode cX4_wrongCells 13 = .ok (.iconst 5, 1) := by decide +kernel
theorem dX4_wrongCells_14 : decode cX4_wrongCells 14 = .ok (.imul, 1) := by decide +kernel
theorem dX4_wrongCells_15 : decode cX4_wrongCells 15 = .ok (.istore_n 3, 1) := by decide +kernel
theorem dX4_wrongCells_16 : decode cX4_wrongCells 16 = .ok (.iload_n 2, 1) := by decide +kernel
theorem dX4_wrongCells_17 : decode cX4_wrongCells 17 = .ok (.aload_n 0, 1) := by decide +kernel
theorem dX4_wrongCells_18 : decode cX4_wrongCells 18 = .ok (.getfield 9, 3) := by decide +kernel
theorem dX4_wrongCells_21 : decode cX4_wrongCells 21 = .ok (.iload_n 3, 1) := by decide +kernel
theorem dX4_wrongCells_22 : decode cX4_wrongCells 22 = .ok (.iconst 0, 1) := by decide +kernel
theorem dX4_wrongCells_23 : decode cX4_wrongCells 23 = .ok (.iadd, 1) := by decide +kernel
theorem dX4_wrongCells_24 : decode cX4_wrongCells 24 = .ok (.iaload, 1) := by decide +kernel
theorem dX4_wrongCells_25 : decode cX4_wrongCells 25 = .ok (.iand, 1) := by decide +kernel
theorem dX4_wrongCells_26 : decode cX4_wrongCells 26 = .ok (.iload_n 2, 1) := by decide +kernel
theorem dX4_wrongCells_27 : decode cX4_wrongCells 27 = .ok (.iconst (-1), 1) := by decide +kernel
theorem dX4_wrongCells_28 : decode cX4_wrongCells 28 = .ok (.ixor, 1) := by decide +kernel
theorem dX4_wrongCells_29 : decode cX4_wrongCells 29 = .ok (.aload_n 0, 1) := by decide +kernel
theorem dX4_wrongCells_30 : decode cX4_wrongCells 30 = .ok (.getfield 9, 3) := by decide +kernel
theorem dX4_wrongCells_33 : decode cX4_wrongCells 33 = .ok (.iload_n 3, 1) := by decide +kernel
theorem dX4_wrongCells_34 : decode cX4_wrongCells 34 = .ok (.iconst 1, 1) := by decide +kernel
theorem dX4_wrongCells_35 : decode cX4_wrongCells 35 = .ok (.iadd, 1) := by decide +kernel
theorem dX4_wrongCells_36 : decode cX4_wrongCells 36 = .ok (.iaload, 1) := by decide +kernel
theorem dX4_wrongCells_37 : decode cX4_wrongCells 37 = .ok (.iand, 1) := by decide +kernel
theorem dX4_wrongCells_38 : decode cX4_wrongCells 38 = .ok (.ior, 1) := by decide +kernel
theorem dX4_wrongCells_39 : decode cX4_wrongCells 39 = .ok (.ireturn, 1) := by decide +kernel
theorem dX4_passesOn_0 : decode cX4_passesOn 0 = .ok (.aload_n 0, 1) := by decide +kernel
theorem dX4_passesOn_1 : decode cX4_passesOn 1 = .ok (.iload_n 1, 1) := by decide +kernel
theorem dX4_passesOn_2 : decode cX4_passesOn 2 = .ok (.iload_n 2, 1) := by decide +kernel
theorem dX4_passesOn_3 : decode cX4_passesOn 3 = .ok (.invokevirtual 75, 3) := by decide +kernel
theorem dX4_passesOn_6 : decode cX4_passesOn 6 = .ok (.ifCond .ne 7, 3) := by decide +kernel
theorem dX4_passesOn_9 : decode cX4_passesOn 9 = .ok (.iconst 1, 1) := by decide +kernel
theorem dX4_passesOn_10 : decode cX4_passesOn 10 = .ok (.goto 4, 3) := by decide +kernel
theorem dX4_passesOn_13 : decode cX4_passesOn 13 = .ok (.iconst 0, 1) := by decide +kernel
theorem dX4_passesOn_14 : decode cX4_passesOn 14 = .ok (.ireturn, 1) := by decide +kernel
theorem dX4_isFlippedOn_0 : decode cX4_isFlippedOn 0 = .ok (.aload_n 0, 1) := by decide +kernel
theorem dX4_isFlippedOn_1 : decode cX4_isFlippedOn 1 = .ok (.iload_n 1, 1) := by decide +kernel
theorem dX4_isFlippedOn_2 : decode cX4_isFlippedOn 2 = .ok (.iload_n 2, 1) := by decide +kernel
theorem dX4_isFlippedOn_3 : decode cX4_isFlippedOn 3 = .ok (.invokevirtual 79, 3) := by decide +kernel
theorem dX4_isFlippedOn_6 : decode cX4_isFlippedOn 6 = .ok (.aload_n 0, 1) := by decide +kernel
theorem dX4_isFlippedOn_7 : decode cX4_isFlippedOn 7 = .ok (.iload_n 1, 1) := by decide +kernel
theorem dX4_isFlippedOn_8 : decode cX4_isFlippedOn 8 = .ok (.aload_n 0, 1) := by decide +kernel
theorem dX4_isFlippedOn_9 : decode cX4_isFlippedOn 9 = .ok (.getfield 48, 3) := by decide +kernel
theorem dX4_isFlippedOn_12 : decode cX4_isFlippedOn 12 = .ok (.invokevirtual 79, 3) := by decide +kernel
theorem dX4_isFlippedOn_15 : decode cX4_isFlippedOn 15 = .ok (.if_icmp .eq 7, 3) := by decide +kernel
theorem dX4_isFlippedOn_18 : decode cX4_isFlippedOn 18 = .ok (.iconst 1, 1) := by decide +kernel
theorem dX4_isFlippedOn_19 : decode cX4_isFlippedOn 19 = .ok (.goto 4, 3) := by decide +kernel
theorem dX4_isFlippedOn_22 : decode cX4_isFlippedOn 22 = .ok (.iconst 0, 1) := by decide +kernel
theorem dX4_isFlippedOn_23 : decode cX4_isFlippedOn 23 = .ok (.ireturn, 1) := by decide +kernel
theorem dX4_cellsAfter_0 : decode cX4_cellsAfter 0 = .ok (.iload_n 1, 1) := by decide +kernel
theorem dX4_cellsAfter_1 : decode cX4_cellsAfter 1 = .ok (.ifCond .lt 25, 3) := by decide +kernel
theorem dX4_cellsAfter_4 : decode cX4_cellsAfter 4 = .ok (.iload_n 1, 1) := by decide +kernel
theorem dX4_cellsAfter_5 : decode cX4_cellsAfter 5 = .ok (.bipush 8, 2) := by decide +kernel
theorem dX4_cellsAfter_7 : decode cX4_cellsAfter 7 = .ok (.if_icmp .ge 19, 3) := by decide +kernel
theorem dX4_cellsAfter_10 : decode cX4_cellsAfter 10 = .ok (.aload_n 0, 1) := by decide +kernel
theorem dX4_cellsAfter_11 : decode cX4_cellsAfter 11 = .ok (.getfield 51, 3) := by decide +kernel
theorem dX4_cellsAfter_14 : decode cX4_cellsAfter 14 = .ok (.ifCond .ne 14, 3) := by decide +kernel
theorem dX4_cellsAfter_17 : decode cX4_cellsAfter 17 = .ok (.aload_n 0, 1) := by decide +kernel
theorem dX4_cellsAfter_18 : decode cX4_cellsAfter 18 = .ok (.iload_n 1, 1) := by decide +kernel
theorem dX4_cellsAfter_19 : decode cX4_cellsAfter 19 = .ok (.iload_n 2, 1) := by decide +kernel
theorem dX4_cellsAfter_20 : decode cX4_cellsAfter 20 = .ok (.invokevirtual 75, 3) := by decide +kernel
theorem dX4_cellsAfter_23 : decode cX4_cellsAfter 23 = .ok (.ifCond .eq 5, 3) := by decide +kernel
theorem dX4_cellsAfter_26 : decode cX4_cellsAfter 26 = .ok (.iload_n 2, 1) := by decide +kernel
theorem dX4_cellsAfter_27 : decode cX4_cellsAfter 27 = .ok (.ireturn, 1) := by decide +kernel
theorem dX4_cellsAfter_28 : decode cX4_cellsAfter 28 = .ok (.iload_n 1, 1) := by decide +kernel
theorem dX4_cellsAfter_29 : decode cX4_cellsAfter 29 = .ok (.iconst 5, 1) := by decide +kernel
theorem dX4_cellsAfter_30 : decode cX4_cellsAfter 30 = .ok (.imul, 1) := by decide +kernel
theorem dX4_cellsAfter_31 : decode cX4_cellsAfter 31 = .ok (.istore_n 3, 1) := by decide +kernel
theorem dX4_cellsAfter_32 : decode cX4_cellsAfter 32 = .ok (.iload_n 2, 1) := by decide +kernel
theorem dX4_cellsAfter_33 : decode cX4_cellsAfter 33 = .ok (.aload_n 0, 1) := by decide +kernel
theorem dX4_cellsAfter_34 : decode cX4_cellsAfter 34 = .ok (.getfield 9, 3) := by decide +kernel
theorem dX4_cellsAfter_37 : decode cX4_cellsAfter 37 = .ok (.iload_n 3, 1) := by decide +kernel
theorem dX4_cellsAfter_38 : decode cX4_cellsAfter 38 = .ok (.iconst 2, 1) := by decide +kernel
theorem dX4_cellsAfter_39 : decode cX4_cellsAfter 39 = .ok (.iadd, 1) := by decide +kernel
theorem dX4_cellsAfter_40 : decode cX4_cellsAfter 40 = .ok (.iaload, 1) := by decide +kernel
theorem dX4_cellsAfter_41 : decode cX4_cellsAfter 41 = .ok (.iconst (-1), 1) := by decide +kernel
theorem dX4_cellsAfter_42 : decode cX4_cellsAfter 42 = .ok (.ixor, 1) := by decide +kernel
theorem dX4_cellsAfter_43 : decode cX4_cellsAfter 43 = .ok (.iand, 1) := by decide +kernel
theorem dX4_cellsAfter_44 : decode cX4_cellsAfter 44 = .ok (.aload_n 0, 1) := by decide +kernel
theorem dX4_cellsAfter_45 : decode cX4_cellsAfter 45 = .ok (.getfield 9, 3) := by decide +kernel
theorem dX4_cellsAfter_48 : decode cX4_cellsAfter 48 = .ok (.iload_n 3, 1) := by decide +kernel
theorem dX4_cellsAfter_49 : decode cX4_cellsAfter 49 = .ok (.iconst 3, 1) := by decide +kernel
theorem dX4_cellsAfter_50 : decode cX4_cellsAfter 50 = .ok (.iadd, 1) := by decide +kernel
theorem dX4_cellsAfter_51 : decode cX4_cellsAfter 51 = .ok (.iaload, 1) := by decide +kernel
theorem dX4_cellsAfter_52 : decode cX4_cellsAfter 52 = .ok (.ior, 1) := by decide +kernel
theorem dX4_cellsAfter_53 : decode cX4_cellsAfter 53 = .ok (.aload_n 0, 1) := by decide +kernel
theorem dX4_cellsAfter_54 : decode cX4_cellsAfter 54 = .ok (.getfield 9, 3) := by decide +kernel
theorem dX4_cellsAfter_57 : decode cX4_cellsAfter 57 = .ok (.iload_n 3, 1) := by decide +kernel
theorem dX4_cellsAfter_58 : decode cX4_cellsAfter 58 = .ok (.iconst 4, 1) := by decide +kernel
theorem dX4_cellsAfter_59 : decode cX4_cellsAfter 59 = .ok (.iadd, 1) := by decide +kernel
theorem dX4_cellsAfter_60 : decode cX4_cellsAfter 60 = .ok (.iaload, 1) := by decide +kernel
theorem dX4_cellsAfter_61 : decode cX4_cellsAfter 61 = .ok (.ixor, 1) := by decide +kernel
theorem dX4_cellsAfter_62 : decode cX4_cellsAfter 62 = .ok (.ireturn, 1) := by decide +kernel
theorem dX4_cellsBehind_0 : decode cX4_cellsBehind 0 = .ok (.aload_n 0, 1) := by decide +kernel
theorem dX4_cellsBehind_1 : decode cX4_cellsBehind 1 = .ok (.getfield 48, 3) := by decide +kernel
theorem dX4_cellsBehind_4 : decode cX4_cellsBehind 4 = .ok (.istore_n 2, 1) := by decide +kernel
theorem dX4_cellsBehind_5 : decode cX4_cellsBehind 5 = .ok (.iconst 0, 1) := by decide +kernel
theorem dX4_cellsBehind_6 : decode cX4_cellsBehind 6 = .ok (.istore_n 3, 1) := by decide +kernel
theorem dX4_cellsBehind_7 : decode cX4_cellsBehind 7 = .ok (.iload_n 3, 1) := by decide +kernel
theorem dX4_cellsBehind_8 : decode cX4_cellsBehind 8 = .ok (.aload_n 0, 1) := by decide +kernel
theorem dX4_cellsBehind_9 : decode cX4_cellsBehind 9 = .ok (.getfield 18, 3) := by decide +kernel
theorem dX4_cellsBehind_12 : decode cX4_cellsBehind 12 = .ok (.getfield 44, 3) := by decide +kernel
theorem dX4_cellsBehind_15 : decode cX4_cellsBehind 15 = .ok (.if_icmp .ge 36, 3) := by decide +kernel
theorem dX4_cellsBehind_18 : decode cX4_cellsBehind 18 = .ok (.aload_n 0, 1) := by decide +kernel
theorem dX4_cellsBehind_19 : decode cX4_cellsBehind 19 = .ok (.getfield 18, 3) := by decide +kernel
theorem dX4_cellsBehind_22 : decode cX4_cellsBehind 22 = .ok (.iload_n 3, 1) := by decide +kernel
theorem dX4_cellsBehind_23 : decode cX4_cellsBehind 23 = .ok (.invokevirtual 83, 3) := by decide +kernel
theorem dX4_cellsBehind_26 : decode cX4_cellsBehind 26 = .ok (.istore 4, 2) := by decide +kernel
theorem dX4_cellsBehind_28 : decode cX4_cellsBehind 28 = .ok (.iload 4, 2) := by decide +kernel
theorem dX4_cellsBehind_30 : decode cX4_cellsBehind 30 = .ok (.iload_n 1, 1) := by decide +kernel
theorem dX4_cellsBehind_31 : decode cX4_cellsBehind 31 = .ok (.invokestatic 86, 3) := by decide +kernel
theorem dX4_cellsBehind_34 : decode cX4_cellsBehind 34 = .ok (.ifCond .eq 11, 3) := by decide +kernel
theorem dX4_cellsBehind_37 : decode cX4_cellsBehind 37 = .ok (.aload_n 0, 1) := by decide +kernel
theorem dX4_cellsBehind_38 : decode cX4_cellsBehind 38 = .ok (.iload 4, 2) := by decide +kernel
theorem dX4_cellsBehind_40 : decode cX4_cellsBehind 40 = .ok (.iload_n 2, 1) := by decide +kernel
theorem dX4_cellsBehind_41 : decode cX4_cellsBehind 41 = .ok (.invokevirtual 89, 3) := by decide +kernel
theorem dX4_cellsBehind_44 : decode cX4_cellsBehind 44 = .ok (.istore_n 2, 1) := by decide +kernel
theorem dX4_cellsBehind_45 : decode cX4_cellsBehind 45 = .ok (.iinc 3 1, 3) := by decide +kernel
theorem dX4_cellsBehind_48 : decode cX4_cellsBehind 48 = .ok (.goto (-41), 3) := by decide +kernel
theorem dX4_cellsBehind_51 : decode cX4_cellsBehind 51 = .ok (.iload_n 2, 1) := by decide +kernel
theorem dX4_cellsBehind_52 : decode cX4_cellsBehind 52 = .ok (.ireturn, 1) := by decide +kernel
theorem dX4_isFlippedBehind_0 : decode cX4_isFlippedBehind 0 = .ok (.aload_n 0, 1) := by decide +kernel
theorem dX4_isFlippedBehind_1 : decode cX4_isFlippedBehind 1 = .ok (.iload_n 2, 1) := by decide +kernel
theorem dX4_isFlippedBehind_2 : decode cX4_isFlippedBehind 2 = .ok (.aload_n 0, 1) := by decide +kernel
theorem dX4_isFlippedBehind_3 : decode cX4_isFlippedBehind 3 = .ok (.iload_n 1, 1) := by decide +kernel
theorem dX4_isFlippedBehind_4 : decode cX4_isFlippedBehind 4 = .ok (.invokevirtual 92, 3) := by decide +kernel
theorem dX4_isFlippedBehind_7 : decode cX4_isFlippedBehind 7 = .ok (.invokevirtual 95, 3) := by decide +kernel
theorem dX4_isFlippedBehind_10 : decode cX4_isFlippedBehind 10 = .ok (.ireturn, 1) := by decide +kernel
theorem dX4_flippingAhead_0 : decode cX4_flippingAhead 0 = .ok (.aload_n 0, 1) := by decide +kernel
theorem dX4_flippingAhead_1 : decode cX4_flippingAhead 1 = .ok (.iload_n 1, 1) := by decide +kernel
theorem dX4_flippingAhead_2 : decode cX4_flippingAhead 2 = .ok (.invokevirtual 34, 3) := by decide +kernel
theorem dX4_flippingAhead_5 : decode cX4_flippingAhead 5 = .ok (.ifCond .ne 6, 3) := by decide +kernel
theorem dX4_flippingAhead_8 : decode cX4_flippingAhead 8 = .ok (.bipush (-2), 2) := by decide +kernel
theorem dX4_flippingAhead_10 : decode cX4_flippingAhead 10 = .ok (.ireturn, 1) := by decide +kernel
theorem dX4_flippingAhead_11 : decode cX4_flippingAhead 11 = .ok (.aload_n 0, 1) := by decide +kernel
theorem dX4_flippingAhead_12 : decode cX4_flippingAhead 12 = .ok (.getfield 18, 3) := by decide +kernel
theorem dX4_flippingAhead_15 : decode cX4_flippingAhead 15 = .ok (.iload_n 1, 1) := by decide +kernel
theorem dX4_flippingAhead_16 : decode cX4_flippingAhead 16 = .ok (.invokevirtual 37, 3) := by decide +kernel
theorem dX4_flippingAhead_19 : decode cX4_flippingAhead 19 = .ok (.istore_n 2, 1) := by decide +kernel
theorem dX4_flippingAhead_20 : decode cX4_flippingAhead 20 = .ok (.iload_n 2, 1) := by decide +kernel
theorem dX4_flippingAhead_21 : decode cX4_flippingAhead 21 = .ok (.iconst (-1), 1) := by decide +kernel
theorem dX4_flippingAhead_22 : decode cX4_flippingAhead 22 = .ok (.if_icmp .ne 6, 3) := by decide +kernel
theorem dX4_flippingAhead_25 : decode cX4_flippingAhead 25 = .ok (.bipush (-3), 2) := by decide +kernel
theorem dX4_flippingAhead_27 : decode cX4_flippingAhead 27 = .ok (.ireturn, 1) := by decide +kernel
theorem dX4_flippingAhead_28 : decode cX4_flippingAhead 28 = .ok (.aload_n 0, 1) := by decide +kernel
theorem dX4_flippingAhead_29 : decode cX4_flippingAhead 29 = .ok (.getfield 18, 3) := by decide +kernel
theorem dX4_flippingAhead_32 : decode cX4_flippingAhead 32 = .ok (.iload_n 2, 1) := by decide +kernel
theorem dX4_flippingAhead_33 : decode cX4_flippingAhead 33 = .ok (.invokevirtual 98, 3) := by decide +kernel
theorem dX4_flippingAhead_36 : decode cX4_flippingAhead 36 = .ok (.istore_n 3, 1) := by decide +kernel
theorem dX4_flippingAhead_37 : decode cX4_flippingAhead 37 = .ok (.aload_n 0, 1) := by decide +kernel
theorem dX4_flippingAhead_38 : decode cX4_flippingAhead 38 = .ok (.iload_n 3, 1) := by decide +kernel
theorem dX4_flippingAhead_39 : decode cX4_flippingAhead 39 = .ok (.iload_n 1, 1) := by decide +kernel
theorem dX4_flippingAhead_40 : decode cX4_flippingAhead 40 = .ok (.invokevirtual 101, 3) := by decide +kernel
theorem dX4_flippingAhead_43 : decode cX4_flippingAhead 43 = .ok (.ifCond .eq 7, 3) := by decide +kernel
theorem dX4_flippingAhead_46 : decode cX4_flippingAhead 46 = .ok (.iload_n 3, 1) := by decide +kernel
theorem dX4_flippingAhead_47 : decode cX4_flippingAhead 47 = .ok (.goto 5, 3) := by decide +kernel
theorem dX4_flippingAhead_50 : decode cX4_flippingAhead 50 = .ok (.bipush (-3), 2) := by decide +kernel
theorem dX4_flippingAhead_52 : decode cX4_flippingAhead 52 = .ok (.ireturn, 1) := by decide +kernel
theorem dX4_passingIn_0 : decode cX4_passingIn 0 = .ok (.iconst 0, 1) := by decide +kernel
theorem dX4_passingIn_1 : decode cX4_passingIn 1 = .ok (.istore_n 2, 1) := by decide +kernel
theorem dX4_passingIn_2 : decode cX4_passingIn 2 = .ok (.aload_n 0, 1) := by decide +kernel
theorem dX4_passingIn_3 : decode cX4_passingIn 3 = .ok (.getfield 48, 3) := by decide +kernel
theorem dX4_passingIn_6 : decode cX4_passingIn 6 = .ok (.istore_n 3, 1) := by decide +kernel
theorem dX4_passingIn_7 : decode cX4_passingIn 7 = .ok (.iconst 0, 1) := by decide +kernel
theorem dX4_passingIn_8 : decode cX4_passingIn 8 = .ok (.istore 4, 2) := by decide +kernel
theorem dX4_passingIn_10 : decode cX4_passingIn 10 = .ok (.iload 4, 2) := by decide +kernel
theorem dX4_passingIn_12 : decode cX4_passingIn 12 = .ok (.aload_n 1, 1) := by decide +kernel
theorem dX4_passingIn_13 : decode cX4_passingIn 13 = .ok (.getfield 44, 3) := by decide +kernel
theorem dX4_passingIn_16 : decode cX4_passingIn 16 = .ok (.if_icmp .ge 41, 3) := by decide +kernel
theorem dX4_passingIn_19 : decode cX4_passingIn 19 = .ok (.aload_n 1, 1) := by decide +kernel
theorem dX4_passingIn_20 : decode cX4_passingIn 20 = .ok (.iload 4, 2) := by decide +kernel
theorem dX4_passingIn_22 : decode cX4_passingIn 22 = .ok (.invokevirtual 83, 3) := by decide +kernel
theorem dX4_passingIn_25 : decode cX4_passingIn 25 = .ok (.istore 5, 2) := by decide +kernel
theorem dX4_passingIn_27 : decode cX4_passingIn 27 = .ok (.iload_n 2, 1) := by decide +kernel
theorem dX4_passingIn_28 : decode cX4_passingIn 28 = .ok (.aload_n 0, 1) := by decide +kernel
theorem dX4_passingIn_29 : decode cX4_passingIn 29 = .ok (.iload 5, 2) := by decide +kernel
theorem dX4_passingIn_31 : decode cX4_passingIn 31 = .ok (.iload_n 3, 1) := by decide +kernel
theorem dX4_passingIn_32 : decode cX4_passingIn 32 = .ok (.invokevirtual 79, 3) := by decide +kernel
theorem dX4_passingIn_35 : decode cX4_passingIn 35 = .ok (.invokestatic 104, 3) := by decide +kernel
theorem dX4_passingIn_38 : decode cX4_passingIn 38 = .ok (.iload 5, 2) := by decide +kernel
theorem dX4_passingIn_40 : decode cX4_passingIn 40 = .ok (.ishl, 1) := by decide +kernel
theorem dX4_passingIn_41 : decode cX4_passingIn 41 = .ok (.ior, 1) := by decide +kernel
theorem dX4_passingIn_42 : decode cX4_passingIn 42 = .ok (.istore_n 2, 1) := by decide +kernel
theorem dX4_passingIn_43 : decode cX4_passingIn 43 = .ok (.aload_n 0, 1) := by decide +kernel
theorem dX4_passingIn_44 : decode cX4_passingIn 44 = .ok (.iload 5, 2) := by decide +kernel
theorem dX4_passingIn_46 : decode cX4_passingIn 46 = .ok (.iload_n 3, 1) := by decide +kernel
theorem dX4_passingIn_47 : decode cX4_passingIn 47 = .ok (.invokevirtual 89, 3) := by decide +kernel
theorem dX4_passingIn_50 : decode cX4_passingIn 50 = .ok (.istore_n 3, 1) := by decide +kernel
theorem dX4_passingIn_51 : decode cX4_passingIn 51 = .ok (.iinc 4 1, 3) := by decide +kernel
theorem dX4_passingIn_54 : decode cX4_passingIn 54 = .ok (.goto (-44), 3) := by decide +kernel
theorem dX4_passingIn_57 : decode cX4_passingIn 57 = .ok (.iload_n 2, 1) := by decide +kernel
theorem dX4_passingIn_58 : decode cX4_passingIn 58 = .ok (.ireturn, 1) := by decide +kernel
theorem dX4_passingAlone_0 : decode cX4_passingAlone 0 = .ok (.iconst 0, 1) := by decide +kernel
theorem dX4_passingAlone_1 : decode cX4_passingAlone 1 = .ok (.istore_n 1, 1) := by decide +kernel
theorem dX4_passingAlone_2 : decode cX4_passingAlone 2 = .ok (.iconst 0, 1) := by decide +kernel
theorem dX4_passingAlone_3 : decode cX4_passingAlone 3 = .ok (.istore_n 2, 1) := by decide +kernel
theorem dX4_passingAlone_4 : decode cX4_passingAlone 4 = .ok (.iload_n 2, 1) := by decide +kernel
theorem dX4_passingAlone_5 : decode cX4_passingAlone 5 = .ok (.aload_n 0, 1) := by decide +kernel
theorem dX4_passingAlone_6 : decode cX4_passingAlone 6 = .ok (.getfield 26, 3) := by decide +kernel
theorem dX4_passingAlone_9 : decode cX4_passingAlone 9 = .ok (.if_icmp .ge 26, 3) := by decide +kernel
theorem dX4_passingAlone_12 : decode cX4_passingAlone 12 = .ok (.iload_n 1, 1) := by decide +kernel
theorem dX4_passingAlone_13 : decode cX4_passingAlone 13 = .ok (.aload_n 0, 1) := by decide +kernel
theorem dX4_passingAlone_14 : decode cX4_passingAlone 14 = .ok (.iload_n 2, 1) := by decide +kernel
theorem dX4_passingAlone_15 : decode cX4_passingAlone 15 = .ok (.aload_n 0, 1) := by decide +kernel
theorem dX4_passingAlone_16 : decode cX4_passingAlone 16 = .ok (.getfield 48, 3) := by decide +kernel
theorem dX4_passingAlone_19 : decode cX4_passingAlone 19 = .ok (.invokevirtual 79, 3) := by decide +kernel
theorem dX4_passingAlone_22 : decode cX4_passingAlone 22 = .ok (.invokestatic 104, 3) := by decide +kernel
theorem dX4_passingAlone_25 : decode cX4_passingAlone 25 = .ok (.iload_n 2, 1) := by decide +kernel
theorem dX4_passingAlone_26 : decode cX4_passingAlone 26 = .ok (.ishl, 1) := by decide +kernel
theorem dX4_passingAlone_27 : decode cX4_passingAlone 27 = .ok (.ior, 1) := by decide +kernel
theorem dX4_passingAlone_28 : decode cX4_passingAlone 28 = .ok (.istore_n 1, 1) := by decide +kernel
theorem dX4_passingAlone_29 : decode cX4_passingAlone 29 = .ok (.iinc 2 1, 3) := by decide +kernel
theorem dX4_passingAlone_32 : decode cX4_passingAlone 32 = .ok (.goto (-28), 3) := by decide +kernel
theorem dX4_passingAlone_35 : decode cX4_passingAlone 35 = .ok (.iload_n 1, 1) := by decide +kernel
theorem dX4_passingAlone_36 : decode cX4_passingAlone 36 = .ok (.ireturn, 1) := by decide +kernel
theorem dX4_flippedIn_0 : decode cX4_flippedIn 0 = .ok (.aload_n 0, 1) := by decide +kernel
theorem dX4_flippedIn_1 : decode cX4_flippedIn 1 = .ok (.aload_n 1, 1) := by decide +kernel
theorem dX4_flippedIn_2 : decode cX4_flippedIn 2 = .ok (.invokevirtual 108, 3) := by decide +kernel
theorem dX4_flippedIn_5 : decode cX4_flippedIn 5 = .ok (.aload_n 0, 1) := by decide +kernel
theorem dX4_flippedIn_6 : decode cX4_flippedIn 6 = .ok (.invokevirtual 112, 3) := by decide +kernel
theorem dX4_flippedIn_9 : decode cX4_flippedIn 9 = .ok (.aload_n 1, 1) := by decide +kernel
theorem dX4_flippedIn_10 : decode cX4_flippedIn 10 = .ok (.aload_n 1, 1) := by decide +kernel
theorem dX4_flippedIn_11 : decode cX4_flippedIn 11 = .ok (.getfield 44, 3) := by decide +kernel
theorem dX4_flippedIn_14 : decode cX4_flippedIn 14 = .ok (.invokevirtual 98, 3) := by decide +kernel
theorem dX4_flippedIn_17 : decode cX4_flippedIn 17 = .ok (.iand, 1) := by decide +kernel
theorem dX4_flippedIn_18 : decode cX4_flippedIn 18 = .ok (.ixor, 1) := by decide +kernel
theorem dX4_flippedIn_19 : decode cX4_flippedIn 19 = .ok (.ireturn, 1) := by decide +kernel
theorem dX4_lastToChange_0 : decode cX4_lastToChange 0 = .ok (.iconst (-1), 1) := by decide +kernel
theorem dX4_lastToChange_1 : decode cX4_lastToChange 1 = .ok (.istore_n 3, 1) := by decide +kernel
theorem dX4_lastToChange_2 : decode cX4_lastToChange 2 = .ok (.aload_n 0, 1) := by decide +kernel
theorem dX4_lastToChange_3 : decode cX4_lastToChange 3 = .ok (.getfield 48, 3) := by decide +kernel
theorem dX4_lastToChange_6 : decode cX4_lastToChange 6 = .ok (.istore 4, 2) := by decide +kernel
theorem dX4_lastToChange_8 : decode cX4_lastToChange 8 = .ok (.iconst 0, 1) := by decide +kernel
theorem dX4_lastToChange_9 : decode cX4_lastToChange 9 = .ok (.istore 5, 2) := by decide +kernel
theorem dX4_lastToChange_11 : decode cX4_lastToChange 11 = .ok (.iload 5, 2) := by decide +kernel
theorem dX4_lastToChange_13 : decode cX4_lastToChange 13 = .ok (.iload_n 2, 1) := by decide +kernel
theorem dX4_lastToChange_14 : decode cX4_lastToChange 14 = .ok (.if_icmp .ge 61, 3) := by decide +kernel
theorem dX4_lastToChange_17 : decode cX4_lastToChange 17 = .ok (.iload 5, 2) := by decide +kernel
theorem dX4_lastToChange_19 : decode cX4_lastToChange 19 = .ok (.aload_n 0, 1) := by decide +kernel
theorem dX4_lastToChange_20 : decode cX4_lastToChange 20 = .ok (.getfield 18, 3) := by decide +kernel
theorem dX4_lastToChange_23 : decode cX4_lastToChange 23 = .ok (.getfield 44, 3) := by decide +kernel
theorem dX4_lastToChange_26 : decode cX4_lastToChange 26 = .ok (.if_icmp .ge 49, 3) := by decide +kernel
theorem dX4_lastToChange_29 : decode cX4_lastToChange 29 = .ok (.aload_n 0, 1) := by decide +kernel
theorem dX4_lastToChange_30 : decode cX4_lastToChange 30 = .ok (.getfield 18, 3) := by decide +kernel
theorem dX4_lastToChange_33 : decode cX4_lastToChange 33 = .ok (.iload 5, 2) := by decide +kernel
theorem dX4_lastToChange_35 : decode cX4_lastToChange 35 = .ok (.invokevirtual 83, 3) := by decide +kernel
theorem dX4_lastToChange_38 : decode cX4_lastToChange 38 = .ok (.istore 6, 2) := by decide +kernel
theorem dX4_lastToChange_40 : decode cX4_lastToChange 40 = .ok (.aload_n 0, 1) := by decide +kernel
theorem dX4_lastToChange_41 : decode cX4_lastToChange 41 = .ok (.iload 6, 2) := by decide +kernel
theorem dX4_lastToChange_43 : decode cX4_lastToChange 43 = .ok (.iload 4, 2) := by decide +kernel
theorem dX4_lastToChange_45 : decode cX4_lastToChange 45 = .ok (.invokevirtual 89, 3) := by decide +kernel
theorem dX4_lastToChange_48 : decode cX4_lastToChange 48 = .ok (.istore 7, 2) := by decide +kernel
theorem dX4_lastToChange_50 : decode cX4_lastToChange 50 = .ok (.iload_n 1, 1) := by decide +kernel
theorem dX4_lastToChange_51 : decode cX4_lastToChange 51 = .ok (.iload 4, 2) := by decide +kernel
theorem dX4_lastToChange_53 : decode cX4_lastToChange 53 = .ok (.iload 7, 2) := by decide +kernel
theorem dX4_lastToChange_55 : decode cX4_lastToChange 55 = .ok (.ixor, 1) := by decide +kernel
theorem dX4_lastToChange_56 : decode cX4_lastToChange 56 = .ok (.invokestatic 86, 3) := by decide +kernel
theorem dX4_lastToChange_59 : decode cX4_lastToChange 59 = .ok (.ifCond .eq 6, 3) := by decide +kernel
theorem dX4_lastToChange_62 : decode cX4_lastToChange 62 = .ok (.iload 6, 2) := by decide +kernel
theorem dX4_lastToChange_64 : decode cX4_lastToChange 64 = .ok (.istore_n 3, 1) := by decide +kernel
theorem dX4_lastToChange_65 : decode cX4_lastToChange 65 = .ok (.iload 7, 2) := by decide +kernel
theorem dX4_lastToChange_67 : decode cX4_lastToChange 67 = .ok (.istore 4, 2) := by decide +kernel
theorem dX4_lastToChange_69 : decode cX4_lastToChange 69 = .ok (.iinc 5 1, 3) := by decide +kernel
theorem dX4_lastToChange_72 : decode cX4_lastToChange 72 = .ok (.goto (-61), 3) := by decide +kernel
theorem dX4_lastToChange_75 : decode cX4_lastToChange 75 = .ok (.iload_n 3, 1) := by decide +kernel
theorem dX4_lastToChange_76 : decode cX4_lastToChange 76 = .ok (.ireturn, 1) := by decide +kernel
theorem dX4_doesSoil_0 : decode cX4_doesSoil 0 = .ok (.iload_n 1, 1) := by decide +kernel
theorem dX4_doesSoil_1 : decode cX4_doesSoil 1 = .ok (.iload_n 2, 1) := by decide +kernel
theorem dX4_doesSoil_2 : decode cX4_doesSoil 2 = .ok (.if_icmp .eq 24, 3) := by decide +kernel
theorem dX4_doesSoil_5 : decode cX4_doesSoil 5 = .ok (.aload_n 0, 1) := by decide +kernel
theorem dX4_doesSoil_6 : decode cX4_doesSoil 6 = .ok (.iload_n 2, 1) := by decide +kernel
theorem dX4_doesSoil_7 : decode cX4_doesSoil 7 = .ok (.aload_n 0, 1) := by decide +kernel
theorem dX4_doesSoil_8 : decode cX4_doesSoil 8 = .ok (.iload_n 1, 1) := by decide +kernel
theorem dX4_doesSoil_9 : decode cX4_doesSoil 9 = .ok (.aload_n 0, 1) := by decide +kernel
theorem dX4_doesSoil_10 : decode cX4_doesSoil 10 = .ok (.getfield 48, 3) := by decide +kernel
theorem dX4_doesSoil_13 : decode cX4_doesSoil 13 = .ok (.invokevirtual 89, 3) := by decide +kernel
theorem dX4_doesSoil_16 : decode cX4_doesSoil 16 = .ok (.invokevirtual 95, 3) := by decide +kernel
theorem dX4_doesSoil_19 : decode cX4_doesSoil 19 = .ok (.ifCond .eq 7, 3) := by decide +kernel
theorem dX4_doesSoil_22 : decode cX4_doesSoil 22 = .ok (.iconst 1, 1) := by decide +kernel
theorem dX4_doesSoil_23 : decode cX4_doesSoil 23 = .ok (.goto 4, 3) := by decide +kernel
theorem dX4_doesSoil_26 : decode cX4_doesSoil 26 = .ok (.iconst 0, 1) := by decide +kernel
theorem dX4_doesSoil_27 : decode cX4_doesSoil 27 = .ok (.ireturn, 1) := by decide +kernel
theorem dX4_soilingPairs_0 : decode cX4_soilingPairs 0 = .ok (.iconst 0, 1) := by decide +kernel
theorem dX4_soilingPairs_1 : decode cX4_soilingPairs 1 = .ok (.istore_n 1, 1) := by decide +kernel
theorem dX4_soilingPairs_2 : decode cX4_soilingPairs 2 = .ok (.iconst 0, 1) := by decide +kernel
theorem dX4_soilingPairs_3 : decode cX4_soilingPairs 3 = .ok (.istore_n 2, 1) := by decide +kernel
theorem dX4_soilingPairs_4 : decode cX4_soilingPairs 4 = .ok (.iload_n 2, 1) := by decide +kernel
theorem dX4_soilingPairs_5 : decode cX4_soilingPairs 5 = .ok (.aload_n 0, 1) := by decide +kernel
theorem dX4_soilingPairs_6 : decode cX4_soilingPairs 6 = .ok (.getfield 26, 3) := by decide +kernel
theorem dX4_soilingPairs_9 : decode cX4_soilingPairs 9 = .ok (.if_icmp .ge 37, 3) := by decide +kernel
theorem dX4_soilingPairs_12 : decode cX4_soilingPairs 12 = .ok (.iconst 0, 1) := by decide +kernel
theorem dX4_soilingPairs_13 : decode cX4_soilingPairs 13 = .ok (.istore_n 3, 1) := by decide +kernel
theorem dX4_soilingPairs_14 : decode cX4_soilingPairs 14 = .ok (.iload_n 3, 1) := by decide +kernel
theorem dX4_soilingPairs_15 : decode cX4_soilingPairs 15 = .ok (.aload_n 0, 1) := by decide +kernel
theorem dX4_soilingPairs_16 : decode cX4_soilingPairs 16 = .ok (.getfield 26, 3) := by decide +kernel
theorem dX4_soilingPairs_19 : decode cX4_soilingPairs 19 = .ok (.if_icmp .ge 21, 3) := by decide +kernel
theorem dX4_soilingPairs_22 : decode cX4_soilingPairs 22 = .ok (.iload_n 1, 1) := by decide +kernel
theorem dX4_soilingPairs_23 : decode cX4_soilingPairs 23 = .ok (.aload_n 0, 1) := by decide +kernel
theorem dX4_soilingPairs_24 : decode cX4_soilingPairs 24 = .ok (.iload_n 2, 1) := by decide +kernel
theorem dX4_soilingPairs_25 : decode cX4_soilingPairs 25 = .ok (.iload_n 3, 1) := by decide +kernel
theorem dX4_soilingPairs_26 : decode cX4_soilingPairs 26 = .ok (.invokevirtual 116, 3) := by decide +kernel
theorem dX4_soilingPairs_29 : decode cX4_soilingPairs 29 = .ok (.invokestatic 104, 3) := by decide +kernel
theorem dX4_soilingPairs_32 : decode cX4_soilingPairs 32 = .ok (.iadd, 1) := by decide +kernel
theorem dX4_soilingPairs_33 : decode cX4_soilingPairs 33 = .ok (.istore_n 1, 1) := by decide +kernel
theorem dX4_soilingPairs_34 : decode cX4_soilingPairs 34 = .ok (.iinc 3 1, 3) := by decide +kernel
theorem dX4_soilingPairs_37 : decode cX4_soilingPairs 37 = .ok (.goto (-23), 3) := by decide +kernel
theorem dX4_soilingPairs_40 : decode cX4_soilingPairs 40 = .ok (.iinc 2 1, 3) := by decide +kernel
theorem dX4_soilingPairs_43 : decode cX4_soilingPairs 43 = .ok (.goto (-39), 3) := by decide +kernel
theorem dX4_soilingPairs_46 : decode cX4_soilingPairs 46 = .ok (.iload_n 1, 1) := by decide +kernel
theorem dX4_soilingPairs_47 : decode cX4_soilingPairs 47 = .ok (.ireturn, 1) := by decide +kernel
theorem dX4_cleaners_0 : decode cX4_cleaners 0 = .ok (.iconst 0, 1) := by decide +kernel
theorem dX4_cleaners_1 : decode cX4_cleaners 1 = .ok (.istore_n 3, 1) := by decide +kernel
theorem dX4_cleaners_2 : decode cX4_cleaners 2 = .ok (.aload_n 0, 1) := by decide +kernel
theorem dX4_cleaners_3 : decode cX4_cleaners 3 = .ok (.iload_n 1, 1) := by decide +kernel
theorem dX4_cleaners_4 : decode cX4_cleaners 4 = .ok (.aload_n 0, 1) := by decide +kernel
theorem dX4_cleaners_5 : decode cX4_cleaners 5 = .ok (.getfield 48, 3) := by decide +kernel
theorem dX4_cleaners_8 : decode cX4_cleaners 8 = .ok (.invokevirtual 89, 3) := by decide +kernel
theorem dX4_cleaners_11 : decode cX4_cleaners 11 = .ok (.istore 4, 2) := by decide +kernel
theorem dX4_cleaners_13 : decode cX4_cleaners 13 = .ok (.iconst 0, 1) := by decide +kernel
theorem dX4_cleaners_14 : decode cX4_cleaners 14 = .ok (.istore 5, 2) := by decide +kernel
theorem dX4_cleaners_16 : decode cX4_cleaners 16 = .ok (.iload 5, 2) := by decide +kernel
theorem dX4_cleaners_18 : decode cX4_cleaners 18 = .ok (.aload_n 0, 1) := by decide +kernel
theorem dX4_cleaners_19 : decode cX4_cleaners 19 = .ok (.getfield 26, 3) := by decide +kernel
theorem dX4_cleaners_22 : decode cX4_cleaners 22 = .ok (.if_icmp .ge 44, 3) := by decide +kernel
theorem dX4_cleaners_25 : decode cX4_cleaners 25 = .ok (.iload 5, 2) := by decide +kernel
theorem dX4_cleaners_27 : decode cX4_cleaners 27 = .ok (.iload_n 1, 1) := by decide +kernel
theorem dX4_cleaners_28 : decode cX4_cleaners 28 = .ok (.if_icmp .eq 32, 3) := by decide +kernel
theorem dX4_cleaners_31 : decode cX4_cleaners 31 = .ok (.iload 5, 2) := by decide +kernel
theorem dX4_cleaners_33 : decode cX4_cleaners 33 = .ok (.iload_n 2, 1) := by decide +kernel
theorem dX4_cleaners_34 : decode cX4_cleaners 34 = .ok (.if_icmp .eq 26, 3) := by decide +kernel
theorem dX4_cleaners_37 : decode cX4_cleaners 37 = .ok (.aload_n 0, 1) := by decide +kernel
theorem dX4_cleaners_38 : decode cX4_cleaners 38 = .ok (.iload_n 2, 1) := by decide +kernel
theorem dX4_cleaners_39 : decode cX4_cleaners 39 = .ok (.aload_n 0, 1) := by decide +kernel
theorem dX4_cleaners_40 : decode cX4_cleaners 40 = .ok (.iload 5, 2) := by decide +kernel
theorem dX4_cleaners_42 : decode cX4_cleaners 42 = .ok (.iload 4, 2) := by decide +kernel
theorem dX4_cleaners_44 : decode cX4_cleaners 44 = .ok (.invokevirtual 89, 3) := by decide +kernel
theorem dX4_cleaners_47 : decode cX4_cleaners 47 = .ok (.invokevirtual 95, 3) := by decide +kernel
theorem dX4_cleaners_50 : decode cX4_cleaners 50 = .ok (.ifCond .ne 10, 3) := by decide +kernel
theorem dX4_cleaners_53 : decode cX4_cleaners 53 = .ok (.iload_n 3, 1) := by decide +kernel
theorem dX4_cleaners_54 : decode cX4_cleaners 54 = .ok (.iconst 1, 1) := by decide +kernel
theorem dX4_cleaners_55 : decode cX4_cleaners 55 = .ok (.iload 5, 2) := by decide +kernel
theorem dX4_cleaners_57 : decode cX4_cleaners 57 = .ok (.ishl, 1) := by decide +kernel
theorem dX4_cleaners_58 : decode cX4_cleaners 58 = .ok (.ior, 1) := by decide +kernel
theorem dX4_cleaners_59 : decode cX4_cleaners 59 = .ok (.istore_n 3, 1) := by decide +kernel
theorem dX4_cleaners_60 : decode cX4_cleaners 60 = .ok (.iinc 5 1, 3) := by decide +kernel
theorem dX4_cleaners_63 : decode cX4_cleaners 63 = .ok (.goto (-47), 3) := by decide +kernel
theorem dX4_cleaners_66 : decode cX4_cleaners 66 = .ok (.iload_n 3, 1) := by decide +kernel
theorem dX4_cleaners_67 : decode cX4_cleaners 67 = .ok (.ireturn, 1) := by decide +kernel
theorem dX4_copyFrom_0 : decode cX4_copyFrom 0 = .ok (.aload_n 1, 1) := by decide +kernel
theorem dX4_copyFrom_1 : decode cX4_copyFrom 1 = .ok (.getfield 9, 3) := by decide +kernel
theorem dX4_copyFrom_4 : decode cX4_copyFrom 4 = .ok (.iconst 0, 1) := by decide +kernel
theorem dX4_copyFrom_5 : decode cX4_copyFrom 5 = .ok (.aload_n 0, 1) := by decide +kernel
theorem dX4_copyFrom_6 : decode cX4_copyFrom 6 = .ok (.getfield 9, 3) := by decide +kernel
theorem dX4_copyFrom_9 : decode cX4_copyFrom 9 = .ok (.iconst 0, 1) := by decide +kernel
theorem dX4_copyFrom_10 : decode cX4_copyFrom 10 = .ok (.bipush 40, 2) := by decide +kernel
theorem dX4_copyFrom_12 : decode cX4_copyFrom 12 = .ok (.invokestatic 119, 3) := by decide +kernel
theorem dX4_copyFrom_15 : decode cX4_copyFrom 15 = .ok (.aload_n 0, 1) := by decide +kernel
theorem dX4_copyFrom_16 : decode cX4_copyFrom 16 = .ok (.getfield 18, 3) := by decide +kernel
theorem dX4_copyFrom_19 : decode cX4_copyFrom 19 = .ok (.aload_n 1, 1) := by decide +kernel
theorem dX4_copyFrom_20 : decode cX4_copyFrom 20 = .ok (.getfield 18, 3) := by decide +kernel
theorem dX4_copyFrom_23 : decode cX4_copyFrom 23 = .ok (.invokevirtual 125, 3) := by decide +kernel
theorem dX4_copyFrom_26 : decode cX4_copyFrom 26 = .ok (.aload_n 0, 1) := by decide +kernel
theorem dX4_copyFrom_27 : decode cX4_copyFrom 27 = .ok (.aload_n 1, 1) := by decide +kernel
theorem dX4_copyFrom_28 : decode cX4_copyFrom 28 = .ok (.getfield 26, 3) := by decide +kernel
theorem dX4_copyFrom_31 : decode cX4_copyFrom 31 = .ok (.putfield 26, 3) := by decide +kernel
theorem dX4_copyFrom_34 : decode cX4_copyFrom 34 = .ok (.aload_n 0, 1) := by decide +kernel
theorem dX4_copyFrom_35 : decode cX4_copyFrom 35 = .ok (.aload_n 1, 1) := by decide +kernel
theorem dX4_copyFrom_36 : decode cX4_copyFrom 36 = .ok (.getfield 48, 3) := by decide +kernel
theorem dX4_copyFrom_39 : decode cX4_copyFrom 39 = .ok (.putfield 48, 3) := by decide +kernel
theorem dX4_copyFrom_42 : decode cX4_copyFrom 42 = .ok (.aload_n 0, 1) := by decide +kernel
theorem dX4_copyFrom_43 : decode cX4_copyFrom 43 = .ok (.aload_n 1, 1) := by decide +kernel
theorem dX4_copyFrom_44 : decode cX4_copyFrom 44 = .ok (.getfield 51, 3) := by decide +kernel
theorem dX4_copyFrom_47 : decode cX4_copyFrom 47 = .ok (.putfield 51, 3) := by decide +kernel
theorem dX4_copyFrom_50 : decode cX4_copyFrom 50 = .ok (.return_, 1) := by decide +kernel
theorem dX5_init_0 : decode cX5_init 0 = .ok (.aload_n 0, 1) := by decide +kernel
theorem dX5_init_1 : decode cX5_init 1 = .ok (.invokespecial 3, 3) := by decide +kernel
theorem dX5_init_4 : decode cX5_init 4 = .ok (.aload_n 0, 1) := by decide +kernel
theorem dX5_init_5 : decode cX5_init 5 = .ok (.sipush 150, 3) := by decide +kernel
theorem dX5_init_8 : decode cX5_init 8 = .ok (.newarray .int, 2) := by decide +kernel
theorem dX5_init_10 : decode cX5_init 10 = .ok (.putfield 9, 3) := by decide +kernel
theorem dX5_init_13 : decode cX5_init 13 = .ok (.return_, 1) := by decide +kernel
theorem dX5_isFull_0 : decode cX5_isFull 0 = .ok (.aload_n 0, 1) := by decide +kernel
theorem dX5_isFull_1 : decode cX5_isFull 1 = .ok (.getfield 15, 3) := by decide +kernel
theorem dX5_isFull_4 : decode cX5_isFull 4 = .ok (.sipush 150, 3) := by decide +kernel
theorem dX5_isFull_7 : decode cX5_isFull 7 = .ok (.if_icmp .lt 7, 3) := by decide +kernel
theorem dX5_isFull_10 : decode cX5_isFull 10 = .ok (.iconst 1, 1) := by decide +kernel
theorem dX5_isFull_11 : decode cX5_isFull 11 = .ok (.goto 4, 3) := by decide +kernel
theorem dX5_isFull_14 : decode cX5_isFull 14 = .ok (.iconst 0, 1) := by decide +kernel
theorem dX5_isFull_15 : decode cX5_isFull 15 = .ok (.ireturn, 1) := by decide +kernel
theorem dX5_append_0 : decode cX5_append 0 = .ok (.aload_n 0, 1) := by decide +kernel
theorem dX5_append_1 : decode cX5_append 1 = .ok (.getfield 15, 3) := by decide +kernel
theorem dX5_append_4 : decode cX5_append 4 = .ok (.ifCond .lt 35, 3) := by decide +kernel
theorem dX5_append_7 : decode cX5_append 7 = .ok (.aload_n 0, 1) := by decide +kernel
theorem dX5_append_8 : decode cX5_append 8 = .ok (.getfield 15, 3) := by decide +kernel
theorem dX5_append_11 : decode cX5_append 11 = .ok (.aload_n 0, 1) := by decide +kernel
theorem dX5_append_12 : decode cX5_append 12 = .ok (.getfield 9, 3) := by decide +kernel
theorem dX5_append_15 : decode cX5_append 15 = .ok (.arraylength, 1) := by decide +kernel
theorem dX5_append_16 : decode cX5_append 16 = .ok (.if_icmp .ge 23, 3) := by decide +kernel
theorem dX5_append_19 : decode cX5_append 19 = .ok (.aload_n 0, 1) := by decide +kernel
theorem dX5_append_20 : decode cX5_append 20 = .ok (.getfield 9, 3) := by decide +kernel
theorem dX5_append_23 : decode cX5_append 23 = .ok (.aload_n 0, 1) := by decide +kernel
theorem dX5_append_24 : decode cX5_append 24 = .ok (.getfield 15, 3) := by decide +kernel
theorem dX5_append_27 : decode cX5_append 27 = .ok (.iload_n 1, 1) := by decide +kernel
theorem dX5_append_28 : decode cX5_append 28 = .ok (.iastore, 1) := by decide +kernel
theorem dX5_append_29 : decode cX5_append 29 = .ok (.aload_n 0, 1) := by decide +kernel
theorem dX5_append_30 : decode cX5_append 30 = .ok (.dup, 1) := by decide +kernel
theorem dX5_append_31 : decode cX5_append 31 = .ok (.getfield 15, 3) := by decide +kernel
theorem dX5_append_34 : decode cX5_append 34 = .ok (.iconst 1, 1) := by decide +kernel
theorem dX5_append_35 : decode cX5_append 35 = .ok (.iadd, 1) := by decide +kernel
theorem dX5_append_36 : decode cX5_append 36 = .ok (.putfield 15, 3) := by decide +kernel
theorem dX5_append_39 : decode cX5_append 39 = .ok (.aload_n 0, 1) := by decide +kernel
theorem dX5_append_40 : decode cX5_append 40 = .ok (.getfield 15, 3) := by decide +kernel
theorem dX5_append_43 : decode cX5_append 43 = .ok (.ireturn, 1) := by decide +kernel
theorem dX5_makeEmpty_0 : decode cX5_makeEmpty 0 = .ok (.aload_n 0, 1) := by decide +kernel
theorem dX5_makeEmpty_1 : decode cX5_makeEmpty 1 = .ok (.getfield 15, 3) := by decide +kernel
theorem dX5_makeEmpty_4 : decode cX5_makeEmpty 4 = .ok (.istore_n 1, 1) := by decide +kernel
theorem dX5_makeEmpty_5 : decode cX5_makeEmpty 5 = .ok (.aload_n 0, 1) := by decide +kernel
theorem dX5_makeEmpty_6 : decode cX5_makeEmpty 6 = .ok (.iconst 0, 1) := by decide +kernel
theorem dX5_makeEmpty_7 : decode cX5_makeEmpty 7 = .ok (.putfield 15, 3) := by decide +kernel
theorem dX5_makeEmpty_10 : decode cX5_makeEmpty 10 = .ok (.iload_n 1, 1) := by decide +kernel
theorem dX5_makeEmpty_11 : decode cX5_makeEmpty 11 = .ok (.ireturn, 1) := by decide +kernel
theorem dX5_nth_0 : decode cX5_nth 0 = .ok (.iload_n 1, 1) := by decide +kernel
theorem dX5_nth_1 : decode cX5_nth 1 = .ok (.ifCond .lt 29, 3) := by decide +kernel
theorem dX5_nth_4 : decode cX5_nth 4 = .ok (.iload_n 1, 1) := by decide +kernel
theorem dX5_nth_5 : decode cX5_nth 5 = .ok (.aload_n 0, 1) := by decide +kernel
theorem dX5_nth_6 : decode cX5_nth 6 = .ok (.getfield 15, 3) := by decide +kernel
theorem dX5_nth_9 : decode cX5_nth 9 = .ok (.if_icmp .ge 21, 3) := by decide +kernel
theorem dX5_nth_12 : decode cX5_nth 12 = .ok (.iload_n 1, 1) := by decide +kernel
theorem dX5_nth_13 : decode cX5_nth 13 = .ok (.aload_n 0, 1) := by decide +kernel
theorem dX5_nth_14 : decode cX5_nth 14 = .ok (.getfield 9, 3) := by decide +kernel
theorem dX5_nth_17 : decode cX5_nth 17 = .ok (.arraylength, 1) := by decide +kernel
theorem dX5_nth_18 : decode cX5_nth 18 = .ok (.if_icmp .ge 12, 3) := by decide +kernel
theorem dX5_nth_21 : decode cX5_nth 21 = .ok (.aload_n 0, 1) := by decide +kernel
theorem dX5_nth_22 : decode cX5_nth 22 = .ok (.getfield 9, 3) := by decide +kernel
theorem dX5_nth_25 : decode cX5_nth 25 = .ok (.iload_n 1, 1) := by decide +kernel
theorem dX5_nth_26 : decode cX5_nth 26 = .ok (.iaload, 1) := by decide +kernel
theorem dX5_nth_27 : decode cX5_nth 27 = .ok (.goto 4, 3) := by decide +kernel
theorem dX5_nth_30 : decode cX5_nth 30 = .ok (.iconst (-1), 1) := by decide +kernel
theorem dX5_nth_31 : decode cX5_nth 31 = .ok (.ireturn, 1) := by decide +kernel
theorem dX6_init_0 : decode cX6_init 0 = .ok (.aload_n 0, 1) := by decide +kernel
theorem dX6_init_1 : decode cX6_init 1 = .ok (.invokespecial 1, 3) := by decide +kernel
theorem dX6_init_4 : decode cX6_init 4 = .ok (.aload_n 0, 1) := by decide +kernel
theorem dX6_init_5 : decode cX6_init 5 = .ok (.new 7, 3) := by decide +kernel
theorem dX6_init_8 : decode cX6_init 8 = .ok (.dup, 1) := by decide +kernel
theorem dX6_init_9 : decode cX6_init 9 = .ok (.invokespecial 9, 3) := by decide +kernel
theorem dX6_init_12 : decode cX6_init 12 = .ok (.putfield 10, 3) := by decide +kernel
theorem dX6_init_15 : decode cX6_init 15 = .ok (.aload_n 0, 1) := by decide +kernel
theorem dX6_init_16 : decode cX6_init 16 = .ok (.new 16, 3) := by decide +kernel
theorem dX6_init_19 : decode cX6_init 19 = .ok (.dup, 1) := by decide +kernel
theorem dX6_init_20 : decode cX6_init 20 = .ok (.invokespecial 18, 3) := by decide +kernel
theorem dX6_init_23 : decode cX6_init 23 = .ok (.putfield 19, 3) := by decide +kernel
theorem dX6_init_26 : decode cX6_init 26 = .ok (.aload_n 0, 1) := by decide +kernel
theorem dX6_init_27 : decode cX6_init 27 = .ok (.new 23, 3) := by decide +kernel
theorem dX6_init_30 : decode cX6_init 30 = .ok (.dup, 1) := by decide +kernel
theorem dX6_init_31 : decode cX6_init 31 = .ok (.invokespecial 25, 3) := by decide +kernel
theorem dX6_init_34 : decode cX6_init 34 = .ok (.putfield 26, 3) := by decide +kernel
theorem dX6_init_37 : decode cX6_init 37 = .ok (.aload_n 0, 1) := by decide +kernel
theorem dX6_init_38 : decode cX6_init 38 = .ok (.new 30, 3) := by decide +kernel
theorem dX6_init_41 : decode cX6_init 41 = .ok (.dup, 1) := by decide +kernel
theorem dX6_init_42 : decode cX6_init 42 = .ok (.invokespecial 32, 3) := by decide +kernel
theorem dX6_init_45 : decode cX6_init 45 = .ok (.putfield 33, 3) := by decide +kernel
theorem dX6_init_48 : decode cX6_init 48 = .ok (.aload_n 0, 1) := by decide +kernel
theorem dX6_init_49 : decode cX6_init 49 = .ok (.new 37, 3) := by decide +kernel
theorem dX6_init_52 : decode cX6_init 52 = .ok (.dup, 1) := by decide +kernel
theorem dX6_init_53 : decode cX6_init 53 = .ok (.invokespecial 39, 3) := by decide +kernel
theorem dX6_init_56 : decode cX6_init 56 = .ok (.putfield 40, 3) := by decide +kernel
theorem dX6_init_59 : decode cX6_init 59 = .ok (.return_, 1) := by decide +kernel
theorem dX6_test_0 : decode cX6_test 0 = .ok (.aload_n 0, 1) := by decide +kernel
theorem dX6_test_1 : decode cX6_test 1 = .ok (.getfield 19, 3) := by decide +kernel
theorem dX6_test_4 : decode cX6_test 4 = .ok (.aload_n 0, 1) := by decide +kernel
theorem dX6_test_5 : decode cX6_test 5 = .ok (.getfield 10, 3) := by decide +kernel
theorem dX6_test_8 : decode cX6_test 8 = .ok (.invokevirtual 44, 3) := by decide +kernel
theorem dX6_test_11 : decode cX6_test 11 = .ok (.aload_n 0, 1) := by decide +kernel
theorem dX6_test_12 : decode cX6_test 12 = .ok (.aload_n 0, 1) := by decide +kernel
theorem dX6_test_13 : decode cX6_test 13 = .ok (.getfield 10, 3) := by decide +kernel
theorem dX6_test_16 : decode cX6_test 16 = .ok (.iload_n 1, 1) := by decide +kernel
theorem dX6_test_17 : decode cX6_test 17 = .ok (.iload_n 2, 1) := by decide +kernel
theorem dX6_test_18 : decode cX6_test 18 = .ok (.iload_n 3, 1) := by decide +kernel
theorem dX6_test_19 : decode cX6_test 19 = .ok (.iload 4, 2) := by decide +kernel
theorem dX6_test_21 : decode cX6_test 21 = .ok (.iload 5, 2) := by decide +kernel
theorem dX6_test_23 : decode cX6_test 23 = .ok (.invokevirtual 48, 3) := by decide +kernel
theorem dX6_test_26 : decode cX6_test 26 = .ok (.invokevirtual 52, 3) := by decide +kernel
theorem dX6_test_29 : decode cX6_test 29 = .ok (.ireturn, 1) := by decide +kernel
theorem dX6_cuts_0 : decode cX6_cuts 0 = .ok (.aload_n 0, 1) := by decide +kernel
theorem dX6_cuts_1 : decode cX6_cuts 1 = .ok (.getfield 19, 3) := by decide +kernel
theorem dX6_cuts_4 : decode cX6_cuts 4 = .ok (.aload_n 0, 1) := by decide +kernel
theorem dX6_cuts_5 : decode cX6_cuts 5 = .ok (.getfield 10, 3) := by decide +kernel
theorem dX6_cuts_8 : decode cX6_cuts 8 = .ok (.invokevirtual 44, 3) := by decide +kernel
theorem dX6_cuts_11 : decode cX6_cuts 11 = .ok (.aload_n 0, 1) := by decide +kernel
theorem dX6_cuts_12 : decode cX6_cuts 12 = .ok (.aload_n 0, 1) := by decide +kernel
theorem dX6_cuts_13 : decode cX6_cuts 13 = .ok (.getfield 10, 3) := by decide +kernel
theorem dX6_cuts_16 : decode cX6_cuts 16 = .ok (.invokevirtual 56, 3) := by decide +kernel
theorem dX6_cuts_19 : decode cX6_cuts 19 = .ok (.invokevirtual 52, 3) := by decide +kernel
theorem dX6_cuts_22 : decode cX6_cuts 22 = .ok (.ireturn, 1) := by decide +kernel
theorem dX6_lays_0 : decode cX6_lays 0 = .ok (.aload_n 0, 1) := by decide +kernel
theorem dX6_lays_1 : decode cX6_lays 1 = .ok (.getfield 19, 3) := by decide +kernel
theorem dX6_lays_4 : decode cX6_lays 4 = .ok (.aload_n 0, 1) := by decide +kernel
theorem dX6_lays_5 : decode cX6_lays 5 = .ok (.getfield 10, 3) := by decide +kernel
theorem dX6_lays_8 : decode cX6_lays 8 = .ok (.invokevirtual 44, 3) := by decide +kernel
theorem dX6_lays_11 : decode cX6_lays 11 = .ok (.aload_n 0, 1) := by decide +kernel
theorem dX6_lays_12 : decode cX6_lays 12 = .ok (.aload_n 0, 1) := by decide +kernel
theorem dX6_lays_13 : decode cX6_lays 13 = .ok (.getfield 10, 3) := by decide +kernel
theorem dX6_lays_16 : decode cX6_lays 16 = .ok (.iload_n 1, 1) := by decide +kernel
theorem dX6_lays_17 : decode cX6_lays 17 = .ok (.invokevirtual 60, 3) := by decide +kernel
theorem dX6_lays_20 : decode cX6_lays 20 = .ok (.invokevirtual 52, 3) := by decide +kernel
theorem dX6_lays_23 : decode cX6_lays 23 = .ok (.ireturn, 1) := by decide +kernel
theorem dX6_wipes_0 : decode cX6_wipes 0 = .ok (.aload_n 0, 1) := by decide +kernel
theorem dX6_wipes_1 : decode cX6_wipes 1 = .ok (.getfield 19, 3) := by decide +kernel
theorem dX6_wipes_4 : decode cX6_wipes 4 = .ok (.aload_n 0, 1) := by decide +kernel
theorem dX6_wipes_5 : decode cX6_wipes 5 = .ok (.getfield 10, 3) := by decide +kernel
theorem dX6_wipes_8 : decode cX6_wipes 8 = .ok (.invokevirtual 44, 3) := by decide +kernel
theorem dX6_wipes_11 : decode cX6_wipes 11 = .ok (.aload_n 0, 1) := by decide +kernel
theorem dX6_wipes_12 : decode cX6_wipes 12 = .ok (.aload_n 0, 1) := by decide +kernel
theorem dX6_wipes_13 : decode cX6_wipes 13 = .ok (.getfield 10, 3) := by decide +kernel
theorem dX6_wipes_16 : decode cX6_wipes 16 = .ok (.invokevirtual 63, 3) := by decide +kernel
theorem dX6_wipes_19 : decode cX6_wipes 19 = .ok (.invokevirtual 52, 3) := by decide +kernel
theorem dX6_wipes_22 : decode cX6_wipes 22 = .ok (.ireturn, 1) := by decide +kernel
theorem dX6_start_0 : decode cX6_start 0 = .ok (.aload_n 0, 1) := by decide +kernel
theorem dX6_start_1 : decode cX6_start 1 = .ok (.getfield 19, 3) := by decide +kernel
theorem dX6_start_4 : decode cX6_start 4 = .ok (.aload_n 0, 1) := by decide +kernel
theorem dX6_start_5 : decode cX6_start 5 = .ok (.getfield 10, 3) := by decide +kernel
theorem dX6_start_8 : decode cX6_start 8 = .ok (.invokevirtual 44, 3) := by decide +kernel
theorem dX6_start_11 : decode cX6_start 11 = .ok (.aload_n 0, 1) := by decide +kernel
theorem dX6_start_12 : decode cX6_start 12 = .ok (.aload_n 0, 1) := by decide +kernel
theorem dX6_start_13 : decode cX6_start 13 = .ok (.getfield 10, 3) := by decide +kernel
theorem dX6_start_16 : decode cX6_start 16 = .ok (.iload_n 1, 1) := by decide +kernel
theorem dX6_start_17 : decode cX6_start 17 = .ok (.invokevirtual 66, 3) := by decide +kernel
theorem dX6_start_20 : decode cX6_start 20 = .ok (.invokevirtual 52, 3) := by decide +kernel
theorem dX6_start_23 : decode cX6_start 23 = .ok (.ireturn, 1) := by decide +kernel
theorem dX6_mode_0 : decode cX6_mode 0 = .ok (.aload_n 0, 1) := by decide +kernel
theorem dX6_mode_1 : decode cX6_mode 1 = .ok (.getfield 19, 3) := by decide +kernel
theorem dX6_mode_4 : decode cX6_mode 4 = .ok (.aload_n 0, 1) := by decide +kernel
theorem dX6_mode_5 : decode cX6_mode 5 = .ok (.getfield 10, 3) := by decide +kernel
theorem dX6_mode_8 : decode cX6_mode 8 = .ok (.invokevirtual 44, 3) := by decide +kernel
theorem dX6_mode_11 : decode cX6_mode 11 = .ok (.aload_n 0, 1) := by decide +kernel
theorem dX6_mode_12 : decode cX6_mode 12 = .ok (.aload_n 0, 1) := by decide +kernel
theorem dX6_mode_13 : decode cX6_mode 13 = .ok (.getfield 10, 3) := by decide +kernel
theorem dX6_mode_16 : decode cX6_mode 16 = .ok (.iload_n 1, 1) := by decide +kernel
theorem dX6_mode_17 : decode cX6_mode 17 = .ok (.invokevirtual 69, 3) := by decide +kernel
theorem dX6_mode_20 : decode cX6_mode 20 = .ok (.invokevirtual 52, 3) := by decide +kernel
theorem dX6_mode_23 : decode cX6_mode 23 = .ok (.ireturn, 1) := by decide +kernel
theorem dX6_shuffles_0 : decode cX6_shuffles 0 = .ok (.aload_n 0, 1) := by decide +kernel
theorem dX6_shuffles_1 : decode cX6_shuffles 1 = .ok (.getfield 19, 3) := by decide +kernel
theorem dX6_shuffles_4 : decode cX6_shuffles 4 = .ok (.aload_n 0, 1) := by decide +kernel
theorem dX6_shuffles_5 : decode cX6_shuffles 5 = .ok (.getfield 10, 3) := by decide +kernel
theorem dX6_shuffles_8 : decode cX6_shuffles 8 = .ok (.invokevirtual 44, 3) := by decide +kernel
theorem dX6_shuffles_11 : decode cX6_shuffles 11 = .ok (.aload_n 0, 1) := by decide +kernel
theorem dX6_shuffles_12 : decode cX6_shuffles 12 = .ok (.aload_n 0, 1) := by decide +kernel
theorem dX6_shuffles_13 : decode cX6_shuffles 13 = .ok (.getfield 10, 3) := by decide +kernel
theorem dX6_shuffles_16 : decode cX6_shuffles 16 = .ok (.iload_n 1, 1) := by decide +kernel
theorem dX6_shuffles_17 : decode cX6_shuffles 17 = .ok (.invokevirtual 72, 3) := by decide +kernel
theorem dX6_shuffles_20 : decode cX6_shuffles 20 = .ok (.invokevirtual 52, 3) := by decide +kernel
theorem dX6_shuffles_23 : decode cX6_shuffles 23 = .ok (.ireturn, 1) := by decide +kernel
theorem dX6_trims_0 : decode cX6_trims 0 = .ok (.aload_n 0, 1) := by decide +kernel
theorem dX6_trims_1 : decode cX6_trims 1 = .ok (.getfield 19, 3) := by decide +kernel
theorem dX6_trims_4 : decode cX6_trims 4 = .ok (.aload_n 0, 1) := by decide +kernel
theorem dX6_trims_5 : decode cX6_trims 5 = .ok (.getfield 10, 3) := by decide +kernel
theorem dX6_trims_8 : decode cX6_trims 8 = .ok (.invokevirtual 44, 3) := by decide +kernel
theorem dX6_trims_11 : decode cX6_trims 11 = .ok (.aload_n 0, 1) := by decide +kernel
theorem dX6_trims_12 : decode cX6_trims 12 = .ok (.aload_n 0, 1) := by decide +kernel
theorem dX6_trims_13 : decode cX6_trims 13 = .ok (.getfield 10, 3) := by decide +kernel
theorem dX6_trims_16 : decode cX6_trims 16 = .ok (.iload_n 1, 1) := by decide +kernel
theorem dX6_trims_17 : decode cX6_trims 17 = .ok (.invokevirtual 75, 3) := by decide +kernel
theorem dX6_trims_20 : decode cX6_trims 20 = .ok (.invokevirtual 52, 3) := by decide +kernel
theorem dX6_trims_23 : decode cX6_trims 23 = .ok (.ireturn, 1) := by decide +kernel
theorem dX6_of_0 : decode cX6_of 0 = .ok (.aload_n 0, 1) := by decide +kernel
theorem dX6_of_1 : decode cX6_of 1 = .ok (.getfield 10, 3) := by decide +kernel
theorem dX6_of_4 : decode cX6_of 4 = .ok (.iload_n 1, 1) := by decide +kernel
theorem dX6_of_5 : decode cX6_of 5 = .ok (.invokevirtual 78, 3) := by decide +kernel
theorem dX6_of_8 : decode cX6_of 8 = .ok (.ifCond .eq 12, 3) := by decide +kernel
theorem dX6_of_11 : decode cX6_of 11 = .ok (.iload_n 2, 1) := by decide +kernel
theorem dX6_of_12 : decode cX6_of 12 = .ok (.ifCond .lt 8, 3) := by decide +kernel
theorem dX6_of_15 : decode cX6_of 15 = .ok (.iload_n 2, 1) := by decide +kernel
theorem dX6_of_16 : decode cX6_of 16 = .ok (.iconst 5, 1) := by decide +kernel
theorem dX6_of_17 : decode cX6_of 17 = .ok (.if_icmp .le 10, 3) := by decide +kernel
theorem dX6_of_20 : decode cX6_of 20 = .ok (.aload_n 0, 1) := by decide +kernel
theorem dX6_of_21 : decode cX6_of 21 = .ok (.bipush (-2), 2) := by decide +kernel
theorem dX6_of_23 : decode cX6_of 23 = .ok (.invokevirtual 82, 3) := by decide +kernel
theorem dX6_of_26 : decode cX6_of 26 = .ok (.ireturn, 1) := by decide +kernel
theorem dX6_of_27 : decode cX6_of 27 = .ok (.iload_n 2, 1) := by decide +kernel
theorem dX6_of_28 : decode cX6_of 28 = .ok (.iconst 5, 1) := by decide +kernel
theorem dX6_of_29 : decode cX6_of 29 = .ok (.if_icmp .ne 24, 3) := by decide +kernel
theorem dX6_of_32 : decode cX6_of 32 = .ok (.aload_n 0, 1) := by decide +kernel
theorem dX6_of_33 : decode cX6_of 33 = .ok (.getfield 10, 3) := by decide +kernel
theorem dX6_of_36 : decode cX6_of 36 = .ok (.iload_n 1, 1) := by decide +kernel
theorem dX6_of_37 : decode cX6_of 37 = .ok (.aload_n 0, 1) := by decide +kernel
theorem dX6_of_38 : decode cX6_of 38 = .ok (.getfield 10, 3) := by decide +kernel
theorem dX6_of_41 : decode cX6_of 41 = .ok (.getfield 85, 3) := by decide +kernel
theorem dX6_of_44 : decode cX6_of 44 = .ok (.invokevirtual 89, 3) := by decide +kernel
theorem dX6_of_47 : decode cX6_of 47 = .ok (.invokestatic 93, 3) := by decide +kernel
theorem dX6_of_50 : decode cX6_of 50 = .ok (.goto 12, 3) := by decide +kernel
theorem dX6_of_53 : decode cX6_of 53 = .ok (.aload_n 0, 1) := by decide +kernel
theorem dX6_of_54 : decode cX6_of 54 = .ok (.getfield 10, 3) := by decide +kernel
theorem dX6_of_57 : decode cX6_of 57 = .ok (.iload_n 1, 1) := by decide +kernel
theorem dX6_of_58 : decode cX6_of 58 = .ok (.iload_n 2, 1) := by decide +kernel
theorem dX6_of_59 : decode cX6_of 59 = .ok (.invokevirtual 97, 3) := by decide +kernel
theorem dX6_of_62 : decode cX6_of 62 = .ok (.ireturn, 1) := by decide +kernel
theorem dX6_soils_0 : decode cX6_soils 0 = .ok (.aload_n 0, 1) := by decide +kernel
theorem dX6_soils_1 : decode cX6_soils 1 = .ok (.iload_n 1, 1) := by decide +kernel
theorem dX6_soils_2 : decode cX6_soils 2 = .ok (.iload_n 2, 1) := by decide +kernel
theorem dX6_soils_3 : decode cX6_soils 3 = .ok (.invokevirtual 101, 3) := by decide +kernel
theorem dX6_soils_6 : decode cX6_soils 6 = .ok (.ifCond .ne 10, 3) := by decide +kernel
theorem dX6_soils_9 : decode cX6_soils 9 = .ok (.aload_n 0, 1) := by decide +kernel
theorem dX6_soils_10 : decode cX6_soils 10 = .ok (.bipush (-2), 2) := by decide +kernel
theorem dX6_soils_12 : decode cX6_soils 12 = .ok (.invokevirtual 82, 3) := by decide +kernel
theorem dX6_soils_15 : decode cX6_soils 15 = .ok (.ireturn, 1) := by decide +kernel
theorem dX6_soils_16 : decode cX6_soils 16 = .ok (.aload_n 0, 1) := by decide +kernel
theorem dX6_soils_17 : decode cX6_soils 17 = .ok (.getfield 10, 3) := by decide +kernel
theorem dX6_soils_20 : decode cX6_soils 20 = .ok (.iload_n 1, 1) := by decide +kernel
theorem dX6_soils_21 : decode cX6_soils 21 = .ok (.iload_n 2, 1) := by decide +kernel
theorem dX6_soils_22 : decode cX6_soils 22 = .ok (.invokevirtual 104, 3) := by decide +kernel
theorem dX6_soils_25 : decode cX6_soils 25 = .ok (.invokestatic 93, 3) := by decide +kernel
theorem dX6_soils_28 : decode cX6_soils 28 = .ok (.ireturn, 1) := by decide +kernel
theorem dX6_cleans_0 : decode cX6_cleans 0 = .ok (.aload_n 0, 1) := by decide +kernel
theorem dX6_cleans_1 : decode cX6_cleans 1 = .ok (.iload_n 1, 1) := by decide +kernel
theorem dX6_cleans_2 : decode cX6_cleans 2 = .ok (.iload_n 2, 1) := by decide +kernel
theorem dX6_cleans_3 : decode cX6_cleans 3 = .ok (.invokevirtual 101, 3) := by decide +kernel
theorem dX6_cleans_6 : decode cX6_cleans 6 = .ok (.ifCond .ne 10, 3) := by decide +kernel
theorem dX6_cleans_9 : decode cX6_cleans 9 = .ok (.aload_n 0, 1) := by decide +kernel
theorem dX6_cleans_10 : decode cX6_cleans 10 = .ok (.bipush (-2), 2) := by decide +kernel
theorem dX6_cleans_12 : decode cX6_cleans 12 = .ok (.invokevirtual 82, 3) := by decide +kernel
theorem dX6_cleans_15 : decode cX6_cleans 15 = .ok (.ireturn, 1) := by decide +kernel
theorem dX6_cleans_16 : decode cX6_cleans 16 = .ok (.aload_n 0, 1) := by decide +kernel
theorem dX6_cleans_17 : decode cX6_cleans 17 = .ok (.getfield 10, 3) := by decide +kernel
theorem dX6_cleans_20 : decode cX6_cleans 20 = .ok (.iload_n 1, 1) := by decide +kernel
theorem dX6_cleans_21 : decode cX6_cleans 21 = .ok (.iload_n 2, 1) := by decide +kernel
theorem dX6_cleans_22 : decode cX6_cleans 22 = .ok (.invokevirtual 104, 3) := by decide +kernel
theorem dX6_cleans_25 : decode cX6_cleans 25 = .ok (.ifCond .ne 10, 3) := by decide +kernel
theorem dX6_cleans_28 : decode cX6_cleans 28 = .ok (.aload_n 0, 1) := by decide +kernel
theorem dX6_cleans_29 : decode cX6_cleans 29 = .ok (.bipush (-3), 2) := by decide +kernel
theorem dX6_cleans_31 : decode cX6_cleans 31 = .ok (.invokevirtual 82, 3) := by decide +kernel
theorem dX6_cleans_34 : decode cX6_cleans 34 = .ok (.ireturn, 1) := by decide +kernel
theorem dX6_cleans_35 : decode cX6_cleans 35 = .ok (.aload_n 0, 1) := by decide +kernel
theorem dX6_cleans_36 : decode cX6_cleans 36 = .ok (.getfield 10, 3) := by decide +kernel
theorem dX6_cleans_39 : decode cX6_cleans 39 = .ok (.iload_n 1, 1) := by decide +kernel
theorem dX6_cleans_40 : decode cX6_cleans 40 = .ok (.iload_n 2, 1) := by decide +kernel
theorem dX6_cleans_41 : decode cX6_cleans 41 = .ok (.invokevirtual 107, 3) := by decide +kernel
theorem dX6_cleans_44 : decode cX6_cleans 44 = .ok (.ireturn, 1) := by decide +kernel
theorem dX6_flips_0 : decode cX6_flips 0 = .ok (.iload_n 1, 1) := by decide +kernel
theorem dX6_flips_1 : decode cX6_flips 1 = .ok (.invokestatic 110, 3) := by decide +kernel
theorem dX6_flips_4 : decode cX6_flips 4 = .ok (.ifCond .ne 10, 3) := by decide +kernel
theorem dX6_flips_7 : decode cX6_flips 7 = .ok (.aload_n 0, 1) := by decide +kernel
theorem dX6_flips_8 : decode cX6_flips 8 = .ok (.bipush (-2), 2) := by decide +kernel
theorem dX6_flips_10 : decode cX6_flips 10 = .ok (.invokevirtual 82, 3) := by decide +kernel
theorem dX6_flips_13 : decode cX6_flips 13 = .ok (.ireturn, 1) := by decide +kernel
theorem dX6_flips_14 : decode cX6_flips 14 = .ok (.aload_n 0, 1) := by decide +kernel
theorem dX6_flips_15 : decode cX6_flips 15 = .ok (.iload_n 1, 1) := by decide +kernel
theorem dX6_flips_16 : decode cX6_flips 16 = .ok (.invokevirtual 113, 3) := by decide +kernel
theorem dX6_flips_19 : decode cX6_flips 19 = .ok (.ireturn, 1) := by decide +kernel
theorem dX6_seed_0 : decode cX6_seed 0 = .ok (.iload_n 1, 1) := by decide +kernel
theorem dX6_seed_1 : decode cX6_seed 1 = .ok (.invokestatic 110, 3) := by decide +kernel
theorem dX6_seed_4 : decode cX6_seed 4 = .ok (.ifCond .eq 14, 3) := by decide +kernel
theorem dX6_seed_7 : decode cX6_seed 7 = .ok (.aload_n 0, 1) := by decide +kernel
theorem dX6_seed_8 : decode cX6_seed 8 = .ok (.getfield 10, 3) := by decide +kernel
theorem dX6_seed_11 : decode cX6_seed 11 = .ok (.iload_n 2, 1) := by decide +kernel
theorem dX6_seed_12 : decode cX6_seed 12 = .ok (.invokevirtual 78, 3) := by decide +kernel
theorem dX6_seed_15 : decode cX6_seed 15 = .ok (.ifCond .ne 10, 3) := by decide +kernel
theorem dX6_seed_18 : decode cX6_seed 18 = .ok (.aload_n 0, 1) := by decide +kernel
theorem dX6_seed_19 : decode cX6_seed 19 = .ok (.bipush (-2), 2) := by decide +kernel
theorem dX6_seed_21 : decode cX6_seed 21 = .ok (.invokevirtual 82, 3) := by decide +kernel
theorem dX6_seed_24 : decode cX6_seed 24 = .ok (.ireturn, 1) := by decide +kernel
theorem dX6_seed_25 : decode cX6_seed 25 = .ok (.iconst 0, 1) := by decide +kernel
theorem dX6_seed_26 : decode cX6_seed 26 = .ok (.istore_n 3, 1) := by decide +kernel
theorem dX6_seed_27 : decode cX6_seed 27 = .ok (.iload_n 3, 1) := by decide +kernel
theorem dX6_seed_28 : decode cX6_seed 28 = .ok (.sipush 200, 3) := by decide +kernel
theorem dX6_seed_31 : decode cX6_seed 31 = .ok (.if_icmp .ge 35, 3) := by decide +kernel
theorem dX6_seed_34 : decode cX6_seed 34 = .ok (.iload_n 1, 1) := by decide +kernel
theorem dX6_seed_35 : decode cX6_seed 35 = .ok (.iload_n 3, 1) := by decide +kernel
theorem dX6_seed_36 : decode cX6_seed 36 = .ok (.iadd, 1) := by decide +kernel
theorem dX6_seed_37 : decode cX6_seed 37 = .ok (.ldc 116, 2) := by decide +kernel
theorem dX6_seed_39 : decode cX6_seed 39 = .ok (.if_icmp .gt 27, 3) := by decide +kernel
theorem dX6_seed_42 : decode cX6_seed 42 = .ok (.iload_n 2, 1) := by decide +kernel
theorem dX6_seed_43 : decode cX6_seed 43 = .ok (.aload_n 0, 1) := by decide +kernel
theorem dX6_seed_44 : decode cX6_seed 44 = .ok (.iload_n 1, 1) := by decide +kernel
theorem dX6_seed_45 : decode cX6_seed 45 = .ok (.iload_n 3, 1) := by decide +kernel
theorem dX6_seed_46 : decode cX6_seed 46 = .ok (.iadd, 1) := by decide +kernel
theorem dX6_seed_47 : decode cX6_seed 47 = .ok (.invokevirtual 113, 3) := by decide +kernel
theorem dX6_seed_50 : decode cX6_seed 50 = .ok (.invokestatic 117, 3) := by decide +kernel
theorem dX6_seed_53 : decode cX6_seed 53 = .ok (.ifCond .eq 7, 3) := by decide +kernel
theorem dX6_seed_56 : decode cX6_seed 56 = .ok (.iload_n 1, 1) := by decide +kernel
theorem dX6_seed_57 : decode cX6_seed 57 = .ok (.iload_n 3, 1) := by decide +kernel
theorem dX6_seed_58 : decode cX6_seed 58 = .ok (.iadd, 1) := by decide +kernel
theorem dX6_seed_59 : decode cX6_seed 59 = .ok (.ireturn, 1) := by decide +kernel
theorem dX6_seed_60 : decode cX6_seed 60 = .ok (.iinc 3 1, 3) := by decide +kernel
theorem dX6_seed_63 : decode cX6_seed 63 = .ok (.goto (-36), 3) := by decide +kernel
theorem dX6_seed_66 : decode cX6_seed 66 = .ok (.iconst (-1), 1) := by decide +kernel
theorem dX6_seed_67 : decode cX6_seed 67 = .ok (.ireturn, 1) := by decide +kernel
theorem dX6_at_0 : decode cX6_at 0 = .ok (.iload_n 1, 1) := by decide +kernel
theorem dX6_at_1 : decode cX6_at 1 = .ok (.ifCond .ge 10, 3) := by decide +kernel
theorem dX6_at_4 : decode cX6_at 4 = .ok (.aload_n 0, 1) := by decide +kernel
theorem dX6_at_5 : decode cX6_at 5 = .ok (.bipush (-2), 2) := by decide +kernel
theorem dX6_at_7 : decode cX6_at 7 = .ok (.invokevirtual 82, 3) := by decide +kernel
theorem dX6_at_10 : decode cX6_at 10 = .ok (.ireturn, 1) := by decide +kernel
theorem dX6_at_11 : decode cX6_at 11 = .ok (.aload_n 0, 1) := by decide +kernel
theorem dX6_at_12 : decode cX6_at 12 = .ok (.getfield 10, 3) := by decide +kernel
theorem dX6_at_15 : decode cX6_at 15 = .ok (.getfield 120, 3) := by decide +kernel
theorem dX6_at_18 : decode cX6_at 18 = .ok (.iload_n 1, 1) := by decide +kernel
theorem dX6_at_19 : decode cX6_at 19 = .ok (.invokevirtual 123, 3) := by decide +kernel
theorem dX6_at_22 : decode cX6_at 22 = .ok (.ireturn, 1) := by decide +kernel
theorem dX6_inRow_0 : decode cX6_inRow 0 = .ok (.aload_n 0, 1) := by decide +kernel
theorem dX6_inRow_1 : decode cX6_inRow 1 = .ok (.getfield 10, 3) := by decide +kernel
theorem dX6_inRow_4 : decode cX6_inRow 4 = .ok (.iload_n 1, 1) := by decide +kernel
theorem dX6_inRow_5 : decode cX6_inRow 5 = .ok (.invokevirtual 78, 3) := by decide +kernel
theorem dX6_inRow_8 : decode cX6_inRow 8 = .ok (.ifCond .eq 12, 3) := by decide +kernel
theorem dX6_inRow_11 : decode cX6_inRow 11 = .ok (.iload_n 2, 1) := by decide +kernel
theorem dX6_inRow_12 : decode cX6_inRow 12 = .ok (.ifCond .lt 8, 3) := by decide +kernel
theorem dX6_inRow_15 : decode cX6_inRow 15 = .ok (.iload_n 2, 1) := by decide +kernel
theorem dX6_inRow_16 : decode cX6_inRow 16 = .ok (.iconst 4, 1) := by decide +kernel
theorem dX6_inRow_17 : decode cX6_inRow 17 = .ok (.if_icmp .le 10, 3) := by decide +kernel
theorem dX6_inRow_20 : decode cX6_inRow 20 = .ok (.aload_n 0, 1) := by decide +kernel
theorem dX6_inRow_21 : decode cX6_inRow 21 = .ok (.bipush (-2), 2) := by decide +kernel
theorem dX6_inRow_23 : decode cX6_inRow 23 = .ok (.invokevirtual 82, 3) := by decide +kernel
theorem dX6_inRow_26 : decode cX6_inRow 26 = .ok (.ireturn, 1) := by decide +kernel
theorem dX6_inRow_27 : decode cX6_inRow 27 = .ok (.aload_n 0, 1) := by decide +kernel
theorem dX6_inRow_28 : decode cX6_inRow 28 = .ok (.getfield 10, 3) := by decide +kernel
theorem dX6_inRow_31 : decode cX6_inRow 31 = .ok (.getfield 120, 3) := by decide +kernel
theorem dX6_inRow_34 : decode cX6_inRow 34 = .ok (.iload_n 1, 1) := by decide +kernel
theorem dX6_inRow_35 : decode cX6_inRow 35 = .ok (.invokevirtual 126, 3) := by decide +kernel
theorem dX6_inRow_38 : decode cX6_inRow 38 = .ok (.istore_n 3, 1) := by decide +kernel
theorem dX6_inRow_39 : decode cX6_inRow 39 = .ok (.iload_n 3, 1) := by decide +kernel
theorem dX6_inRow_40 : decode cX6_inRow 40 = .ok (.iconst (-1), 1) := by decide +kernel
theorem dX6_inRow_41 : decode cX6_inRow 41 = .ok (.if_icmp .ne 10, 3) := by decide +kernel
theorem dX6_inRow_44 : decode cX6_inRow 44 = .ok (.aload_n 0, 1) := by decide +kernel
theorem dX6_inRow_45 : decode cX6_inRow 45 = .ok (.bipush (-3), 2) := by decide +kernel
theorem dX6_inRow_47 : decode cX6_inRow 47 = .ok (.invokevirtual 82, 3) := by decide +kernel
theorem dX6_inRow_50 : decode cX6_inRow 50 = .ok (.ireturn, 1) := by decide +kernel
theorem dX6_inRow_51 : decode cX6_inRow 51 = .ok (.aload_n 0, 1) := by decide +kernel
theorem dX6_inRow_52 : decode cX6_inRow 52 = .ok (.getfield 10, 3) := by decide +kernel
theorem dX6_inRow_55 : decode cX6_inRow 55 = .ok (.aload_n 0, 1) := by decide +kernel
theorem dX6_inRow_56 : decode cX6_inRow 56 = .ok (.getfield 10, 3) := by decide +kernel
theorem dX6_inRow_59 : decode cX6_inRow 59 = .ok (.getfield 120, 3) := by decide +kernel
theorem dX6_inRow_62 : decode cX6_inRow 62 = .ok (.iload_n 3, 1) := by decide +kernel
theorem dX6_inRow_63 : decode cX6_inRow 63 = .ok (.invokevirtual 129, 3) := by decide +kernel
theorem dX6_inRow_66 : decode cX6_inRow 66 = .ok (.invokevirtual 132, 3) := by decide +kernel
theorem dX6_inRow_69 : decode cX6_inRow 69 = .ok (.istore 4, 2) := by decide +kernel
theorem dX6_inRow_71 : decode cX6_inRow 71 = .ok (.iload_n 2, 1) := by decide +kernel
theorem dX6_inRow_72 : decode cX6_inRow 72 = .ok (.tableswitch 73 0 3 #[32, 34, 48, 62], 32) := by decide +kernel
theorem dX6_inRow_104 : decode cX6_inRow 104 = .ok (.iload_n 3, 1) := by decide +kernel
theorem dX6_inRow_105 : decode cX6_inRow 105 = .ok (.ireturn, 1) := by decide +kernel
theorem dX6_inRow_106 : decode cX6_inRow 106 = .ok (.aload_n 0, 1) := by decide +kernel
theorem dX6_inRow_107 : decode cX6_inRow 107 = .ok (.getfield 10, 3) := by decide +kernel
theorem dX6_inRow_110 : decode cX6_inRow 110 = .ok (.iload_n 1, 1) := by decide +kernel
theorem dX6_inRow_111 : decode cX6_inRow 111 = .ok (.iload 4, 2) := by decide +kernel
theorem dX6_inRow_113 : decode cX6_inRow 113 = .ok (.invokevirtual 89, 3) := by decide +kernel
theorem dX6_inRow_116 : decode cX6_inRow 116 = .ok (.invokestatic 93, 3) := by decide +kernel
theorem dX6_inRow_119 : decode cX6_inRow 119 = .ok (.ireturn, 1) := by decide +kernel
theorem dX6_inRow_120 : decode cX6_inRow 120 = .ok (.aload_n 0, 1) := by decide +kernel
theorem dX6_inRow_121 : decode cX6_inRow 121 = .ok (.getfield 10, 3) := by decide +kernel
theorem dX6_inRow_124 : decode cX6_inRow 124 = .ok (.iload_n 1, 1) := by decide +kernel
theorem dX6_inRow_125 : decode cX6_inRow 125 = .ok (.iload 4, 2) := by decide +kernel
theorem dX6_inRow_127 : decode cX6_inRow 127 = .ok (.invokevirtual 135, 3) := by decide +kernel
theorem dX6_inRow_130 : decode cX6_inRow 130 = .ok (.invokestatic 93, 3) := by decide +kernel
theorem dX6_inRow_133 : decode cX6_inRow 133 = .ok (.ireturn, 1) := by decide +kernel
theorem dX6_inRow_134 : decode cX6_inRow 134 = .ok (.aload_n 0, 1) := by decide +kernel
theorem dX6_inRow_135 : decode cX6_inRow 135 = .ok (.getfield 10, 3) := by decide +kernel
theorem dX6_inRow_138 : decode cX6_inRow 138 = .ok (.iload_n 1, 1) := by decide +kernel
theorem dX6_inRow_139 : decode cX6_inRow 139 = .ok (.iload 4, 2) := by decide +kernel
theorem dX6_inRow_141 : decode cX6_inRow 141 = .ok (.invokevirtual 138, 3) := by decide +kernel
theorem dX6_inRow_144 : decode cX6_inRow 144 = .ok (.ireturn, 1) := by decide +kernel
theorem dX6_inRow_145 : decode cX6_inRow 145 = .ok (.aload_n 0, 1) := by decide +kernel
theorem dX6_inRow_146 : decode cX6_inRow 146 = .ok (.getfield 10, 3) := by decide +kernel
theorem dX6_inRow_149 : decode cX6_inRow 149 = .ok (.iload_n 1, 1) := by decide +kernel
theorem dX6_inRow_150 : decode cX6_inRow 150 = .ok (.iload 4, 2) := by decide +kernel
theorem dX6_inRow_152 : decode cX6_inRow 152 = .ok (.invokevirtual 141, 3) := by decide +kernel
theorem dX6_inRow_155 : decode cX6_inRow 155 = .ok (.ireturn, 1) := by decide +kernel
theorem dX6_who_0 : decode cX6_who 0 = .ok (.aload_n 0, 1) := by decide +kernel
theorem dX6_who_1 : decode cX6_who 1 = .ok (.getfield 10, 3) := by decide +kernel
theorem dX6_who_4 : decode cX6_who 4 = .ok (.iload_n 1, 1) := by decide +kernel
theorem dX6_who_5 : decode cX6_who 5 = .ok (.invokevirtual 78, 3) := by decide +kernel
theorem dX6_who_8 : decode cX6_who 8 = .ok (.ifCond .eq 13, 3) := by decide +kernel
theorem dX6_who_11 : decode cX6_who 11 = .ok (.iload_n 2, 1) := by decide +kernel
theorem dX6_who_12 : decode cX6_who 12 = .ok (.ifCond .lt 9, 3) := by decide +kernel
theorem dX6_who_15 : decode cX6_who 15 = .ok (.iload_n 2, 1) := by decide +kernel
theorem dX6_who_16 : decode cX6_who 16 = .ok (.bipush 6, 2) := by decide +kernel
theorem dX6_who_18 : decode cX6_who 18 = .ok (.if_icmp .lt 10, 3) := by decide +kernel
theorem dX6_who_21 : decode cX6_who 21 = .ok (.aload_n 0, 1) := by decide +kernel
theorem dX6_who_22 : decode cX6_who 22 = .ok (.bipush (-2), 2) := by decide +kernel
theorem dX6_who_24 : decode cX6_who 24 = .ok (.invokevirtual 82, 3) := by decide +kernel
theorem dX6_who_27 : decode cX6_who 27 = .ok (.ireturn, 1) := by decide +kernel
theorem dX6_who_28 : decode cX6_who 28 = .ok (.aload_n 0, 1) := by decide +kernel
theorem dX6_who_29 : decode cX6_who 29 = .ok (.getfield 10, 3) := by decide +kernel
theorem dX6_who_32 : decode cX6_who 32 = .ok (.getfield 120, 3) := by decide +kernel
theorem dX6_who_35 : decode cX6_who 35 = .ok (.iload_n 1, 1) := by decide +kernel
theorem dX6_who_36 : decode cX6_who 36 = .ok (.invokevirtual 126, 3) := by decide +kernel
theorem dX6_who_39 : decode cX6_who 39 = .ok (.istore_n 3, 1) := by decide +kernel
theorem dX6_who_40 : decode cX6_who 40 = .ok (.iload_n 3, 1) := by decide +kernel
theorem dX6_who_41 : decode cX6_who 41 = .ok (.iconst (-1), 1) := by decide +kernel
theorem dX6_who_42 : decode cX6_who 42 = .ok (.if_icmp .ne 10, 3) := by decide +kernel
theorem dX6_who_45 : decode cX6_who 45 = .ok (.aload_n 0, 1) := by decide +kernel
theorem dX6_who_46 : decode cX6_who 46 = .ok (.bipush (-3), 2) := by decide +kernel
theorem dX6_who_48 : decode cX6_who 48 = .ok (.invokevirtual 82, 3) := by decide +kernel
theorem dX6_who_51 : decode cX6_who 51 = .ok (.ireturn, 1) := by decide +kernel
theorem dX6_who_52 : decode cX6_who 52 = .ok (.aload_n 0, 1) := by decide +kernel
theorem dX6_who_53 : decode cX6_who 53 = .ok (.getfield 10, 3) := by decide +kernel
theorem dX6_who_56 : decode cX6_who 56 = .ok (.iload_n 2, 1) := by decide +kernel
theorem dX6_who_57 : decode cX6_who 57 = .ok (.iload_n 3, 1) := by decide +kernel
theorem dX6_who_58 : decode cX6_who 58 = .ok (.invokevirtual 144, 3) := by decide +kernel
theorem dX6_who_61 : decode cX6_who 61 = .ok (.ireturn, 1) := by decide +kernel
theorem dX6_left_0 : decode cX6_left 0 = .ok (.iload_n 2, 1) := by decide +kernel
theorem dX6_left_1 : decode cX6_left 1 = .ok (.ifCond .lt 8, 3) := by decide +kernel
theorem dX6_left_4 : decode cX6_left 4 = .ok (.iload_n 2, 1) := by decide +kernel
theorem dX6_left_5 : decode cX6_left 5 = .ok (.iconst 2, 1) := by decide +kernel
theorem dX6_left_6 : decode cX6_left 6 = .ok (.if_icmp .le 10, 3) := by decide +kernel
theorem dX6_left_9 : decode cX6_left 9 = .ok (.aload_n 0, 1) := by decide +kernel
theorem dX6_left_10 : decode cX6_left 10 = .ok (.bipush (-2), 2) := by decide +kernel
theorem dX6_left_12 : decode cX6_left 12 = .ok (.invokevirtual 82, 3) := by decide +kernel
theorem dX6_left_15 : decode cX6_left 15 = .ok (.ireturn, 1) := by decide +kernel
theorem dX6_left_16 : decode cX6_left 16 = .ok (.aload_n 0, 1) := by decide +kernel
theorem dX6_left_17 : decode cX6_left 17 = .ok (.getfield 10, 3) := by decide +kernel
theorem dX6_left_20 : decode cX6_left 20 = .ok (.iload_n 1, 1) := by decide +kernel
theorem dX6_left_21 : decode cX6_left 21 = .ok (.invokevirtual 147, 3) := by decide +kernel
theorem dX6_left_24 : decode cX6_left 24 = .ok (.istore_n 3, 1) := by decide +kernel
theorem dX6_left_25 : decode cX6_left 25 = .ok (.iload_n 3, 1) := by decide +kernel
theorem dX6_left_26 : decode cX6_left 26 = .ok (.ifCond .ge 9, 3) := by decide +kernel
theorem dX6_left_29 : decode cX6_left 29 = .ok (.aload_n 0, 1) := by decide +kernel
theorem dX6_left_30 : decode cX6_left 30 = .ok (.iload_n 3, 1) := by decide +kernel
