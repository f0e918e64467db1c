theorem dX0_init_0 : decode cX0_init 0 = .ok (.aload_n 0, 1) := by decide +kernel
theorem dX0_init_1 : decode cX0_init 1 = .ok (.invokespecial 3, 3) := by decide +kernel
theorem dX0_init_4 : decode cX0_init 4 = .ok (.aload_n 0, 1) := by decide +kernel
theorem dX0_init_5 : decode cX0_init 5 = .ok (.new 9, 3) := by decide +kernel
theorem dX0_init_8 : decode cX0_init 8 = .ok (.dup, 1) := by decide +kernel
theorem dX0_init_9 : decode cX0_init 9 = .ok (.bipush 16, 2) := by decide +kernel
theorem dX0_init_11 : decode cX0_init 11 = .ok (.invokespecial 11, 3) := by decide +kernel
theorem dX0_init_14 : decode cX0_init 14 = .ok (.putfield 14, 3) := by decide +kernel
theorem dX0_init_17 : decode cX0_init 17 = .ok (.aload_n 0, 1) := by decide +kernel
theorem dX0_init_18 : decode cX0_init 18 = .ok (.new 9, 3) := by decide +kernel
theorem dX0_init_21 : decode cX0_init 21 = .ok (.dup, 1) := by decide +kernel
theorem dX0_init_22 : decode cX0_init 22 = .ok (.bipush 16, 2) := by decide +kernel
theorem dX0_init_24 : decode cX0_init 24 = .ok (.invokespecial 11, 3) := by decide +kernel
theorem dX0_init_27 : decode cX0_init 27 = .ok (.putfield 20, 3) := by decide +kernel
theorem dX0_init_30 : decode cX0_init 30 = .ok (.return_, 1) := by decide +kernel
theorem dX0_numberOf_0 : decode cX0_numberOf 0 = .ok (.iconst 0, 1) := by decide +kernel
theorem dX0_numberOf_1 : decode cX0_numberOf 1 = .ok (.istore_n 2, 1) := by decide +kernel
theorem dX0_numberOf_2 : decode cX0_numberOf 2 = .ok (.iload_n 2, 1) := by decide +kernel
theorem dX0_numberOf_3 : decode cX0_numberOf 3 = .ok (.aload_n 0, 1) := by decide +kernel
theorem dX0_numberOf_4 : decode cX0_numberOf 4 = .ok (.getfield 23, 3) := by decide +kernel
theorem dX0_numberOf_7 : decode cX0_numberOf 7 = .ok (.if_icmp .ge 23, 3) := by decide +kernel
theorem dX0_numberOf_10 : decode cX0_numberOf 10 = .ok (.aload_n 0, 1) := by decide +kernel
theorem dX0_numberOf_11 : decode cX0_numberOf 11 = .ok (.getfield 20, 3) := by decide +kernel
theorem dX0_numberOf_14 : decode cX0_numberOf 14 = .ok (.iload_n 2, 1) := by decide +kernel
theorem dX0_numberOf_15 : decode cX0_numberOf 15 = .ok (.invokevirtual 27, 3) := by decide +kernel
theorem dX0_numberOf_18 : decode cX0_numberOf 18 = .ok (.iload_n 1, 1) := by decide +kernel
theorem dX0_numberOf_19 : decode cX0_numberOf 19 = .ok (.if_icmp .ne 5, 3) := by decide +kernel
theorem dX0_numberOf_22 : decode cX0_numberOf 22 = .ok (.iload_n 2, 1) := by decide +kernel
theorem dX0_numberOf_23 : decode cX0_numberOf 23 = .ok (.ireturn, 1) := by decide +kernel
theorem dX0_numberOf_24 : decode cX0_numberOf 24 = .ok (.iinc 2 1, 3) := by decide +kernel
theorem dX0_numberOf_27 : decode cX0_numberOf 27 = .ok (.goto (-25), 3) := by decide +kernel
theorem dX0_numberOf_30 : decode cX0_numberOf 30 = .ok (.iconst (-1), 1) := by decide +kernel
theorem dX0_numberOf_31 : decode cX0_numberOf 31 = .ok (.ireturn, 1) := by decide +kernel
theorem dX0_append_0 : decode cX0_append 0 = .ok (.aload_n 0, 1) := by decide +kernel
theorem dX0_append_1 : decode cX0_append 1 = .ok (.getfield 23, 3) := by decide +kernel
theorem dX0_append_4 : decode cX0_append 4 = .ok (.bipush 16, 2) := by decide +kernel
theorem dX0_append_6 : decode cX0_append 6 = .ok (.if_icmp .ge 25, 3) := by decide +kernel
theorem dX0_append_9 : decode cX0_append 9 = .ok (.aload_n 0, 1) := by decide +kernel
theorem dX0_append_10 : decode cX0_append 10 = .ok (.getfield 20, 3) := by decide +kernel
theorem dX0_append_13 : decode cX0_append 13 = .ok (.aload_n 0, 1) := by decide +kernel
theorem dX0_append_14 : decode cX0_append 14 = .ok (.getfield 23, 3) := by decide +kernel
theorem dX0_append_17 : decode cX0_append 17 = .ok (.iload_n 1, 1) := by decide +kernel
theorem dX0_append_18 : decode cX0_append 18 = .ok (.invokevirtual 31, 3) := by decide +kernel
theorem dX0_append_21 : decode cX0_append 21 = .ok (.aload_n 0, 1) := by decide +kernel
theorem dX0_append_22 : decode cX0_append 22 = .ok (.dup, 1) := by decide +kernel
theorem dX0_append_23 : decode cX0_append 23 = .ok (.getfield 23, 3) := by decide +kernel
theorem dX0_append_26 : decode cX0_append 26 = .ok (.iconst 1, 1) := by decide +kernel
theorem dX0_append_27 : decode cX0_append 27 = .ok (.iadd, 1) := by decide +kernel
theorem dX0_append_28 : decode cX0_append 28 = .ok (.putfield 23, 3) := by decide +kernel
theorem dX0_append_31 : decode cX0_append 31 = .ok (.return_, 1) := by decide +kernel
theorem dX0_takeOut_0 : decode cX0_takeOut 0 = .ok (.iload_n 1, 1) := by decide +kernel
theorem dX0_takeOut_1 : decode cX0_takeOut 1 = .ok (.istore_n 2, 1) := by decide +kernel
theorem dX0_takeOut_2 : decode cX0_takeOut 2 = .ok (.iload_n 2, 1) := by decide +kernel
theorem dX0_takeOut_3 : decode cX0_takeOut 3 = .ok (.aload_n 0, 1) := by decide +kernel
theorem dX0_takeOut_4 : decode cX0_takeOut 4 = .ok (.getfield 23, 3) := by decide +kernel
theorem dX0_takeOut_7 : decode cX0_takeOut 7 = .ok (.iconst 1, 1) := by decide +kernel
theorem dX0_takeOut_8 : decode cX0_takeOut 8 = .ok (.isub, 1) := by decide +kernel
theorem dX0_takeOut_9 : decode cX0_takeOut 9 = .ok (.if_icmp .ge 27, 3) := by decide +kernel
theorem dX0_takeOut_12 : decode cX0_takeOut 12 = .ok (.aload_n 0, 1) := by decide +kernel
theorem dX0_takeOut_13 : decode cX0_takeOut 13 = .ok (.getfield 20, 3) := by decide +kernel
theorem dX0_takeOut_16 : decode cX0_takeOut 16 = .ok (.iload_n 2, 1) := by decide +kernel
theorem dX0_takeOut_17 : decode cX0_takeOut 17 = .ok (.aload_n 0, 1) := by decide +kernel
theorem dX0_takeOut_18 : decode cX0_takeOut 18 = .ok (.getfield 20, 3) := by decide +kernel
theorem dX0_takeOut_21 : decode cX0_takeOut 21 = .ok (.iload_n 2, 1) := by decide +kernel
theorem dX0_takeOut_22 : decode cX0_takeOut 22 = .ok (.iconst 1, 1) := by decide +kernel
theorem dX0_takeOut_23 : decode cX0_takeOut 23 = .ok (.iadd, 1) := by decide +kernel
theorem dX0_takeOut_24 : decode cX0_takeOut 24 = .ok (.invokevirtual 27, 3) := by decide +kernel
theorem dX0_takeOut_27 : decode cX0_takeOut 27 = .ok (.invokevirtual 31, 3) := by decide +kernel
theorem dX0_takeOut_30 : decode cX0_takeOut 30 = .ok (.iinc 2 1, 3) := by decide +kernel
theorem dX0_takeOut_33 : decode cX0_takeOut 33 = .ok (.goto (-31), 3) := by decide +kernel
theorem dX0_takeOut_36 : decode cX0_takeOut 36 = .ok (.aload_n 0, 1) := by decide +kernel
theorem dX0_takeOut_37 : decode cX0_takeOut 37 = .ok (.dup, 1) := by decide +kernel
theorem dX0_takeOut_38 : decode cX0_takeOut 38 = .ok (.getfield 23, 3) := by decide +kernel
theorem dX0_takeOut_41 : decode cX0_takeOut 41 = .ok (.iconst 1, 1) := by decide +kernel
theorem dX0_takeOut_42 : decode cX0_takeOut 42 = .ok (.isub, 1) := by decide +kernel
theorem dX0_takeOut_43 : decode cX0_takeOut 43 = .ok (.putfield 23, 3) := by decide +kernel
theorem dX0_takeOut_46 : decode cX0_takeOut 46 = .ok (.return_, 1) := by decide +kernel
theorem dX0_blockedCells_0 : decode cX0_blockedCells 0 = .ok (.iconst 0, 1) := by decide +kernel
theorem dX0_blockedCells_1 : decode cX0_blockedCells 1 = .ok (.istore_n 1, 1) := by decide +kernel
theorem dX0_blockedCells_2 : decode cX0_blockedCells 2 = .ok (.iconst 0, 1) := by decide +kernel
theorem dX0_blockedCells_3 : decode cX0_blockedCells 3 = .ok (.istore_n 2, 1) := by decide +kernel
theorem dX0_blockedCells_4 : decode cX0_blockedCells 4 = .ok (.iload_n 2, 1) := by decide +kernel
theorem dX0_blockedCells_5 : decode cX0_blockedCells 5 = .ok (.bipush 16, 2) := by decide +kernel
theorem dX0_blockedCells_7 : decode cX0_blockedCells 7 = .ok (.if_icmp .ge 27, 3) := by decide +kernel
theorem dX0_blockedCells_10 : decode cX0_blockedCells 10 = .ok (.aload_n 0, 1) := by decide +kernel
theorem dX0_blockedCells_11 : decode cX0_blockedCells 11 = .ok (.getfield 14, 3) := by decide +kernel
theorem dX0_blockedCells_14 : decode cX0_blockedCells 14 = .ok (.iload_n 2, 1) := by decide +kernel
theorem dX0_blockedCells_15 : decode cX0_blockedCells 15 = .ok (.invokevirtual 27, 3) := by decide +kernel
theorem dX0_blockedCells_18 : decode cX0_blockedCells 18 = .ok (.iconst (-1), 1) := by decide +kernel
theorem dX0_blockedCells_19 : decode cX0_blockedCells 19 = .ok (.if_icmp .ne 9, 3) := by decide +kernel
theorem dX0_blockedCells_22 : decode cX0_blockedCells 22 = .ok (.iload_n 1, 1) := by decide +kernel
theorem dX0_blockedCells_23 : decode cX0_blockedCells 23 = .ok (.iconst 1, 1) := by decide +kernel
theorem dX0_blockedCells_24 : decode cX0_blockedCells 24 = .ok (.iload_n 2, 1) := by decide +kernel
theorem dX0_blockedCells_25 : decode cX0_blockedCells 25 = .ok (.ishl, 1) := by decide +kernel
theorem dX0_blockedCells_26 : decode cX0_blockedCells 26 = .ok (.ior, 1) := by decide +kernel
theorem dX0_blockedCells_27 : decode cX0_blockedCells 27 = .ok (.istore_n 1, 1) := by decide +kernel
theorem dX0_blockedCells_28 : decode cX0_blockedCells 28 = .ok (.iinc 2 1, 3) := by decide +kernel
theorem dX0_blockedCells_31 : decode cX0_blockedCells 31 = .ok (.goto (-27), 3) := by decide +kernel
theorem dX0_blockedCells_34 : decode cX0_blockedCells 34 = .ok (.iload_n 1, 1) := by decide +kernel
theorem dX0_blockedCells_35 : decode cX0_blockedCells 35 = .ok (.ireturn, 1) := by decide +kernel
theorem dX0_letteredCells_0 : decode cX0_letteredCells 0 = .ok (.iconst 0, 1) := by decide +kernel
theorem dX0_letteredCells_1 : decode cX0_letteredCells 1 = .ok (.istore_n 1, 1) := by decide +kernel
theorem dX0_letteredCells_2 : decode cX0_letteredCells 2 = .ok (.iconst 0, 1) := by decide +kernel
theorem dX0_letteredCells_3 : decode cX0_letteredCells 3 = .ok (.istore_n 2, 1) := by decide +kernel
theorem dX0_letteredCells_4 : decode cX0_letteredCells 4 = .ok (.iload_n 2, 1) := by decide +kernel
theorem dX0_letteredCells_5 : decode cX0_letteredCells 5 = .ok (.bipush 16, 2) := by decide +kernel
theorem dX0_letteredCells_7 : decode cX0_letteredCells 7 = .ok (.if_icmp .ge 28, 3) := by decide +kernel
theorem dX0_letteredCells_10 : decode cX0_letteredCells 10 = .ok (.aload_n 0, 1) := by decide +kernel
theorem dX0_letteredCells_11 : decode cX0_letteredCells 11 = .ok (.getfield 14, 3) := by decide +kernel
theorem dX0_letteredCells_14 : decode cX0_letteredCells 14 = .ok (.iload_n 2, 1) := by decide +kernel
theorem dX0_letteredCells_15 : decode cX0_letteredCells 15 = .ok (.invokevirtual 27, 3) := by decide +kernel
theorem dX0_letteredCells_18 : decode cX0_letteredCells 18 = .ok (.bipush 97, 2) := by decide +kernel
theorem dX0_letteredCells_20 : decode cX0_letteredCells 20 = .ok (.if_icmp .lt 9, 3) := by decide +kernel
theorem dX0_letteredCells_23 : decode cX0_letteredCells 23 = .ok (.iload_n 1, 1) := by decide +kernel
theorem dX0_letteredCells_24 : decode cX0_letteredCells 24 = .ok (.iconst 1, 1) := by decide +kernel
theorem dX0_letteredCells_25 : decode cX0_letteredCells 25 = .ok (.iload_n 2, 1) := by decide +kernel
theorem dX0_letteredCells_26 : decode cX0_letteredCells 26 = .ok (.ishl, 1) := by decide +kernel
theorem dX0_letteredCells_27 : decode cX0_letteredCells 27 = .ok (.ior, 1) := by decide +kernel
theorem dX0_letteredCells_28 : decode cX0_letteredCells 28 = .ok (.istore_n 1, 1) := by decide +kernel
theorem dX0_letteredCells_29 : decode cX0_letteredCells 29 = .ok (.iinc 2 1, 3) := by decide +kernel
theorem dX0_letteredCells_32 : decode cX0_letteredCells 32 = .ok (.goto (-28), 3) := by decide +kernel
theorem dX0_letteredCells_35 : decode cX0_letteredCells 35 = .ok (.iload_n 1, 1) := by decide +kernel
theorem dX0_letteredCells_36 : decode cX0_letteredCells 36 = .ok (.ireturn, 1) := by decide +kernel
theorem dX0_clearLetters_0 : decode cX0_clearLetters 0 = .ok (.iconst 0, 1) := by decide +kernel
theorem dX0_clearLetters_1 : decode cX0_clearLetters 1 = .ok (.istore_n 1, 1) := by decide +kernel
theorem dX0_clearLetters_2 : decode cX0_clearLetters 2 = .ok (.iconst 0, 1) := by decide +kernel
theorem dX0_clearLetters_3 : decode cX0_clearLetters 3 = .ok (.istore_n 2, 1) := by decide +kernel
theorem dX0_clearLetters_4 : decode cX0_clearLetters 4 = .ok (.iload_n 2, 1) := by decide +kernel
theorem dX0_clearLetters_5 : decode cX0_clearLetters 5 = .ok (.bipush 16, 2) := by decide +kernel
theorem dX0_clearLetters_7 : decode cX0_clearLetters 7 = .ok (.if_icmp .ge 34, 3) := by decide +kernel
theorem dX0_clearLetters_10 : decode cX0_clearLetters 10 = .ok (.aload_n 0, 1) := by decide +kernel
theorem dX0_clearLetters_11 : decode cX0_clearLetters 11 = .ok (.getfield 14, 3) := by decide +kernel
theorem dX0_clearLetters_14 : decode cX0_clearLetters 14 = .ok (.iload_n 2, 1) := by decide +kernel
theorem dX0_clearLetters_15 : decode cX0_clearLetters 15 = .ok (.invokevirtual 27, 3) := by decide +kernel
theorem dX0_clearLetters_18 : decode cX0_clearLetters 18 = .ok (.bipush 97, 2) := by decide +kernel
theorem dX0_clearLetters_20 : decode cX0_clearLetters 20 = .ok (.if_icmp .lt 15, 3) := by decide +kernel
theorem dX0_clearLetters_23 : decode cX0_clearLetters 23 = .ok (.aload_n 0, 1) := by decide +kernel
theorem dX0_clearLetters_24 : decode cX0_clearLetters 24 = .ok (.getfield 14, 3) := by decide +kernel
theorem dX0_clearLetters_27 : decode cX0_clearLetters 27 = .ok (.iload_n 2, 1) := by decide +kernel
theorem dX0_clearLetters_28 : decode cX0_clearLetters 28 = .ok (.iconst 0, 1) := by decide +kernel
theorem dX0_clearLetters_29 : decode cX0_clearLetters 29 = .ok (.invokevirtual 31, 3) := by decide +kernel
theorem dX0_clearLetters_32 : decode cX0_clearLetters 32 = .ok (.iinc 1 1, 3) := by decide +kernel
theorem dX0_clearLetters_35 : decode cX0_clearLetters 35 = .ok (.iinc 2 1, 3) := by decide +kernel
theorem dX0_clearLetters_38 : decode cX0_clearLetters 38 = .ok (.goto (-34), 3) := by decide +kernel
theorem dX0_clearLetters_41 : decode cX0_clearLetters 41 = .ok (.iload_n 1, 1) := by decide +kernel
theorem dX0_clearLetters_42 : decode cX0_clearLetters 42 = .ok (.ireturn, 1) := by decide +kernel
theorem dX0_swapRowsAndColumns_0 : decode cX0_swapRowsAndColumns 0 = .ok (.iconst 0, 1) := by decide +kernel
theorem dX0_swapRowsAndColumns_1 : decode cX0_swapRowsAndColumns 1 = .ok (.istore_n 1, 1) := by decide +kernel
theorem dX0_swapRowsAndColumns_2 : decode cX0_swapRowsAndColumns 2 = .ok (.iload_n 1, 1) := by decide +kernel
theorem dX0_swapRowsAndColumns_3 : decode cX0_swapRowsAndColumns 3 = .ok (.iconst 4, 1) := by decide +kernel
theorem dX0_swapRowsAndColumns_4 : decode cX0_swapRowsAndColumns 4 = .ok (.if_icmp .ge 72, 3) := by decide +kernel
theorem dX0_swapRowsAndColumns_7 : decode cX0_swapRowsAndColumns 7 = .ok (.iconst 0, 1) := by decide +kernel
theorem dX0_swapRowsAndColumns_8 : decode cX0_swapRowsAndColumns 8 = .ok (.istore_n 2, 1) := by decide +kernel
theorem dX0_swapRowsAndColumns_9 : decode cX0_swapRowsAndColumns 9 = .ok (.iload_n 2, 1) := by decide +kernel
theorem dX0_swapRowsAndColumns_10 : decode cX0_swapRowsAndColumns 10 = .ok (.iload_n 1, 1) := by decide +kernel
theorem dX0_swapRowsAndColumns_11 : decode cX0_swapRowsAndColumns 11 = .ok (.if_icmp .ge 59, 3) := by decide +kernel
theorem dX0_swapRowsAndColumns_14 : decode cX0_swapRowsAndColumns 14 = .ok (.aload_n 0, 1) := by decide +kernel
theorem dX0_swapRowsAndColumns_15 : decode cX0_swapRowsAndColumns 15 = .ok (.getfield 14, 3) := by decide +kernel
theorem dX0_swapRowsAndColumns_18 : decode cX0_swapRowsAndColumns 18 = .ok (.iload_n 1, 1) := by decide +kernel
theorem dX0_swapRowsAndColumns_19 : decode cX0_swapRowsAndColumns 19 = .ok (.iconst 4, 1) := by decide +kernel
theorem dX0_swapRowsAndColumns_20 : decode cX0_swapRowsAndColumns 20 = .ok (.imul, 1) := by decide +kernel
theorem dX0_swapRowsAndColumns_21 : decode cX0_swapRowsAndColumns 21 = .ok (.iload_n 2, 1) := by decide +kernel
theorem dX0_swapRowsAndColumns_22 : decode cX0_swapRowsAndColumns 22 = .ok (.iadd, 1) := by decide +kernel
theorem dX0_swapRowsAndColumns_23 : decode cX0_swapRowsAndColumns 23 = .ok (.invokevirtual 27, 3) := by decide +kernel
theorem dX0_swapRowsAndColumns_26 : decode cX0_swapRowsAndColumns 26 = .ok (.istore_n 3, 1) := by decide +kernel
theorem dX0_swapRowsAndColumns_27 : decode cX0_swapRowsAndColumns 27 = .ok (.aload_n 0, 1) := by decide +kernel
theorem dX0_swapRowsAndColumns_28 : decode cX0_swapRowsAndColumns 28 = .ok (.getfield 14, 3) := by decide +kernel
theorem dX0_swapRowsAndColumns_31 : decode cX0_swapRowsAndColumns 31 = .ok (.iload_n 1, 1) := by decide +kernel
theorem dX0_swapRowsAndColumns_32 : decode cX0_swapRowsAndColumns 32 = .ok (.iconst 4, 1) := by decide +kernel
theorem dX0_swapRowsAndColumns_33 : decode cX0_swapRowsAndColumns 33 = .ok (.imul, 1) := by decide +kernel
theorem dX0_swapRowsAndColumns_34 : decode cX0_swapRowsAndColumns 34 = .ok (.iload_n 2, 1) := by decide +kernel
theorem dX0_swapRowsAndColumns_35 : decode cX0_swapRowsAndColumns 35 = .ok (.iadd, 1) := by decide +kernel
theorem dX0_swapRowsAndColumns_36 : decode cX0_swapRowsAndColumns 36 = .ok (.aload_n 0, 1) := by decide +kernel
theorem dX0_swapRowsAndColumns_37 : decode cX0_swapRowsAndColumns 37 = .ok (.getfield 14, 3) := by decide +kernel
theorem dX0_swapRowsAndColumns_40 : decode cX0_swapRowsAndColumns 40 = .ok (.iload_n 2, 1) := by decide +kernel
theorem dX0_swapRowsAndColumns_41 : decode cX0_swapRowsAndColumns 41 = .ok (.iconst 4, 1) := by decide +kernel
theorem dX0_swapRowsAndColumns_42 : decode cX0_swapRowsAndColumns 42 = .ok (.imul, 1) := by decide +kernel
theorem dX0_swapRowsAndColumns_43 : decode cX0_swapRowsAndColumns 43 = .ok (.iload_n 1, 1) := by decide +kernel
theorem dX0_swapRowsAndColumns_44 : decode cX0_swapRowsAndColumns 44 = .ok (.iadd, 1) := by decide +kernel
theorem dX0_swapRowsAndColumns_45 : decode cX0_swapRowsAndColumns 45 = .ok (.invokevirtual 27, 3) := by decide +kernel
theorem dX0_swapRowsAndColumns_48 : decode cX0_swapRowsAndColumns 48 = .ok (.invokevirtual 31, 3) := by decide +kernel
theorem dX0_swapRowsAndColumns_51 : decode cX0_swapRowsAndColumns 51 = .ok (.aload_n 0, 1) := by decide +kernel
theorem dX0_swapRowsAndColumns_52 : decode cX0_swapRowsAndColumns 52 = .ok (.getfield 14, 3) := by decide +kernel
theorem dX0_swapRowsAndColumns_55 : decode cX0_swapRowsAndColumns 55 = .ok (.iload_n 2, 1) := by decide +kernel
theorem dX0_swapRowsAndColumns_56 : decode cX0_swapRowsAndColumns 56 = .ok (.iconst 4, 1) := by decide +kernel
theorem dX0_swapRowsAndColumns_57 : decode cX0_swapRowsAndColumns 57 = .ok (.imul, 1) := by decide +kernel
theorem dX0_swapRowsAndColumns_58 : decode cX0_swapRowsAndColumns 58 = .ok (.iload_n 1, 1) := by decide +kernel
theorem dX0_swapRowsAndColumns_59 : decode cX0_swapRowsAndColumns 59 = .ok (.iadd, 1) := by decide +kernel
theorem dX0_swapRowsAndColumns_60 : decode cX0_swapRowsAndColumns 60 = .ok (.iload_n 3, 1) := by decide +kernel
theorem dX0_swapRowsAndColumns_61 : decode cX0_swapRowsAndColumns 61 = .ok (.invokevirtual 31, 3) := by decide +kernel
theorem dX0_swapRowsAndColumns_64 : decode cX0_swapRowsAndColumns 64 = .ok (.iinc 2 1, 3) := by decide +kernel
theorem dX0_swapRowsAndColumns_67 : decode cX0_swapRowsAndColumns 67 = .ok (.goto (-58), 3) := by decide +kernel
theorem dX0_swapRowsAndColumns_70 : decode cX0_swapRowsAndColumns 70 = .ok (.iinc 1 1, 3) := by decide +kernel
theorem dX0_swapRowsAndColumns_73 : decode cX0_swapRowsAndColumns 73 = .ok (.goto (-71), 3) := by decide +kernel
theorem dX0_swapRowsAndColumns_76 : decode cX0_swapRowsAndColumns 76 = .ok (.return_, 1) := by decide +kernel
theorem dX1_init_0 : decode cX1_init 0 = .ok (.aload_n 0, 1) := by decide +kernel
theorem dX1_init_1 : decode cX1_init 1 = .ok (.invokespecial 3, 3) := by decide +kernel
theorem dX1_init_4 : decode cX1_init 4 = .ok (.aload_n 0, 1) := by decide +kernel
theorem dX1_init_5 : decode cX1_init 5 = .ok (.new 9, 3) := by decide +kernel
theorem dX1_init_8 : decode cX1_init 8 = .ok (.dup, 1) := by decide +kernel
theorem dX1_init_9 : decode cX1_init 9 = .ok (.bipush 8, 2) := by decide +kernel
theorem dX1_init_11 : decode cX1_init 11 = .ok (.invokespecial 11, 3) := by decide +kernel
theorem dX1_init_14 : decode cX1_init 14 = .ok (.putfield 14, 3) := by decide +kernel
theorem dX1_init_17 : decode cX1_init 17 = .ok (.aload_n 0, 1) := by decide +kernel
theorem dX1_init_18 : decode cX1_init 18 = .ok (.new 9, 3) := by decide +kernel
theorem dX1_init_21 : decode cX1_init 21 = .ok (.dup, 1) := by decide +kernel
theorem dX1_init_22 : decode cX1_init 22 = .ok (.bipush 8, 2) := by decide +kernel
theorem dX1_init_24 : decode cX1_init 24 = .ok (.invokespecial 11, 3) := by decide +kernel
theorem dX1_init_27 : decode cX1_init 27 = .ok (.putfield 20, 3) := by decide +kernel
theorem dX1_init_30 : decode cX1_init 30 = .ok (.aload_n 0, 1) := by decide +kernel
theorem dX1_init_31 : decode cX1_init 31 = .ok (.aload_n 1, 1) := by decide +kernel
theorem dX1_init_32 : decode cX1_init 32 = .ok (.putfield 23, 3) := by decide +kernel
theorem dX1_init_35 : decode cX1_init 35 = .ok (.aload_n 0, 1) := by decide +kernel
theorem dX1_init_36 : decode cX1_init 36 = .ok (.aload_n 2, 1) := by decide +kernel
theorem dX1_init_37 : decode cX1_init 37 = .ok (.putfield 27, 3) := by decide +kernel
theorem dX1_init_40 : decode cX1_init 40 = .ok (.return_, 1) := by decide +kernel
theorem dX1_read_0 : decode cX1_read 0 = .ok (.iconst 0, 1) := by decide +kernel
theorem dX1_read_1 : decode cX1_read 1 = .ok (.istore_n 2, 1) := by decide +kernel
theorem dX1_read_2 : decode cX1_read 2 = .ok (.iload_n 2, 1) := by decide +kernel
theorem dX1_read_3 : decode cX1_read 3 = .ok (.aload_n 0, 1) := by decide +kernel
theorem dX1_read_4 : decode cX1_read 4 = .ok (.getfield 23, 3) := by decide +kernel
theorem dX1_read_7 : decode cX1_read 7 = .ok (.getfield 31, 3) := by decide +kernel
theorem dX1_read_10 : decode cX1_read 10 = .ok (.if_icmp .ge 34, 3) := by decide +kernel
theorem dX1_read_13 : decode cX1_read 13 = .ok (.aload_n 0, 1) := by decide +kernel
theorem dX1_read_14 : decode cX1_read 14 = .ok (.iload_n 2, 1) := by decide +kernel
theorem dX1_read_15 : decode cX1_read 15 = .ok (.aload_n 1, 1) := by decide +kernel
theorem dX1_read_16 : decode cX1_read 16 = .ok (.invokevirtual 37, 3) := by decide +kernel
theorem dX1_read_19 : decode cX1_read 19 = .ok (.istore_n 3, 1) := by decide +kernel
theorem dX1_read_20 : decode cX1_read 20 = .ok (.aload_n 0, 1) := by decide +kernel
theorem dX1_read_21 : decode cX1_read 21 = .ok (.getfield 14, 3) := by decide +kernel
theorem dX1_read_24 : decode cX1_read 24 = .ok (.iload_n 2, 1) := by decide +kernel
theorem dX1_read_25 : decode cX1_read 25 = .ok (.iload_n 3, 1) := by decide +kernel
theorem dX1_read_26 : decode cX1_read 26 = .ok (.invokevirtual 41, 3) := by decide +kernel
theorem dX1_read_29 : decode cX1_read 29 = .ok (.aload_n 0, 1) := by decide +kernel
theorem dX1_read_30 : decode cX1_read 30 = .ok (.getfield 20, 3) := by decide +kernel
theorem dX1_read_33 : decode cX1_read 33 = .ok (.iload_n 2, 1) := by decide +kernel
theorem dX1_read_34 : decode cX1_read 34 = .ok (.iload_n 3, 1) := by decide +kernel
theorem dX1_read_35 : decode cX1_read 35 = .ok (.invokevirtual 41, 3) := by decide +kernel
theorem dX1_read_38 : decode cX1_read 38 = .ok (.iinc 2 1, 3) := by decide +kernel
theorem dX1_read_41 : decode cX1_read 41 = .ok (.goto (-39), 3) := by decide +kernel
theorem dX1_read_44 : decode cX1_read 44 = .ok (.iconst 1, 1) := by decide +kernel
theorem dX1_read_45 : decode cX1_read 45 = .ok (.istore_n 2, 1) := by decide +kernel
theorem dX1_read_46 : decode cX1_read 46 = .ok (.iconst 0, 1) := by decide +kernel
theorem dX1_read_47 : decode cX1_read 47 = .ok (.istore_n 3, 1) := by decide +kernel
theorem dX1_read_48 : decode cX1_read 48 = .ok (.iload_n 2, 1) := by decide +kernel
theorem dX1_read_49 : decode cX1_read 49 = .ok (.ifCond .eq 21, 3) := by decide +kernel
theorem dX1_read_52 : decode cX1_read 52 = .ok (.iload_n 3, 1) := by decide +kernel
theorem dX1_read_53 : decode cX1_read 53 = .ok (.sipush 128, 3) := by decide +kernel
theorem dX1_read_56 : decode cX1_read 56 = .ok (.if_icmp .gt 14, 3) := by decide +kernel
theorem dX1_read_59 : decode cX1_read 59 = .ok (.aload_n 0, 1) := by decide +kernel
theorem dX1_read_60 : decode cX1_read 60 = .ok (.invokevirtual 45, 3) := by decide +kernel
theorem dX1_read_63 : decode cX1_read 63 = .ok (.istore_n 2, 1) := by decide +kernel
theorem dX1_read_64 : decode cX1_read 64 = .ok (.iinc 3 1, 3) := by decide +kernel
theorem dX1_read_67 : decode cX1_read 67 = .ok (.goto (-19), 3) := by decide +kernel
theorem dX1_read_70 : decode cX1_read 70 = .ok (.return_, 1) := by decide +kernel
theorem dX1_wordsThatFit_0 : decode cX1_wordsThatFit 0 = .ok (.aload_n 0, 1) := by decide +kernel
theorem dX1_wordsThatFit_1 : decode cX1_wordsThatFit 1 = .ok (.getfield 27, 3) := by decide +kernel
theorem dX1_wordsThatFit_4 : decode cX1_wordsThatFit 4 = .ok (.getfield 49, 3) := by decide +kernel
theorem dX1_wordsThatFit_7 : decode cX1_wordsThatFit 7 = .ok (.aload_n 0, 1) := by decide +kernel
theorem dX1_wordsThatFit_8 : decode cX1_wordsThatFit 8 = .ok (.getfield 23, 3) := by decide +kernel
theorem dX1_wordsThatFit_11 : decode cX1_wordsThatFit 11 = .ok (.getfield 54, 3) := by decide +kernel
theorem dX1_wordsThatFit_14 : decode cX1_wordsThatFit 14 = .ok (.iload_n 1, 1) := by decide +kernel
theorem dX1_wordsThatFit_15 : decode cX1_wordsThatFit 15 = .ok (.invokevirtual 57, 3) := by decide +kernel
theorem dX1_wordsThatFit_18 : decode cX1_wordsThatFit 18 = .ok (.invokevirtual 57, 3) := by decide +kernel
theorem dX1_wordsThatFit_21 : decode cX1_wordsThatFit 21 = .ok (.istore_n 3, 1) := by decide +kernel
theorem dX1_wordsThatFit_22 : decode cX1_wordsThatFit 22 = .ok (.iconst 0, 1) := by decide +kernel
theorem dX1_wordsThatFit_23 : decode cX1_wordsThatFit 23 = .ok (.istore 4, 2) := by decide +kernel
theorem dX1_wordsThatFit_25 : decode cX1_wordsThatFit 25 = .ok (.iload 4, 2) := by decide +kernel
theorem dX1_wordsThatFit_27 : decode cX1_wordsThatFit 27 = .ok (.aload_n 0, 1) := by decide +kernel
theorem dX1_wordsThatFit_28 : decode cX1_wordsThatFit 28 = .ok (.getfield 23, 3) := by decide +kernel
theorem dX1_wordsThatFit_31 : decode cX1_wordsThatFit 31 = .ok (.getfield 54, 3) := by decide +kernel
theorem dX1_wordsThatFit_34 : decode cX1_wordsThatFit 34 = .ok (.iload_n 1, 1) := by decide +kernel
theorem dX1_wordsThatFit_35 : decode cX1_wordsThatFit 35 = .ok (.invokevirtual 57, 3) := by decide +kernel
theorem dX1_wordsThatFit_38 : decode cX1_wordsThatFit 38 = .ok (.if_icmp .ge 52, 3) := by decide +kernel
theorem dX1_wordsThatFit_41 : decode cX1_wordsThatFit 41 = .ok (.aload_n 2, 1) := by decide +kernel
theorem dX1_wordsThatFit_42 : decode cX1_wordsThatFit 42 = .ok (.getfield 61, 3) := by decide +kernel
theorem dX1_wordsThatFit_45 : decode cX1_wordsThatFit 45 = .ok (.aload_n 0, 1) := by decide +kernel
theorem dX1_wordsThatFit_46 : decode cX1_wordsThatFit 46 = .ok (.getfield 23, 3) := by decide +kernel
theorem dX1_wordsThatFit_49 : decode cX1_wordsThatFit 49 = .ok (.iload_n 1, 1) := by decide +kernel
theorem dX1_wordsThatFit_50 : decode cX1_wordsThatFit 50 = .ok (.iload 4, 2) := by decide +kernel
theorem dX1_wordsThatFit_52 : decode cX1_wordsThatFit 52 = .ok (.invokevirtual 66, 3) := by decide +kernel
theorem dX1_wordsThatFit_55 : decode cX1_wordsThatFit 55 = .ok (.invokevirtual 57, 3) := by decide +kernel
theorem dX1_wordsThatFit_58 : decode cX1_wordsThatFit 58 = .ok (.istore 5, 2) := by decide +kernel
theorem dX1_wordsThatFit_60 : decode cX1_wordsThatFit 60 = .ok (.iload 5, 2) := by decide +kernel
theorem dX1_wordsThatFit_62 : decode cX1_wordsThatFit 62 = .ok (.bipush 97, 2) := by decide +kernel
theorem dX1_wordsThatFit_64 : decode cX1_wordsThatFit 64 = .ok (.if_icmp .lt 20, 3) := by decide +kernel
theorem dX1_wordsThatFit_67 : decode cX1_wordsThatFit 67 = .ok (.iload_n 3, 1) := by decide +kernel
theorem dX1_wordsThatFit_68 : decode cX1_wordsThatFit 68 = .ok (.aload_n 0, 1) := by decide +kernel
theorem dX1_wordsThatFit_69 : decode cX1_wordsThatFit 69 = .ok (.getfield 27, 3) := by decide +kernel
theorem dX1_wordsThatFit_72 : decode cX1_wordsThatFit 72 = .ok (.iload 4, 2) := by decide +kernel
theorem dX1_wordsThatFit_74 : decode cX1_wordsThatFit 74 = .ok (.iload 5, 2) := by decide +kernel
theorem dX1_wordsThatFit_76 : decode cX1_wordsThatFit 76 = .ok (.bipush 97, 2) := by decide +kernel
theorem dX1_wordsThatFit_78 : decode cX1_wordsThatFit 78 = .ok (.isub, 1) := by decide +kernel
theorem dX1_wordsThatFit_79 : decode cX1_wordsThatFit 79 = .ok (.invokevirtual 70, 3) := by decide +kernel
theorem dX1_wordsThatFit_82 : decode cX1_wordsThatFit 82 = .ok (.iand, 1) := by decide +kernel
theorem dX1_wordsThatFit_83 : decode cX1_wordsThatFit 83 = .ok (.istore_n 3, 1) := by decide +kernel
theorem dX1_wordsThatFit_84 : decode cX1_wordsThatFit 84 = .ok (.iinc 4 1, 3) := by decide +kernel
theorem dX1_wordsThatFit_87 : decode cX1_wordsThatFit 87 = .ok (.goto (-62), 3) := by decide +kernel
theorem dX1_wordsThatFit_90 : decode cX1_wordsThatFit 90 = .ok (.iload_n 3, 1) := by decide +kernel
theorem dX1_wordsThatFit_91 : decode cX1_wordsThatFit 91 = .ok (.ireturn, 1) := by decide +kernel
theorem dX1_dropWords_0 : decode cX1_dropWords 0 = .ok (.iconst 0, 1) := by decide +kernel
theorem dX1_dropWords_1 : decode cX1_dropWords 1 = .ok (.istore_n 1, 1) := by decide +kernel
theorem dX1_dropWords_2 : decode cX1_dropWords 2 = .ok (.iconst 0, 1) := by decide +kernel
theorem dX1_dropWords_3 : decode cX1_dropWords 3 = .ok (.istore_n 2, 1) := by decide +kernel
theorem dX1_dropWords_4 : decode cX1_dropWords 4 = .ok (.iload_n 2, 1) := by decide +kernel
theorem dX1_dropWords_5 : decode cX1_dropWords 5 = .ok (.aload_n 0, 1) := by decide +kernel
theorem dX1_dropWords_6 : decode cX1_dropWords 6 = .ok (.getfield 23, 3) := by decide +kernel
theorem dX1_dropWords_9 : decode cX1_dropWords 9 = .ok (.getfield 31, 3) := by decide +kernel
theorem dX1_dropWords_12 : decode cX1_dropWords 12 = .ok (.if_icmp .ge 73, 3) := by decide +kernel
theorem dX1_dropWords_15 : decode cX1_dropWords 15 = .ok (.aload_n 0, 1) := by decide +kernel
theorem dX1_dropWords_16 : decode cX1_dropWords 16 = .ok (.getfield 20, 3) := by decide +kernel
theorem dX1_dropWords_19 : decode cX1_dropWords 19 = .ok (.iload_n 2, 1) := by decide +kernel
theorem dX1_dropWords_20 : decode cX1_dropWords 20 = .ok (.invokevirtual 57, 3) := by decide +kernel
theorem dX1_dropWords_23 : decode cX1_dropWords 23 = .ok (.istore_n 3, 1) := by decide +kernel
theorem dX1_dropWords_24 : decode cX1_dropWords 24 = .ok (.iconst 0, 1) := by decide +kernel
theorem dX1_dropWords_25 : decode cX1_dropWords 25 = .ok (.istore 4, 2) := by decide +kernel
theorem dX1_dropWords_27 : decode cX1_dropWords 27 = .ok (.iload 4, 2) := by decide +kernel
theorem dX1_dropWords_29 : decode cX1_dropWords 29 = .ok (.bipush 16, 2) := by decide +kernel
theorem dX1_dropWords_31 : decode cX1_dropWords 31 = .ok (.if_icmp .ge 39, 3) := by decide +kernel
theorem dX1_dropWords_34 : decode cX1_dropWords 34 = .ok (.iload_n 3, 1) := by decide +kernel
theorem dX1_dropWords_35 : decode cX1_dropWords 35 = .ok (.iload 4, 2) := by decide +kernel
theorem dX1_dropWords_37 : decode cX1_dropWords 37 = .ok (.invokestatic 73, 3) := by decide +kernel
theorem dX1_dropWords_40 : decode cX1_dropWords 40 = .ok (.ifCond .eq 24, 3) := by decide +kernel
theorem dX1_dropWords_43 : decode cX1_dropWords 43 = .ok (.aload_n 0, 1) := by decide +kernel
theorem dX1_dropWords_44 : decode cX1_dropWords 44 = .ok (.iload_n 2, 1) := by decide +kernel
theorem dX1_dropWords_45 : decode cX1_dropWords 45 = .ok (.iload 4, 2) := by decide +kernel
theorem dX1_dropWords_47 : decode cX1_dropWords 47 = .ok (.invokevirtual 77, 3) := by decide +kernel
theorem dX1_dropWords_50 : decode cX1_dropWords 50 = .ok (.ifCond .ne 14, 3) := by decide +kernel
theorem dX1_dropWords_53 : decode cX1_dropWords 53 = .ok (.iload_n 3, 1) := by decide +kernel
theorem dX1_dropWords_54 : decode cX1_dropWords 54 = .ok (.iconst 1, 1) := by decide +kernel
theorem dX1_dropWords_55 : decode cX1_dropWords 55 = .ok (.iload 4, 2) := by decide +kernel
theorem dX1_dropWords_57 : decode cX1_dropWords 57 = .ok (.ishl, 1) := by decide +kernel
theorem dX1_dropWords_58 : decode cX1_dropWords 58 = .ok (.iconst (-1), 1) := by decide +kernel
theorem dX1_dropWords_59 : decode cX1_dropWords 59 = .ok (.ixor, 1) := by decide +kernel
theorem dX1_dropWords_60 : decode cX1_dropWords 60 = .ok (.iand, 1) := by decide +kernel
theorem dX1_dropWords_61 : decode cX1_dropWords 61 = .ok (.istore_n 3, 1) := by decide +kernel
theorem dX1_dropWords_62 : decode cX1_dropWords 62 = .ok (.iconst 1, 1) := by decide +kernel
theorem dX1_dropWords_63 : decode cX1_dropWords 63 = .ok (.istore_n 1, 1) := by decide +kernel
theorem dX1_dropWords_64 : decode cX1_dropWords 64 = .ok (.iinc 4 1, 3) := by decide +kernel
theorem dX1_dropWords_67 : decode cX1_dropWords 67 = .ok (.goto (-40), 3) := by decide +kernel
theorem dX1_dropWords_70 : decode cX1_dropWords 70 = .ok (.aload_n 0, 1) := by decide +kernel
theorem dX1_dropWords_71 : decode cX1_dropWords 71 = .ok (.getfield 20, 3) := by decide +kernel
theorem dX1_dropWords_74 : decode cX1_dropWords 74 = .ok (.iload_n 2, 1) := by decide +kernel
theorem dX1_dropWords_75 : decode cX1_dropWords 75 = .ok (.iload_n 3, 1) := by decide +kernel
theorem dX1_dropWords_76 : decode cX1_dropWords 76 = .ok (.invokevirtual 41, 3) := by decide +kernel
theorem dX1_dropWords_79 : decode cX1_dropWords 79 = .ok (.iinc 2 1, 3) := by decide +kernel
theorem dX1_dropWords_82 : decode cX1_dropWords 82 = .ok (.goto (-78), 3) := by decide +kernel
theorem dX1_dropWords_85 : decode cX1_dropWords 85 = .ok (.iload_n 1, 1) := by decide +kernel
theorem dX1_dropWords_86 : decode cX1_dropWords 86 = .ok (.ireturn, 1) := by decide +kernel
theorem dX1_canBeCrossed_0 : decode cX1_canBeCrossed 0 = .ok (.iconst 0, 1) := by decide +kernel
theorem dX1_canBeCrossed_1 : decode cX1_canBeCrossed 1 = .ok (.istore_n 3, 1) := by decide +kernel
theorem dX1_canBeCrossed_2 : decode cX1_canBeCrossed 2 = .ok (.iload_n 3, 1) := by decide +kernel
theorem dX1_canBeCrossed_3 : decode cX1_canBeCrossed 3 = .ok (.aload_n 0, 1) := by decide +kernel
theorem dX1_canBeCrossed_4 : decode cX1_canBeCrossed 4 = .ok (.getfield 23, 3) := by decide +kernel
theorem dX1_canBeCrossed_7 : decode cX1_canBeCrossed 7 = .ok (.getfield 31, 3) := by decide +kernel
theorem dX1_canBeCrossed_10 : decode cX1_canBeCrossed 10 = .ok (.if_icmp .ge 48, 3) := by decide +kernel
theorem dX1_canBeCrossed_13 : decode cX1_canBeCrossed 13 = .ok (.aload_n 0, 1) := by decide +kernel
theorem dX1_canBeCrossed_14 : decode cX1_canBeCrossed 14 = .ok (.getfield 23, 3) := by decide +kernel
theorem dX1_canBeCrossed_17 : decode cX1_canBeCrossed 17 = .ok (.getfield 80, 3) := by decide +kernel
theorem dX1_canBeCrossed_20 : decode cX1_canBeCrossed 20 = .ok (.iload_n 1, 1) := by decide +kernel
theorem dX1_canBeCrossed_21 : decode cX1_canBeCrossed 21 = .ok (.invokevirtual 57, 3) := by decide +kernel
theorem dX1_canBeCrossed_24 : decode cX1_canBeCrossed 24 = .ok (.iload_n 3, 1) := by decide +kernel
theorem dX1_canBeCrossed_25 : decode cX1_canBeCrossed 25 = .ok (.invokestatic 73, 3) := by decide +kernel
theorem dX1_canBeCrossed_28 : decode cX1_canBeCrossed 28 = .ok (.ifCond .eq 24, 3) := by decide +kernel
theorem dX1_canBeCrossed_31 : decode cX1_canBeCrossed 31 = .ok (.aload_n 0, 1) := by decide +kernel
theorem dX1_canBeCrossed_32 : decode cX1_canBeCrossed 32 = .ok (.getfield 20, 3) := by decide +kernel
theorem dX1_canBeCrossed_35 : decode cX1_canBeCrossed 35 = .ok (.iload_n 3, 1) := by decide +kernel
theorem dX1_canBeCrossed_36 : decode cX1_canBeCrossed 36 = .ok (.invokevirtual 57, 3) := by decide +kernel
theorem dX1_canBeCrossed_39 : decode cX1_canBeCrossed 39 = .ok (.aload_n 0, 1) := by decide +kernel
theorem dX1_canBeCrossed_40 : decode cX1_canBeCrossed 40 = .ok (.iload_n 1, 1) := by decide +kernel
theorem dX1_canBeCrossed_41 : decode cX1_canBeCrossed 41 = .ok (.iload_n 2, 1) := by decide +kernel
theorem dX1_canBeCrossed_42 : decode cX1_canBeCrossed 42 = .ok (.iload_n 3, 1) := by decide +kernel
theorem dX1_canBeCrossed_43 : decode cX1_canBeCrossed 43 = .ok (.invokevirtual 83, 3) := by decide +kernel
theorem dX1_canBeCrossed_46 : decode cX1_canBeCrossed 46 = .ok (.iand, 1) := by decide +kernel
theorem dX1_canBeCrossed_47 : decode cX1_canBeCrossed 47 = .ok (.ifCond .ne 5, 3) := by decide +kernel
theorem dX1_canBeCrossed_50 : decode cX1_canBeCrossed 50 = .ok (.iconst 0, 1) := by decide +kernel
theorem dX1_canBeCrossed_51 : decode cX1_canBeCrossed 51 = .ok (.ireturn, 1) := by decide +kernel
theorem dX1_canBeCrossed_52 : decode cX1_canBeCrossed 52 = .ok (.iinc 3 1, 3) := by decide +kernel
theorem dX1_canBeCrossed_55 : decode cX1_canBeCrossed 55 = .ok (.goto (-53), 3) := by decide +kernel
theorem dX1_canBeCrossed_58 : decode cX1_canBeCrossed 58 = .ok (.iconst 1, 1) := by decide +kernel
theorem dX1_canBeCrossed_59 : decode cX1_canBeCrossed 59 = .ok (.ireturn, 1) := by decide +kernel
theorem dX1_besides_0 : decode cX1_besides 0 = .ok (.ldc 87, 2) := by decide +kernel
theorem dX1_besides_2 : decode cX1_besides 2 = .ok (.iconst 1, 1) := by decide +kernel
theorem dX1_besides_3 : decode cX1_besides 3 = .ok (.iload_n 2, 1) := by decide +kernel
theorem dX1_besides_4 : decode cX1_besides 4 = .ok (.ishl, 1) := by decide +kernel
theorem dX1_besides_5 : decode cX1_besides 5 = .ok (.iconst (-1), 1) := by decide +kernel
theorem dX1_besides_6 : decode cX1_besides 6 = .ok (.ixor, 1) := by decide +kernel
theorem dX1_besides_7 : decode cX1_besides 7 = .ok (.iand, 1) := by decide +kernel
theorem dX1_besides_8 : decode cX1_besides 8 = .ok (.istore 4, 2) := by decide +kernel
theorem dX1_besides_10 : decode cX1_besides 10 = .ok (.aload_n 0, 1) := by decide +kernel
theorem dX1_besides_11 : decode cX1_besides 11 = .ok (.getfield 23, 3) := by decide +kernel
theorem dX1_besides_14 : decode cX1_besides 14 = .ok (.getfield 88, 3) := by decide +kernel
theorem dX1_besides_17 : decode cX1_besides 17 = .ok (.iload_n 1, 1) := by decide +kernel
theorem dX1_besides_18 : decode cX1_besides 18 = .ok (.bipush 8, 2) := by decide +kernel
theorem dX1_besides_20 : decode cX1_besides 20 = .ok (.imul, 1) := by decide +kernel
theorem dX1_besides_21 : decode cX1_besides 21 = .ok (.iload_n 3, 1) := by decide +kernel
theorem dX1_besides_22 : decode cX1_besides 22 = .ok (.iadd, 1) := by decide +kernel
theorem dX1_besides_23 : decode cX1_besides 23 = .ok (.invokevirtual 57, 3) := by decide +kernel
theorem dX1_besides_26 : decode cX1_besides 26 = .ok (.istore 5, 2) := by decide +kernel
theorem dX1_besides_28 : decode cX1_besides 28 = .ok (.iload 5, 2) := by decide +kernel
theorem dX1_besides_30 : decode cX1_besides 30 = .ok (.iconst (-1), 1) := by decide +kernel
theorem dX1_besides_31 : decode cX1_besides 31 = .ok (.if_icmp .ne 6, 3) := by decide +kernel
theorem dX1_besides_34 : decode cX1_besides 34 = .ok (.iload 4, 2) := by decide +kernel
theorem dX1_besides_36 : decode cX1_besides 36 = .ok (.ireturn, 1) := by decide +kernel
theorem dX1_besides_37 : decode cX1_besides 37 = .ok (.aload_n 0, 1) := by decide +kernel
theorem dX1_besides_38 : decode cX1_besides 38 = .ok (.getfield 23, 3) := by decide +kernel
theorem dX1_besides_41 : decode cX1_besides 41 = .ok (.getfield 88, 3) := by decide +kernel
theorem dX1_besides_44 : decode cX1_besides 44 = .ok (.iload_n 3, 1) := by decide +kernel
theorem dX1_besides_45 : decode cX1_besides 45 = .ok (.bipush 8, 2) := by decide +kernel
theorem dX1_besides_47 : decode cX1_besides 47 = .ok (.imul, 1) := by decide +kernel
theorem dX1_besides_48 : decode cX1_besides 48 = .ok (.iload_n 1, 1) := by decide +kernel
theorem dX1_besides_49 : decode cX1_besides 49 = .ok (.iadd, 1) := by decide +kernel
theorem dX1_besides_50 : decode cX1_besides 50 = .ok (.invokevirtual 57, 3) := by decide +kernel
theorem dX1_besides_53 : decode cX1_besides 53 = .ok (.istore 6, 2) := by decide +kernel
theorem dX1_besides_55 : decode cX1_besides 55 = .ok (.aload_n 0, 1) := by decide +kernel
theorem dX1_besides_56 : decode cX1_besides 56 = .ok (.getfield 27, 3) := by decide +kernel
theorem dX1_besides_59 : decode cX1_besides 59 = .ok (.getfield 91, 3) := by decide +kernel
theorem dX1_besides_62 : decode cX1_besides 62 = .ok (.iload_n 2, 1) := by decide +kernel
theorem dX1_besides_63 : decode cX1_besides 63 = .ok (.iconst 4, 1) := by decide +kernel
theorem dX1_besides_64 : decode cX1_besides 64 = .ok (.imul, 1) := by decide +kernel
theorem dX1_besides_65 : decode cX1_besides 65 = .ok (.iload 5, 2) := by decide +kernel
theorem dX1_besides_67 : decode cX1_besides 67 = .ok (.iadd, 1) := by decide +kernel
theorem dX1_besides_68 : decode cX1_besides 68 = .ok (.invokevirtual 57, 3) := by decide +kernel
theorem dX1_besides_71 : decode cX1_besides 71 = .ok (.istore 7, 2) := by decide +kernel
theorem dX1_besides_73 : decode cX1_besides 73 = .ok (.iload 4, 2) := by decide +kernel
theorem dX1_besides_75 : decode cX1_besides 75 = .ok (.aload_n 0, 1) := by decide +kernel
theorem dX1_besides_76 : decode cX1_besides 76 = .ok (.getfield 27, 3) := by decide +kernel
theorem dX1_besides_79 : decode cX1_besides 79 = .ok (.getfield 94, 3) := by decide +kernel
theorem dX1_besides_82 : decode cX1_besides 82 = .ok (.iload 6, 2) := by decide +kernel
theorem dX1_besides_84 : decode cX1_besides 84 = .ok (.bipush 6, 2) := by decide +kernel
theorem dX1_besides_86 : decode cX1_besides 86 = .ok (.imul, 1) := by decide +kernel
theorem dX1_besides_87 : decode cX1_besides 87 = .ok (.iload 7, 2) := by decide +kernel
theorem dX1_besides_89 : decode cX1_besides 89 = .ok (.iadd, 1) := by decide +kernel
theorem dX1_besides_90 : decode cX1_besides 90 = .ok (.invokevirtual 57, 3) := by decide +kernel
theorem dX1_besides_93 : decode cX1_besides 93 = .ok (.iand, 1) := by decide +kernel
theorem dX1_besides_94 : decode cX1_besides 94 = .ok (.ireturn, 1) := by decide +kernel
theorem dX1_slotsWith_0 : decode cX1_slotsWith 0 = .ok (.iconst 0, 1) := by decide +kernel
theorem dX1_slotsWith_1 : decode cX1_slotsWith 1 = .ok (.istore_n 3, 1) := by decide +kernel
theorem dX1_slotsWith_2 : decode cX1_slotsWith 2 = .ok (.iconst 0, 1) := by decide +kernel
theorem dX1_slotsWith_3 : decode cX1_slotsWith 3 = .ok (.istore 4, 2) := by decide +kernel
theorem dX1_slotsWith_5 : decode cX1_slotsWith 5 = .ok (.iload 4, 2) := by decide +kernel
theorem dX1_slotsWith_7 : decode cX1_slotsWith 7 = .ok (.aload_n 0, 1) := by decide +kernel
theorem dX1_slotsWith_8 : decode cX1_slotsWith 8 = .ok (.getfield 23, 3) := by decide +kernel
theorem dX1_slotsWith_11 : decode cX1_slotsWith 11 = .ok (.getfield 31, 3) := by decide +kernel
theorem dX1_slotsWith_14 : decode cX1_slotsWith 14 = .ok (.if_icmp .ge 29, 3) := by decide +kernel
theorem dX1_slotsWith_17 : decode cX1_slotsWith 17 = .ok (.aload_n 2, 1) := by decide +kernel
theorem dX1_slotsWith_18 : decode cX1_slotsWith 18 = .ok (.iload 4, 2) := by decide +kernel
theorem dX1_slotsWith_20 : decode cX1_slotsWith 20 = .ok (.invokevirtual 57, 3) := by decide +kernel
theorem dX1_slotsWith_23 : decode cX1_slotsWith 23 = .ok (.iload_n 1, 1) := by decide +kernel
theorem dX1_slotsWith_24 : decode cX1_slotsWith 24 = .ok (.invokestatic 73, 3) := by decide +kernel
theorem dX1_slotsWith_27 : decode cX1_slotsWith 27 = .ok (.ifCond .eq 10, 3) := by decide +kernel
theorem dX1_slotsWith_30 : decode cX1_slotsWith 30 = .ok (.iload_n 3, 1) := by decide +kernel
theorem dX1_slotsWith_31 : decode cX1_slotsWith 31 = .ok (.iconst 1, 1) := by decide +kernel
theorem dX1_slotsWith_32 : decode cX1_slotsWith 32 = .ok (.iload 4, 2) := by decide +kernel
theorem dX1_slotsWith_34 : decode cX1_slotsWith 34 = .ok (.ishl, 1) := by decide +kernel
theorem dX1_slotsWith_35 : decode cX1_slotsWith 35 = .ok (.ior, 1) := by decide +kernel
theorem dX1_slotsWith_36 : decode cX1_slotsWith 36 = .ok (.istore_n 3, 1) := by decide +kernel
theorem dX1_slotsWith_37 : decode cX1_slotsWith 37 = .ok (.iinc 4 1, 3) := by decide +kernel
theorem dX1_slotsWith_40 : decode cX1_slotsWith 40 = .ok (.goto (-35), 3) := by decide +kernel
theorem dX1_slotsWith_43 : decode cX1_slotsWith 43 = .ok (.iload_n 3, 1) := by decide +kernel
theorem dX1_slotsWith_44 : decode cX1_slotsWith 44 = .ok (.ireturn, 1) := by decide +kernel
theorem dX2_init_0 : decode cX2_init 0 = .ok (.aload_n 0, 1) := by decide +kernel
theorem dX2_init_1 : decode cX2_init 1 = .ok (.invokespecial 3, 3) := by decide +kernel
theorem dX2_init_4 : decode cX2_init 4 = .ok (.aload_n 0, 1) := by decide +kernel
theorem dX2_init_5 : decode cX2_init 5 = .ok (.new 9, 3) := by decide +kernel
theorem dX2_init_8 : decode cX2_init 8 = .ok (.dup, 1) := by decide +kernel
theorem dX2_init_9 : decode cX2_init 9 = .ok (.bipush 8, 2) := by decide +kernel
theorem dX2_init_11 : decode cX2_init 11 = .ok (.invokespecial 11, 3) := by decide +kernel
theorem dX2_init_14 : decode cX2_init 14 = .ok (.putfield 14, 3) := by decide +kernel
theorem dX2_init_17 : decode cX2_init 17 = .ok (.aload_n 0, 1) := by decide +kernel
theorem dX2_init_18 : decode cX2_init 18 = .ok (.new 9, 3) := by decide +kernel
theorem dX2_init_21 : decode cX2_init 21 = .ok (.dup, 1) := by decide +kernel
theorem dX2_init_22 : decode cX2_init 22 = .ok (.bipush 64, 2) := by decide +kernel
theorem dX2_init_24 : decode cX2_init 24 = .ok (.invokespecial 11, 3) := by decide +kernel
theorem dX2_init_27 : decode cX2_init 27 = .ok (.putfield 20, 3) := by decide +kernel
theorem dX2_init_30 : decode cX2_init 30 = .ok (.aload_n 0, 1) := by decide +kernel
theorem dX2_init_31 : decode cX2_init 31 = .ok (.new 9, 3) := by decide +kernel
theorem dX2_init_34 : decode cX2_init 34 = .ok (.dup, 1) := by decide +kernel
theorem dX2_init_35 : decode cX2_init 35 = .ok (.bipush 8, 2) := by decide +kernel
theorem dX2_init_37 : decode cX2_init 37 = .ok (.invokespecial 11, 3) := by decide +kernel
theorem dX2_init_40 : decode cX2_init 40 = .ok (.putfield 23, 3) := by decide +kernel
theorem dX2_init_43 : decode cX2_init 43 = .ok (.aload_n 0, 1) := by decide +kernel
theorem dX2_init_44 : decode cX2_init 44 = .ok (.aload_n 1, 1) := by decide +kernel
theorem dX2_init_45 : decode cX2_init 45 = .ok (.putfield 26, 3) := by decide +kernel
theorem dX2_init_48 : decode cX2_init 48 = .ok (.aload_n 0, 1) := by decide +kernel
theorem dX2_init_49 : decode cX2_init 49 = .ok (.aload_n 2, 1) := by decide +kernel
theorem dX2_init_50 : decode cX2_init 50 = .ok (.putfield 30, 3) := by decide +kernel
theorem dX2_init_53 : decode cX2_init 53 = .ok (.return_, 1) := by decide +kernel
theorem dX2_fillings_0 : decode cX2_fillings 0 = .ok (.aload_n 0, 1) := by decide +kernel
theorem dX2_fillings_1 : decode cX2_fillings 1 = .ok (.iconst 1, 1) := by decide +kernel
theorem dX2_fillings_2 : decode cX2_fillings 2 = .ok (.aload_n 0, 1) := by decide +kernel
theorem dX2_fillings_3 : decode cX2_fillings 3 = .ok (.getfield 26, 3) := by decide +kernel
theorem dX2_fillings_6 : decode cX2_fillings 6 = .ok (.getfield 34, 3) := by decide +kernel
theorem dX2_fillings_9 : decode cX2_fillings 9 = .ok (.ishl, 1) := by decide +kernel
theorem dX2_fillings_10 : decode cX2_fillings 10 = .ok (.iconst 1, 1) := by decide +kernel
theorem dX2_fillings_11 : decode cX2_fillings 11 = .ok (.isub, 1) := by decide +kernel
theorem dX2_fillings_12 : decode cX2_fillings 12 = .ok (.aload_n 0, 1) := by decide +kernel
theorem dX2_fillings_13 : decode cX2_fillings 13 = .ok (.getfield 30, 3) := by decide +kernel
theorem dX2_fillings_16 : decode cX2_fillings 16 = .ok (.getfield 40, 3) := by decide +kernel
theorem dX2_fillings_19 : decode cX2_fillings 19 = .ok (.invokevirtual 45, 3) := by decide +kernel
theorem dX2_fillings_22 : decode cX2_fillings 22 = .ok (.aload_n 0, 1) := by decide +kernel
theorem dX2_fillings_23 : decode cX2_fillings 23 = .ok (.iconst 0, 1) := by decide +kernel
theorem dX2_fillings_24 : decode cX2_fillings 24 = .ok (.iload_n 1, 1) := by decide +kernel
theorem dX2_fillings_25 : decode cX2_fillings 25 = .ok (.invokestatic 49, 3) := by decide +kernel
theorem dX2_fillings_28 : decode cX2_fillings 28 = .ok (.ireturn, 1) := by decide +kernel
theorem dX2_fillingsWith_0 : decode cX2_fillingsWith 0 = .ok (.aload_n 0, 1) := by decide +kernel
theorem dX2_fillingsWith_1 : decode cX2_fillingsWith 1 = .ok (.iconst 1, 1) := by decide +kernel
theorem dX2_fillingsWith_2 : decode cX2_fillingsWith 2 = .ok (.aload_n 0, 1) := by decide +kernel
theorem dX2_fillingsWith_3 : decode cX2_fillingsWith 3 = .ok (.getfield 26, 3) := by decide +kernel
theorem dX2_fillingsWith_6 : decode cX2_fillingsWith 6 = .ok (.getfield 34, 3) := by decide +kernel
theorem dX2_fillingsWith_9 : decode cX2_fillingsWith 9 = .ok (.ishl, 1) := by decide +kernel
theorem dX2_fillingsWith_10 : decode cX2_fillingsWith 10 = .ok (.iconst 1, 1) := by decide +kernel
theorem dX2_fillingsWith_11 : decode cX2_fillingsWith 11 = .ok (.isub, 1) := by decide +kernel
theorem dX2_fillingsWith_12 : decode cX2_fillingsWith 12 = .ok (.aload_n 0, 1) := by decide +kernel
theorem dX2_fillingsWith_13 : decode cX2_fillingsWith 13 = .ok (.getfield 30, 3) := by decide +kernel
theorem dX2_fillingsWith_16 : decode cX2_fillingsWith 16 = .ok (.getfield 40, 3) := by decide +kernel
theorem dX2_fillingsWith_19 : decode cX2_fillingsWith 19 = .ok (.invokevirtual 45, 3) := by decide +kernel
theorem dX2_fillingsWith_22 : decode cX2_fillingsWith 22 = .ok (.aload_n 0, 1) := by decide +kernel
theorem dX2_fillingsWith_23 : decode cX2_fillingsWith 23 = .ok (.getfield 20, 3) := by decide +kernel
theorem dX2_fillingsWith_26 : decode cX2_fillingsWith 26 = .ok (.iload_n 1, 1) := by decide +kernel
theorem dX2_fillingsWith_27 : decode cX2_fillingsWith 27 = .ok (.aload_n 0, 1) := by decide +kernel
theorem dX2_fillingsWith_28 : decode cX2_fillingsWith 28 = .ok (.getfield 20, 3) := by decide +kernel
theorem dX2_fillingsWith_31 : decode cX2_fillingsWith 31 = .ok (.iload_n 1, 1) := by decide +kernel
theorem dX2_fillingsWith_32 : decode cX2_fillingsWith 32 = .ok (.invokevirtual 53, 3) := by decide +kernel
theorem dX2_fillingsWith_35 : decode cX2_fillingsWith 35 = .ok (.iconst 1, 1) := by decide +kernel
theorem dX2_fillingsWith_36 : decode cX2_fillingsWith 36 = .ok (.iload_n 2, 1) := by decide +kernel
theorem dX2_fillingsWith_37 : decode cX2_fillingsWith 37 = .ok (.ishl, 1) := by decide +kernel
theorem dX2_fillingsWith_38 : decode cX2_fillingsWith 38 = .ok (.iand, 1) := by decide +kernel
theorem dX2_fillingsWith_39 : decode cX2_fillingsWith 39 = .ok (.invokevirtual 57, 3) := by decide +kernel
theorem dX2_fillingsWith_42 : decode cX2_fillingsWith 42 = .ok (.aload_n 0, 1) := by decide +kernel
theorem dX2_fillingsWith_43 : decode cX2_fillingsWith 43 = .ok (.iconst 0, 1) := by decide +kernel
theorem dX2_fillingsWith_44 : decode cX2_fillingsWith 44 = .ok (.iload_n 3, 1) := by decide +kernel
theorem dX2_fillingsWith_45 : decode cX2_fillingsWith 45 = .ok (.invokestatic 49, 3) := by decide +kernel
theorem dX2_fillingsWith_48 : decode cX2_fillingsWith 48 = .ok (.ireturn, 1) := by decide +kernel
theorem dX2_canFill_0 : decode cX2_canFill 0 = .ok (.aload_n 0, 1) := by decide +kernel
theorem dX2_canFill_1 : decode cX2_canFill 1 = .ok (.iload_n 1, 1) := by decide +kernel
theorem dX2_canFill_2 : decode cX2_canFill 2 = .ok (.aload_n 0, 1) := by decide +kernel
theorem dX2_canFill_3 : decode cX2_canFill 3 = .ok (.getfield 30, 3) := by decide +kernel
theorem dX2_canFill_6 : decode cX2_canFill 6 = .ok (.getfield 61, 3) := by decide +kernel
theorem dX2_canFill_9 : decode cX2_canFill 9 = .ok (.invokevirtual 45, 3) := by decide +kernel
theorem dX2_canFill_12 : decode cX2_canFill 12 = .ok (.aload_n 0, 1) := by decide +kernel
theorem dX2_canFill_13 : decode cX2_canFill 13 = .ok (.iconst 0, 1) := by decide +kernel
theorem dX2_canFill_14 : decode cX2_canFill 14 = .ok (.iconst 1, 1) := by decide +kernel
theorem dX2_canFill_15 : decode cX2_canFill 15 = .ok (.invokestatic 49, 3) := by decide +kernel
theorem dX2_canFill_18 : decode cX2_canFill 18 = .ok (.ifCond .le 7, 3) := by decide +kernel
theorem dX2_canFill_21 : decode cX2_canFill 21 = .ok (.iconst 1, 1) := by decide +kernel
theorem dX2_canFill_22 : decode cX2_canFill 22 = .ok (.goto 4, 3) := by decide +kernel
theorem dX2_canFill_25 : decode cX2_canFill 25 = .ok (.iconst 0, 1) := by decide +kernel
theorem dX2_canFill_26 : decode cX2_canFill 26 = .ok (.ireturn, 1) := by decide +kernel
theorem dX2_begin_0 : decode cX2_begin 0 = .ok (.aload_n 0, 1) := by decide +kernel
theorem dX2_begin_1 : decode cX2_begin 1 = .ok (.iconst 0, 1) := by decide +kernel
theorem dX2_begin_2 : decode cX2_begin 2 = .ok (.putfield 64, 3) := by decide +kernel
theorem dX2_begin_5 : decode cX2_begin 5 = .ok (.iconst 0, 1) := by decide +kernel
theorem dX2_begin_6 : decode cX2_begin 6 = .ok (.istore_n 3, 1) := by decide +kernel
theorem dX2_begin_7 : decode cX2_begin 7 = .ok (.iload_n 3, 1) := by decide +kernel
theorem dX2_begin_8 : decode cX2_begin 8 = .ok (.aload_n 0, 1) := by decide +kernel
theorem dX2_begin_9 : decode cX2_begin 9 = .ok (.getfield 26, 3) := by decide +kernel
theorem dX2_begin_12 : decode cX2_begin 12 = .ok (.getfield 34, 3) := by decide +kernel
theorem dX2_begin_15 : decode cX2_begin 15 = .ok (.if_icmp .ge 55, 3) := by decide +kernel
theorem dX2_begin_18 : decode cX2_begin 18 = .ok (.iload_n 1, 1) := by decide +kernel
theorem dX2_begin_19 : decode cX2_begin 19 = .ok (.iload_n 3, 1) := by decide +kernel
theorem dX2_begin_20 : decode cX2_begin 20 = .ok (.invokestatic 67, 3) := by decide +kernel
theorem dX2_begin_23 : decode cX2_begin 23 = .ok (.ifCond .eq 41, 3) := by decide +kernel
theorem dX2_begin_26 : decode cX2_begin 26 = .ok (.aload_n 0, 1) := by decide +kernel
theorem dX2_begin_27 : decode cX2_begin 27 = .ok (.getfield 14, 3) := by decide +kernel
theorem dX2_begin_30 : decode cX2_begin 30 = .ok (.aload_n 0, 1) := by decide +kernel
theorem dX2_begin_31 : decode cX2_begin 31 = .ok (.getfield 64, 3) := by decide +kernel
theorem dX2_begin_34 : decode cX2_begin 34 = .ok (.iload_n 3, 1) := by decide +kernel
theorem dX2_begin_35 : decode cX2_begin 35 = .ok (.invokevirtual 57, 3) := by decide +kernel
theorem dX2_begin_38 : decode cX2_begin 38 = .ok (.aload_n 0, 1) := by decide +kernel
theorem dX2_begin_39 : decode cX2_begin 39 = .ok (.getfield 20, 3) := by decide +kernel
theorem dX2_begin_42 : decode cX2_begin 42 = .ok (.aload_n 0, 1) := by decide +kernel
theorem dX2_begin_43 : decode cX2_begin 43 = .ok (.getfield 64, 3) := by decide +kernel
theorem dX2_begin_46 : decode cX2_begin 46 = .ok (.aload_n 2, 1) := by decide +kernel
theorem dX2_begin_47 : decode cX2_begin 47 = .ok (.iload_n 3, 1) := by decide +kernel
theorem dX2_begin_48 : decode cX2_begin 48 = .ok (.invokevirtual 53, 3) := by decide +kernel
theorem dX2_begin_51 : decode cX2_begin 51 = .ok (.invokevirtual 57, 3) := by decide +kernel
theorem dX2_begin_54 : decode cX2_begin 54 = .ok (.aload_n 0, 1) := by decide +kernel
theorem dX2_begin_55 : decode cX2_begin 55 = .ok (.dup, 1) := by decide +kernel
theorem dX2_begin_56 : decode cX2_begin 56 = .ok (.getfield 64, 3) := by decide +kernel
theorem dX2_begin_59 : decode cX2_begin 59 = .ok (.iconst 1, 1) := by decide +kernel
theorem dX2_begin_60 : decode cX2_begin 60 = .ok (.iadd, 1) := by decide +kernel
theorem dX2_begin_61 : decode cX2_begin 61 = .ok (.putfield 64, 3) := by decide +kernel
theorem dX2_begin_64 : decode cX2_begin 64 = .ok (.iinc 3 1, 3) := by decide +kernel
theorem dX2_begin_67 : decode cX2_begin 67 = .ok (.goto (-60), 3) := by decide +kernel
theorem dX2_begin_70 : decode cX2_begin 70 = .ok (.return_, 1) := by decide +kernel
theorem dX2_ways_0 : decode cX2_ways 0 = .ok (.iload_n 1, 1) := by decide +kernel
theorem dX2_ways_1 : decode cX2_ways 1 = .ok (.aload_n 0, 1) := by decide +kernel
theorem dX2_ways_2 : decode cX2_ways 2 = .ok (.getfield 64, 3) := by decide +kernel
theorem dX2_ways_5 : decode cX2_ways 5 = .ok (.if_icmp .ge 9, 3) := by decide +kernel
theorem dX2_ways_8 : decode cX2_ways 8 = .ok (.iload_n 1, 1) := by decide +kernel
theorem dX2_ways_9 : decode cX2_ways 9 = .ok (.bipush 8, 2) := by decide +kernel
theorem dX2_ways_11 : decode cX2_ways 11 = .ok (.if_icmp .lt 5, 3) := by decide +kernel
theorem dX2_ways_14 : decode cX2_ways 14 = .ok (.iconst 1, 1) := by decide +kernel
theorem dX2_ways_15 : decode cX2_ways 15 = .ok (.ireturn, 1) := by decide +kernel
theorem dX2_ways_16 : decode cX2_ways 16 = .ok (.aload_n 0, 1) := by decide +kernel
theorem dX2_ways_17 : decode cX2_ways 17 = .ok (.getfield 20, 3) := by decide +kernel
theorem dX2_ways_20 : decode cX2_ways 20 = .ok (.iload_n 1, 1) := by decide +kernel
theorem dX2_ways_21 : decode cX2_ways 21 = .ok (.bipush 8, 2) := by decide +kernel
theorem dX2_ways_23 : decode cX2_ways 23 = .ok (.imul, 1) := by decide +kernel
theorem dX2_ways_24 : decode cX2_ways 24 = .ok (.iload_n 1, 1) := by decide +kernel
theorem dX2_ways_25 : decode cX2_ways 25 = .ok (.iadd, 1) := by decide +kernel
theorem dX2_ways_26 : decode cX2_ways 26 = .ok (.invokevirtual 53, 3) := by decide +kernel
theorem dX2_ways_29 : decode cX2_ways 29 = .ok (.istore_n 3, 1) := by decide +kernel
theorem dX2_ways_30 : decode cX2_ways 30 = .ok (.iconst 0, 1) := by decide +kernel
theorem dX2_ways_31 : decode cX2_ways 31 = .ok (.istore 4, 2) := by decide +kernel
theorem dX2_ways_33 : decode cX2_ways 33 = .ok (.iconst 0, 1) := by decide +kernel
theorem dX2_ways_34 : decode cX2_ways 34 = .ok (.istore 5, 2) := by decide +kernel
theorem dX2_ways_36 : decode cX2_ways 36 = .ok (.iload 5, 2) := by decide +kernel
theorem dX2_ways_38 : decode cX2_ways 38 = .ok (.bipush 16, 2) := by decide +kernel
theorem dX2_ways_40 : decode cX2_ways 40 = .ok (.if_icmp .ge 50, 3) := by decide +kernel
theorem dX2_ways_43 : decode cX2_ways 43 = .ok (.iload 4, 2) := by decide +kernel
theorem dX2_ways_45 : decode cX2_ways 45 = .ok (.iload_n 2, 1) := by decide +kernel
theorem dX2_ways_46 : decode cX2_ways 46 = .ok (.if_icmp .ge 44, 3) := by decide +kernel
theorem dX2_ways_49 : decode cX2_ways 49 = .ok (.iload_n 3, 1) := by decide +kernel
theorem dX2_ways_50 : decode cX2_ways 50 = .ok (.iload 5, 2) := by decide +kernel
theorem dX2_ways_52 : decode cX2_ways 52 = .ok (.invokestatic 67, 3) := by decide +kernel
theorem dX2_ways_55 : decode cX2_ways 55 = .ok (.ifCond .eq 29, 3) := by decide +kernel
theorem dX2_ways_58 : decode cX2_ways 58 = .ok (.aload_n 0, 1) := by decide +kernel
theorem dX2_ways_59 : decode cX2_ways 59 = .ok (.iload_n 1, 1) := by decide +kernel
theorem dX2_ways_60 : decode cX2_ways 60 = .ok (.iload 5, 2) := by decide +kernel
theorem dX2_ways_62 : decode cX2_ways 62 = .ok (.invokevirtual 71, 3) := by decide +kernel
theorem dX2_ways_65 : decode cX2_ways 65 = .ok (.ifCond .eq 19, 3) := by decide +kernel
theorem dX2_ways_68 : decode cX2_ways 68 = .ok (.iload 4, 2) := by decide +kernel
theorem dX2_ways_70 : decode cX2_ways 70 = .ok (.aload_n 0, 1) := by decide +kernel
theorem dX2_ways_71 : decode cX2_ways 71 = .ok (.iload_n 1, 1) := by decide +kernel
theorem dX2_ways_72 : decode cX2_ways 72 = .ok (.iconst 1, 1) := by decide +kernel
theorem dX2_ways_73 : decode cX2_ways 73 = .ok (.iadd, 1) := by decide +kernel
theorem dX2_ways_74 : decode cX2_ways 74 = .ok (.iload_n 2, 1) := by decide +kernel
theorem dX2_ways_75 : decode cX2_ways 75 = .ok (.iload 4, 2) := by decide +kernel
theorem dX2_ways_77 : decode cX2_ways 77 = .ok (.isub, 1) := by decide +kernel
theorem dX2_ways_78 : decode cX2_ways 78 = .ok (.invokestatic 49, 3) := by decide +kernel
theorem dX2_ways_81 : decode cX2_ways 81 = .ok (.iadd, 1) := by decide +kernel
theorem dX2_ways_82 : decode cX2_ways 82 = .ok (.istore 4, 2) := by decide +kernel
theorem dX2_ways_84 : decode cX2_ways 84 = .ok (.iinc 5 1, 3) := by decide +kernel
theorem dX2_ways_87 : decode cX2_ways 87 = .ok (.goto (-51), 3) := by decide +kernel
theorem dX2_ways_90 : decode cX2_ways 90 = .ok (.iload 4, 2) := by decide +kernel
theorem dX2_ways_92 : decode cX2_ways 92 = .ok (.ireturn, 1) := by decide +kernel
theorem dX2_choose_0 : decode cX2_choose 0 = .ok (.aload_n 0, 1) := by decide +kernel
theorem dX2_choose_1 : decode cX2_choose 1 = .ok (.getfield 14, 3) := by decide +kernel
theorem dX2_choose_4 : decode cX2_choose 4 = .ok (.iload_n 1, 1) := by decide +kernel
theorem dX2_choose_5 : decode cX2_choose 5 = .ok (.invokevirtual 53, 3) := by decide +kernel
theorem dX2_choose_8 : decode cX2_choose 8 = .ok (.istore_n 3, 1) := by decide +kernel
theorem dX2_choose_9 : decode cX2_choose 9 = .ok (.aload_n 0, 1) := by decide +kernel
theorem dX2_choose_10 : decode cX2_choose 10 = .ok (.getfield 23, 3) := by decide +kernel
theorem dX2_choose_13 : decode cX2_choose 13 = .ok (.iload_n 1, 1) := by decide +kernel
theorem dX2_choose_14 : decode cX2_choose 14 = .ok (.iload_n 2, 1) := by decide +kernel
theorem dX2_choose_15 : decode cX2_choose 15 = .ok (.invokevirtual 57, 3) := by decide +kernel
theorem dX2_choose_18 : decode cX2_choose 18 = .ok (.iload_n 1, 1) := by decide +kernel
theorem dX2_choose_19 : decode cX2_choose 19 = .ok (.iconst 1, 1) := by decide +kernel
theorem dX2_choose_20 : decode cX2_choose 20 = .ok (.iadd, 1) := by decide +kernel
theorem dX2_choose_21 : decode cX2_choose 21 = .ok (.istore 4, 2) := by decide +kernel
theorem dX2_choose_23 : decode cX2_choose 23 = .ok (.iload 4, 2) := by decide +kernel
theorem dX2_choose_25 : decode cX2_choose 25 = .ok (.aload_n 0, 1) := by decide +kernel
theorem dX2_choose_26 : decode cX2_choose 26 = .ok (.getfield 64, 3) := by decide +kernel
theorem dX2_choose_29 : decode cX2_choose 29 = .ok (.if_icmp .ge 69, 3) := by decide +kernel
theorem dX2_choose_32 : decode cX2_choose 32 = .ok (.aload_n 0, 1) := by decide +kernel
theorem dX2_choose_33 : decode cX2_choose 33 = .ok (.getfield 20, 3) := by decide +kernel
theorem dX2_choose_36 : decode cX2_choose 36 = .ok (.iload_n 1, 1) := by decide +kernel
theorem dX2_choose_37 : decode cX2_choose 37 = .ok (.bipush 8, 2) := by decide +kernel
theorem dX2_choose_39 : decode cX2_choose 39 = .ok (.imul, 1) := by decide +kernel
theorem dX2_choose_40 : decode cX2_choose 40 = .ok (.iload 4, 2) := by decide +kernel
theorem dX2_choose_42 : decode cX2_choose 42 = .ok (.iadd, 1) := by decide +kernel
theorem dX2_choose_43 : decode cX2_choose 43 = .ok (.invokevirtual 53, 3) := by decide +kernel
theorem dX2_choose_46 : decode cX2_choose 46 = .ok (.aload_n 0, 1) := by decide +kernel
theorem dX2_choose_47 : decode cX2_choose 47 = .ok (.getfield 30, 3) := by decide +kernel
theorem dX2_choose_50 : decode cX2_choose 50 = .ok (.iload_n 3, 1) := by decide +kernel
theorem dX2_choose_51 : decode cX2_choose 51 = .ok (.iload_n 2, 1) := by decide +kernel
theorem dX2_choose_52 : decode cX2_choose 52 = .ok (.aload_n 0, 1) := by decide +kernel
theorem dX2_choose_53 : decode cX2_choose 53 = .ok (.getfield 14, 3) := by decide +kernel
theorem dX2_choose_56 : decode cX2_choose 56 = .ok (.iload 4, 2) := by decide +kernel
theorem dX2_choose_58 : decode cX2_choose 58 = .ok (.invokevirtual 53, 3) := by decide +kernel
theorem dX2_choose_61 : decode cX2_choose 61 = .ok (.invokevirtual 74, 3) := by decide +kernel
theorem dX2_choose_64 : decode cX2_choose 64 = .ok (.iand, 1) := by decide +kernel
theorem dX2_choose_65 : decode cX2_choose 65 = .ok (.istore 5, 2) := by decide +kernel
theorem dX2_choose_67 : decode cX2_choose 67 = .ok (.iload 5, 2) := by decide +kernel
theorem dX2_choose_69 : decode cX2_choose 69 = .ok (.ifCond .ne 5, 3) := by decide +kernel
theorem dX2_choose_72 : decode cX2_choose 72 = .ok (.iconst 0, 1) := by decide +kernel
theorem dX2_choose_73 : decode cX2_choose 73 = .ok (.ireturn, 1) := by decide +kernel
theorem dX2_choose_74 : decode cX2_choose 74 = .ok (.aload_n 0, 1) := by decide +kernel
theorem dX2_choose_75 : decode cX2_choose 75 = .ok (.getfield 20, 3) := by decide +kernel
theorem dX2_choose_78 : decode cX2_choose 78 = .ok (.iload_n 1, 1) := by decide +kernel
theorem dX2_choose_79 : decode cX2_choose 79 = .ok (.iconst 1, 1) := by decide +kernel
theorem dX2_choose_80 : decode cX2_choose 80 = .ok (.iadd, 1) := by decide +kernel
theorem dX2_choose_81 : decode cX2_choose 81 = .ok (.bipush 8, 2) := by decide +kernel
theorem dX2_choose_83 : decode cX2_choose 83 = .ok (.imul, 1) := by decide +kernel
theorem dX2_choose_84 : decode cX2_choose 84 = .ok (.iload 4, 2) := by decide +kernel
theorem dX2_choose_86 : decode cX2_choose 86 = .ok (.iadd, 1) := by decide +kernel
theorem dX2_choose_87 : decode cX2_choose 87 = .ok (.iload 5, 2) := by decide +kernel
theorem dX2_choose_89 : decode cX2_choose 89 = .ok (.invokevirtual 57, 3) := by decide +kernel
theorem dX2_choose_92 : decode cX2_choose 92 = .ok (.iinc 4 1, 3) := by decide +kernel
theorem dX2_choose_95 : decode cX2_choose 95 = .ok (.goto (-72), 3) := by decide +kernel
theorem dX2_choose_98 : decode cX2_choose 98 = .ok (.iconst 1, 1) := by decide +kernel
theorem dX2_choose_99 : decode cX2_choose 99 = .ok (.ireturn, 1) := by decide +kernel
theorem dX3_init_0 : decode cX3_init 0 = .ok (.aload_n 0, 1) := by decide +kernel
theorem dX3_init_1 : decode cX3_init 1 = .ok (.invokespecial 3, 3) := by decide +kernel
theorem dX3_init_4 : decode cX3_init 4 = .ok (.aload_n 0, 1) := by decide +kernel
theorem dX3_init_5 : decode cX3_init 5 = .ok (.new 9, 3) := by decide +kernel
theorem dX3_init_8 : decode cX3_init 8 = .ok (.dup, 1) := by decide +kernel
theorem dX3_init_9 : decode cX3_init 9 = .ok (.iconst 5, 1) := by decide +kernel
theorem dX3_init_10 : decode cX3_init 10 = .ok (.invokespecial 11, 3) := by decide +kernel
theorem dX3_init_13 : decode cX3_init 13 = .ok (.putfield 14, 3) := by decide +kernel
theorem dX3_init_16 : decode cX3_init 16 = .ok (.aload_n 0, 1) := by decide +kernel
theorem dX3_init_17 : decode cX3_init 17 = .ok (.new 9, 3) := by decide +kernel
theorem dX3_init_20 : decode cX3_init 20 = .ok (.dup, 1) := by decide +kernel
theorem dX3_init_21 : decode cX3_init 21 = .ok (.bipush 24, 2) := by decide +kernel
theorem dX3_init_23 : decode cX3_init 23 = .ok (.invokespecial 11, 3) := by decide +kernel
theorem dX3_init_26 : decode cX3_init 26 = .ok (.putfield 20, 3) := by decide +kernel
theorem dX3_init_29 : decode cX3_init 29 = .ok (.aload_n 0, 1) := by decide +kernel
theorem dX3_init_30 : decode cX3_init 30 = .ok (.new 9, 3) := by decide +kernel
theorem dX3_init_33 : decode cX3_init 33 = .ok (.dup, 1) := by decide +kernel
theorem dX3_init_34 : decode cX3_init 34 = .ok (.bipush 64, 2) := by decide +kernel
theorem dX3_init_36 : decode cX3_init 36 = .ok (.invokespecial 11, 3) := by decide +kernel
theorem dX3_init_39 : decode cX3_init 39 = .ok (.putfield 23, 3) := by decide +kernel
theorem dX3_init_42 : decode cX3_init 42 = .ok (.return_, 1) := by decide +kernel
theorem dX3_read_0 : decode cX3_read 0 = .ok (.aload_n 0, 1) := by decide +kernel
theorem dX3_read_1 : decode cX3_read 1 = .ok (.getfield 14, 3) := by decide +kernel
theorem dX3_read_4 : decode cX3_read 4 = .ok (.iconst 0, 1) := by decide +kernel
theorem dX3_read_5 : decode cX3_read 5 = .ok (.invokevirtual 26, 3) := by decide +kernel
theorem dX3_read_8 : decode cX3_read 8 = .ok (.aload_n 0, 1) := by decide +kernel
theorem dX3_read_9 : decode cX3_read 9 = .ok (.getfield 20, 3) := by decide +kernel
theorem dX3_read_12 : decode cX3_read 12 = .ok (.iconst 0, 1) := by decide +kernel
theorem dX3_read_13 : decode cX3_read 13 = .ok (.invokevirtual 26, 3) := by decide +kernel
theorem dX3_read_16 : decode cX3_read 16 = .ok (.iconst 0, 1) := by decide +kernel
theorem dX3_read_17 : decode cX3_read 17 = .ok (.istore_n 2, 1) := by decide +kernel
theorem dX3_read_18 : decode cX3_read 18 = .ok (.iload_n 2, 1) := by decide +kernel
theorem dX3_read_19 : decode cX3_read 19 = .ok (.aload_n 1, 1) := by decide +kernel
theorem dX3_read_20 : decode cX3_read 20 = .ok (.getfield 29, 3) := by decide +kernel
theorem dX3_read_23 : decode cX3_read 23 = .ok (.if_icmp .ge 22, 3) := by decide +kernel
theorem dX3_read_26 : decode cX3_read 26 = .ok (.aload_n 0, 1) := by decide +kernel
theorem dX3_read_27 : decode cX3_read 27 = .ok (.iload_n 2, 1) := by decide +kernel
theorem dX3_read_28 : decode cX3_read 28 = .ok (.aload_n 1, 1) := by decide +kernel
theorem dX3_read_29 : decode cX3_read 29 = .ok (.getfield 35, 3) := by decide +kernel
theorem dX3_read_32 : decode cX3_read 32 = .ok (.iload_n 2, 1) := by decide +kernel
theorem dX3_read_33 : decode cX3_read 33 = .ok (.invokevirtual 38, 3) := by decide +kernel
theorem dX3_read_36 : decode cX3_read 36 = .ok (.invokevirtual 42, 3) := by decide +kernel
theorem dX3_read_39 : decode cX3_read 39 = .ok (.iinc 2 1, 3) := by decide +kernel
theorem dX3_read_42 : decode cX3_read 42 = .ok (.goto (-24), 3) := by decide +kernel
theorem dX3_read_45 : decode cX3_read 45 = .ok (.return_, 1) := by decide +kernel
theorem dX3_readWord_0 : decode cX3_readWord 0 = .ok (.iconst 1, 1) := by decide +kernel
theorem dX3_readWord_1 : decode cX3_readWord 1 = .ok (.iload_n 1, 1) := by decide +kernel
theorem dX3_readWord_2 : decode cX3_readWord 2 = .ok (.ishl, 1) := by decide +kernel
theorem dX3_readWord_3 : decode cX3_readWord 3 = .ok (.istore_n 3, 1) := by decide +kernel
theorem dX3_readWord_4 : decode cX3_readWord 4 = .ok (.iload_n 2, 1) := by decide +kernel
theorem dX3_readWord_5 : decode cX3_readWord 5 = .ok (.invokestatic 46, 3) := by decide +kernel
theorem dX3_readWord_8 : decode cX3_readWord 8 = .ok (.istore 4, 2) := by decide +kernel
theorem dX3_readWord_10 : decode cX3_readWord 10 = .ok (.aload_n 0, 1) := by decide +kernel
theorem dX3_readWord_11 : decode cX3_readWord 11 = .ok (.getfield 14, 3) := by decide +kernel
theorem dX3_readWord_14 : decode cX3_readWord 14 = .ok (.iload 4, 2) := by decide +kernel
theorem dX3_readWord_16 : decode cX3_readWord 16 = .ok (.aload_n 0, 1) := by decide +kernel
theorem dX3_readWord_17 : decode cX3_readWord 17 = .ok (.getfield 14, 3) := by decide +kernel
theorem dX3_readWord_20 : decode cX3_readWord 20 = .ok (.iload 4, 2) := by decide +kernel
theorem dX3_readWord_22 : decode cX3_readWord 22 = .ok (.invokevirtual 38, 3) := by decide +kernel
theorem dX3_readWord_25 : decode cX3_readWord 25 = .ok (.iload_n 3, 1) := by decide +kernel
theorem dX3_readWord_26 : decode cX3_readWord 26 = .ok (.ior, 1) := by decide +kernel
theorem dX3_readWord_27 : decode cX3_readWord 27 = .ok (.invokevirtual 49, 3) := by decide +kernel
theorem dX3_readWord_30 : decode cX3_readWord 30 = .ok (.iload_n 2, 1) := by decide +kernel
theorem dX3_readWord_31 : decode cX3_readWord 31 = .ok (.istore 5, 2) := by decide +kernel
theorem dX3_readWord_33 : decode cX3_readWord 33 = .ok (.iload 4, 2) := by decide +kernel
theorem dX3_readWord_35 : decode cX3_readWord 35 = .ok (.iconst 1, 1) := by decide +kernel
theorem dX3_readWord_36 : decode cX3_readWord 36 = .ok (.isub, 1) := by decide +kernel
theorem dX3_readWord_37 : decode cX3_readWord 37 = .ok (.istore 6, 2) := by decide +kernel
theorem dX3_readWord_39 : decode cX3_readWord 39 = .ok (.iload 6, 2) := by decide +kernel
theorem dX3_readWord_41 : decode cX3_readWord 41 = .ok (.ifCond .lt 65, 3) := by decide +kernel
theorem dX3_readWord_44 : decode cX3_readWord 44 = .ok (.iload 5, 2) := by decide +kernel
theorem dX3_readWord_46 : decode cX3_readWord 46 = .ok (.bipush 7, 2) := by decide +kernel
theorem dX3_readWord_48 : decode cX3_readWord 48 = .ok (.irem, 1) := by decide +kernel
theorem dX3_readWord_49 : decode cX3_readWord 49 = .ok (.iconst 1, 1) := by decide +kernel
theorem dX3_readWord_50 : decode cX3_readWord 50 = .ok (.isub, 1) := by decide +kernel
theorem dX3_readWord_51 : decode cX3_readWord 51 = .ok (.istore 7, 2) := by decide +kernel
theorem dX3_readWord_53 : decode cX3_readWord 53 = .ok (.aload_n 0, 1) := by decide +kernel
theorem dX3_readWord_54 : decode cX3_readWord 54 = .ok (.getfield 23, 3) := by decide +kernel
theorem dX3_readWord_57 : decode cX3_readWord 57 = .ok (.iload_n 1, 1) := by decide +kernel
theorem dX3_readWord_58 : decode cX3_readWord 58 = .ok (.iconst 4, 1) := by decide +kernel
theorem dX3_readWord_59 : decode cX3_readWord 59 = .ok (.imul, 1) := by decide +kernel
theorem dX3_readWord_60 : decode cX3_readWord 60 = .ok (.iload 6, 2) := by decide +kernel
theorem dX3_readWord_62 : decode cX3_readWord 62 = .ok (.iadd, 1) := by decide +kernel
theorem dX3_readWord_63 : decode cX3_readWord 63 = .ok (.iload 7, 2) := by decide +kernel
theorem dX3_readWord_65 : decode cX3_readWord 65 = .ok (.invokevirtual 49, 3) := by decide +kernel
theorem dX3_readWord_68 : decode cX3_readWord 68 = .ok (.aload_n 0, 1) := by decide +kernel
theorem dX3_readWord_69 : decode cX3_readWord 69 = .ok (.getfield 20, 3) := by decide +kernel
theorem dX3_readWord_72 : decode cX3_readWord 72 = .ok (.iload 6, 2) := by decide +kernel
theorem dX3_readWord_74 : decode cX3_readWord 74 = .ok (.bipush 6, 2) := by decide +kernel
theorem dX3_readWord_76 : decode cX3_readWord 76 = .ok (.imul, 1) := by decide +kernel
theorem dX3_readWord_77 : decode cX3_readWord 77 = .ok (.iload 7, 2) := by decide +kernel
theorem dX3_readWord_79 : decode cX3_readWord 79 = .ok (.iadd, 1) := by decide +kernel
theorem dX3_readWord_80 : decode cX3_readWord 80 = .ok (.aload_n 0, 1) := by decide +kernel
theorem dX3_readWord_81 : decode cX3_readWord 81 = .ok (.iload 6, 2) := by decide +kernel
theorem dX3_readWord_83 : decode cX3_readWord 83 = .ok (.iload 7, 2) := by decide +kernel
theorem dX3_readWord_85 : decode cX3_readWord 85 = .ok (.invokevirtual 52, 3) := by decide +kernel
theorem dX3_readWord_88 : decode cX3_readWord 88 = .ok (.iload_n 3, 1) := by decide +kernel
theorem dX3_readWord_89 : decode cX3_readWord 89 = .ok (.ior, 1) := by decide +kernel
theorem dX3_readWord_90 : decode cX3_readWord 90 = .ok (.invokevirtual 49, 3) := by decide +kernel
theorem dX3_readWord_93 : decode cX3_readWord 93 = .ok (.iload 5, 2) := by decide +kernel
theorem dX3_readWord_95 : decode cX3_readWord 95 = .ok (.bipush 7, 2) := by decide +kernel
theorem dX3_readWord_97 : decode cX3_readWord 97 = .ok (.idiv, 1) := by decide +kernel
theorem dX3_readWord_98 : decode cX3_readWord 98 = .ok (.istore 5, 2) := by decide +kernel
theorem dX3_readWord_100 : decode cX3_readWord 100 = .ok (.iinc 6 (-1), 3) := by decide +kernel
theorem dX3_readWord_103 : decode cX3_readWord 103 = .ok (.goto (-64), 3) := by decide +kernel
theorem dX3_readWord_106 : decode cX3_readWord 106 = .ok (.return_, 1) := by decide +kernel
theorem dX3_letterOf_0 : decode cX3_letterOf 0 = .ok (.aload_n 0, 1) := by decide +kernel
theorem dX3_letterOf_1 : decode cX3_letterOf 1 = .ok (.getfield 23, 3) := by decide +kernel
theorem dX3_letterOf_4 : decode cX3_letterOf 4 = .ok (.iload_n 1, 1) := by decide +kernel
theorem dX3_letterOf_5 : decode cX3_letterOf 5 = .ok (.iconst 4, 1) := by decide +kernel
theorem dX3_letterOf_6 : decode cX3_letterOf 6 = .ok (.imul, 1) := by decide +kernel
theorem dX3_letterOf_7 : decode cX3_letterOf 7 = .ok (.iload_n 2, 1) := by decide +kernel
theorem dX3_letterOf_8 : decode cX3_letterOf 8 = .ok (.iadd, 1) := by decide +kernel
theorem dX3_letterOf_9 : decode cX3_letterOf 9 = .ok (.invokevirtual 38, 3) := by decide +kernel
theorem dX3_letterOf_12 : decode cX3_letterOf 12 = .ok (.ireturn, 1) := by decide +kernel
theorem dX3_wordsHaving_0 : decode cX3_wordsHaving 0 = .ok (.aload_n 0, 1) := by decide +kernel
theorem dX3_wordsHaving_1 : decode cX3_wordsHaving 1 = .ok (.getfield 20, 3) := by decide +kernel
theorem dX3_wordsHaving_4 : decode cX3_wordsHaving 4 = .ok (.iload_n 1, 1) := by decide +kernel
theorem dX3_wordsHaving_5 : decode cX3_wordsHaving 5 = .ok (.bipush 6, 2) := by decide +kernel
theorem dX3_wordsHaving_7 : decode cX3_wordsHaving 7 = .ok (.imul, 1) := by decide +kernel
theorem dX3_wordsHaving_8 : decode cX3_wordsHaving 8 = .ok (.iload_n 2, 1) := by decide +kernel
theorem dX3_wordsHaving_9 : decode cX3_wordsHaving 9 = .ok (.iadd, 1) := by decide +kernel
theorem dX3_wordsHaving_10 : decode cX3_wordsHaving 10 = .ok (.invokevirtual 38, 3) := by decide +kernel
theorem dX3_wordsHaving_13 : decode cX3_wordsHaving 13 = .ok (.ireturn, 1) := by decide +kernel
theorem dX4_init_0 : decode cX4_init 0 = .ok (.aload_n 0, 1) := by decide +kernel
theorem dX4_init_1 : decode cX4_init 1 = .ok (.invokespecial 3, 3) := by decide +kernel
theorem dX4_init_4 : decode cX4_init 4 = .ok (.aload_n 0, 1) := by decide +kernel
theorem dX4_init_5 : decode cX4_init 5 = .ok (.new 9, 3) := by decide +kernel
theorem dX4_init_8 : decode cX4_init 8 = .ok (.dup, 1) := by decide +kernel
theorem dX4_init_9 : decode cX4_init 9 = .ok (.sipush 396, 3) := by decide +kernel
theorem dX4_init_12 : decode cX4_init 12 = .ok (.invokespecial 13, 3) := by decide +kernel
theorem dX4_init_15 : decode cX4_init 15 = .ok (.putfield 16, 3) := by decide +kernel
theorem dX4_init_18 : decode cX4_init 18 = .ok (.return_, 1) := by decide +kernel
theorem dX4_note_0 : decode cX4_note 0 = .ok (.aload_n 0, 1) := by decide +kernel
theorem dX4_note_1 : decode cX4_note 1 = .ok (.aload_n 0, 1) := by decide +kernel
theorem dX4_note_2 : decode cX4_note 2 = .ok (.getfield 20, 3) := by decide +kernel
theorem dX4_note_5 : decode cX4_note 5 = .ok (.aload_n 1, 1) := by decide +kernel
theorem dX4_note_6 : decode cX4_note 6 = .ok (.invokevirtual 24, 3) := by decide +kernel
theorem dX4_note_9 : decode cX4_note 9 = .ok (.aload_n 0, 1) := by decide +kernel
theorem dX4_note_10 : decode cX4_note 10 = .ok (.aload_n 0, 1) := by decide +kernel
theorem dX4_note_11 : decode cX4_note 11 = .ok (.getfield 20, 3) := by decide +kernel
theorem dX4_note_14 : decode cX4_note 14 = .ok (.iconst 1, 1) := by decide +kernel
theorem dX4_note_15 : decode cX4_note 15 = .ok (.iadd, 1) := by decide +kernel
theorem dX4_note_16 : decode cX4_note 16 = .ok (.bipush 10, 2) := by decide +kernel
theorem dX4_note_18 : decode cX4_note 18 = .ok (.irem, 1) := by decide +kernel
theorem dX4_note_19 : decode cX4_note 19 = .ok (.putfield 20, 3) := by decide +kernel
theorem dX4_note_22 : decode cX4_note 22 = .ok (.aload_n 0, 1) := by decide +kernel
theorem dX4_note_23 : decode cX4_note 23 = .ok (.aload_n 0, 1) := by decide +kernel
theorem dX4_note_24 : decode cX4_note 24 = .ok (.getfield 28, 3) := by decide +kernel
theorem dX4_note_27 : decode cX4_note 27 = .ok (.iconst 1, 1) := by decide +kernel
theorem dX4_note_28 : decode cX4_note 28 = .ok (.iadd, 1) := by decide +kernel
theorem dX4_note_29 : decode cX4_note 29 = .ok (.bipush 10, 2) := by decide +kernel
theorem dX4_note_31 : decode cX4_note 31 = .ok (.invokestatic 31, 3) := by decide +kernel
theorem dX4_note_34 : decode cX4_note 34 = .ok (.putfield 28, 3) := by decide +kernel
theorem dX4_note_37 : decode cX4_note 37 = .ok (.return_, 1) := by decide +kernel
theorem dX4_stepBack_0 : decode cX4_stepBack 0 = .ok (.aload_n 0, 1) := by decide +kernel
theorem dX4_stepBack_1 : decode cX4_stepBack 1 = .ok (.aload_n 0, 1) := by decide +kernel
theorem dX4_stepBack_2 : decode cX4_stepBack 2 = .ok (.getfield 20, 3) := by decide +kernel
theorem dX4_stepBack_5 : decode cX4_stepBack 5 = .ok (.bipush 10, 2) := by decide +kernel
theorem dX4_stepBack_7 : decode cX4_stepBack 7 = .ok (.iadd, 1) := by decide +kernel
theorem dX4_stepBack_8 : decode cX4_stepBack 8 = .ok (.iconst 1, 1) := by decide +kernel
theorem dX4_stepBack_9 : decode cX4_stepBack 9 = .ok (.isub, 1) := by decide +kernel
theorem dX4_stepBack_10 : decode cX4_stepBack 10 = .ok (.bipush 10, 2) := by decide +kernel
theorem dX4_stepBack_12 : decode cX4_stepBack 12 = .ok (.irem, 1) := by decide +kernel
theorem dX4_stepBack_13 : decode cX4_stepBack 13 = .ok (.putfield 20, 3) := by decide +kernel
theorem dX4_stepBack_16 : decode cX4_stepBack 16 = .ok (.aload_n 0, 1) := by decide +kernel
theorem dX4_stepBack_17 : decode cX4_stepBack 17 = .ok (.dup, 1) := by decide +kernel
theorem dX4_stepBack_18 : decode cX4_stepBack 18 = .ok (.getfield 28, 3) := by decide +kernel
theorem dX4_stepBack_21 : decode cX4_stepBack 21 = .ok (.iconst 1, 1) := by decide +kernel
theorem dX4_stepBack_22 : decode cX4_stepBack 22 = .ok (.isub, 1) := by decide +kernel
theorem dX4_stepBack_23 : decode cX4_stepBack 23 = .ok (.putfield 28, 3) := by decide +kernel
theorem dX4_stepBack_26 : decode cX4_stepBack 26 = .ok (.aload_n 0, 1) := by decide +kernel
theorem dX4_stepBack_27 : decode cX4_stepBack 27 = .ok (.aload_n 0, 1) := by decide +kernel
theorem dX4_stepBack_28 : decode cX4_stepBack 28 = .ok (.getfield 20, 3) := by decide +kernel
theorem dX4_stepBack_31 : decode cX4_stepBack 31 = .ok (.aload_n 1, 1) := by decide +kernel
theorem dX4_stepBack_32 : decode cX4_stepBack 32 = .ok (.invokevirtual 37, 3) := by decide +kernel
theorem dX4_stepBack_35 : decode cX4_stepBack 35 = .ok (.return_, 1) := by decide +kernel
theorem dX4_keepImage_0 : decode cX4_keepImage 0 = .ok (.aload_n 0, 1) := by decide +kernel
theorem dX4_keepImage_1 : decode cX4_keepImage 1 = .ok (.bipush 10, 2) := by decide +kernel
theorem dX4_keepImage_3 : decode cX4_keepImage 3 = .ok (.iload_n 1, 1) := by decide +kernel
theorem dX4_keepImage_4 : decode cX4_keepImage 4 = .ok (.iadd, 1) := by decide +kernel
theorem dX4_keepImage_5 : decode cX4_keepImage 5 = .ok (.aload_n 2, 1) := by decide +kernel
theorem dX4_keepImage_6 : decode cX4_keepImage 6 = .ok (.invokevirtual 24, 3) := by decide +kernel
theorem dX4_keepImage_9 : decode cX4_keepImage 9 = .ok (.aload_n 0, 1) := by decide +kernel
theorem dX4_keepImage_10 : decode cX4_keepImage 10 = .ok (.dup, 1) := by decide +kernel
theorem dX4_keepImage_11 : decode cX4_keepImage 11 = .ok (.getfield 40, 3) := by decide +kernel
theorem dX4_keepImage_14 : decode cX4_keepImage 14 = .ok (.iconst 1, 1) := by decide +kernel
theorem dX4_keepImage_15 : decode cX4_keepImage 15 = .ok (.iload_n 1, 1) := by decide +kernel
theorem dX4_keepImage_16 : decode cX4_keepImage 16 = .ok (.ishl, 1) := by decide +kernel
theorem dX4_keepImage_17 : decode cX4_keepImage 17 = .ok (.ior, 1) := by decide +kernel
theorem dX4_keepImage_18 : decode cX4_keepImage 18 = .ok (.putfield 40, 3) := by decide +kernel
theorem dX4_keepImage_21 : decode cX4_keepImage 21 = .ok (.aload_n 0, 1) := by decide +kernel
theorem dX4_keepImage_22 : decode cX4_keepImage 22 = .ok (.iconst 0, 1) := by decide +kernel
theorem dX4_keepImage_23 : decode cX4_keepImage 23 = .ok (.putfield 28, 3) := by decide +kernel
theorem dX4_keepImage_26 : decode cX4_keepImage 26 = .ok (.return_, 1) := by decide +kernel
theorem dX4_bringImage_0 : decode cX4_bringImage 0 = .ok (.aload_n 0, 1) := by decide +kernel
theorem dX4_bringImage_1 : decode cX4_bringImage 1 = .ok (.bipush 10, 2) := by decide +kernel
theorem dX4_bringImage_3 : decode cX4_bringImage 3 = .ok (.iload_n 1, 1) := by decide +kernel
theorem dX4_bringImage_4 : decode cX4_bringImage 4 = .ok (.iadd, 1) := by decide +kernel
theorem dX4_bringImage_5 : decode cX4_bringImage 5 = .ok (.aload_n 2, 1) := by decide +kernel
theorem dX4_bringImage_6 : decode cX4_bringImage 6 = .ok (.invokevirtual 37, 3) := by decide +kernel
theorem dX4_bringImage_9 : decode cX4_bringImage 9 = .ok (.aload_n 0, 1) := by decide +kernel
theorem dX4_bringImage_10 : decode cX4_bringImage 10 = .ok (.iconst 0, 1) := by decide +kernel
theorem dX4_bringImage_11 : decode cX4_bringImage 11 = .ok (.putfield 28, 3) := by decide +kernel
theorem dX4_bringImage_14 : decode cX4_bringImage 14 = .ok (.return_, 1) := by decide +kernel
theorem dX4_save_0 : decode cX4_save 0 = .ok (.iload_n 1, 1) := by decide +kernel
theorem dX4_save_1 : decode cX4_save 1 = .ok (.bipush 33, 2) := by decide +kernel
theorem dX4_save_3 : decode cX4_save 3 = .ok (.imul, 1) := by decide +kernel
theorem dX4_save_4 : decode cX4_save 4 = .ok (.istore_n 3, 1) := by decide +kernel
theorem dX4_save_5 : decode cX4_save 5 = .ok (.iconst 0, 1) := by decide +kernel
theorem dX4_save_6 : decode cX4_save 6 = .ok (.istore 4, 2) := by decide +kernel
theorem dX4_save_8 : decode cX4_save 8 = .ok (.iload 4, 2) := by decide +kernel
theorem dX4_save_10 : decode cX4_save 10 = .ok (.bipush 16, 2) := by decide +kernel
theorem dX4_save_12 : decode cX4_save 12 = .ok (.if_icmp .ge 29, 3) := by decide +kernel
theorem dX4_save_15 : decode cX4_save 15 = .ok (.aload_n 0, 1) := by decide +kernel
theorem dX4_save_16 : decode cX4_save 16 = .ok (.getfield 16, 3) := by decide +kernel
theorem dX4_save_19 : decode cX4_save 19 = .ok (.iload_n 3, 1) := by decide +kernel
theorem dX4_save_20 : decode cX4_save 20 = .ok (.iload 4, 2) := by decide +kernel
theorem dX4_save_22 : decode cX4_save 22 = .ok (.iadd, 1) := by decide +kernel
theorem dX4_save_23 : decode cX4_save 23 = .ok (.aload_n 2, 1) := by decide +kernel
theorem dX4_save_24 : decode cX4_save 24 = .ok (.getfield 43, 3) := by decide +kernel
theorem dX4_save_27 : decode cX4_save 27 = .ok (.iload 4, 2) := by decide +kernel
theorem dX4_save_29 : decode cX4_save 29 = .ok (.invokevirtual 48, 3) := by decide +kernel
theorem dX4_save_32 : decode cX4_save 32 = .ok (.invokevirtual 52, 3) := by decide +kernel
theorem dX4_save_35 : decode cX4_save 35 = .ok (.iinc 4 1, 3) := by decide +kernel
theorem dX4_save_38 : decode cX4_save 38 = .ok (.goto (-30), 3) := by decide +kernel
theorem dX4_save_41 : decode cX4_save 41 = .ok (.iconst 0, 1) := by decide +kernel
theorem dX4_save_42 : decode cX4_save 42 = .ok (.istore 4, 2) := by decide +kernel
theorem dX4_save_44 : decode cX4_save 44 = .ok (.iload 4, 2) := by decide +kernel
theorem dX4_save_46 : decode cX4_save 46 = .ok (.bipush 16, 2) := by decide +kernel
theorem dX4_save_48 : decode cX4_save 48 = .ok (.if_icmp .ge 32, 3) := by decide +kernel
theorem dX4_save_51 : decode cX4_save 51 = .ok (.aload_n 0, 1) := by decide +kernel
theorem dX4_save_52 : decode cX4_save 52 = .ok (.getfield 16, 3) := by decide +kernel
theorem dX4_save_55 : decode cX4_save 55 = .ok (.iload_n 3, 1) := by decide +kernel
theorem dX4_save_56 : decode cX4_save 56 = .ok (.bipush 16, 2) := by decide +kernel
theorem dX4_save_58 : decode cX4_save 58 = .ok (.iadd, 1) := by decide +kernel
theorem dX4_save_59 : decode cX4_save 59 = .ok (.iload 4, 2) := by decide +kernel
theorem dX4_save_61 : decode cX4_save 61 = .ok (.iadd, 1) := by decide +kernel
theorem dX4_save_62 : decode cX4_save 62 = .ok (.aload_n 2, 1) := by decide +kernel
theorem dX4_save_63 : decode cX4_save 63 = .ok (.getfield 56, 3) := by decide +kernel
theorem dX4_save_66 : decode cX4_save 66 = .ok (.iload 4, 2) := by decide +kernel
theorem dX4_save_68 : decode cX4_save 68 = .ok (.invokevirtual 48, 3) := by decide +kernel
theorem dX4_save_71 : decode cX4_save 71 = .ok (.invokevirtual 52, 3) := by decide +kernel
theorem dX4_save_74 : decode cX4_save 74 = .ok (.iinc 4 1, 3) := by decide +kernel
theorem dX4_save_77 : decode cX4_save 77 = .ok (.goto (-33), 3) := by decide +kernel
theorem dX4_save_80 : decode cX4_save 80 = .ok (.aload_n 0, 1) := by decide +kernel
theorem dX4_save_81 : decode cX4_save 81 = .ok (.getfield 16, 3) := by decide +kernel
theorem dX4_save_84 : decode cX4_save 84 = .ok (.iload_n 3, 1) := by decide +kernel
theorem dX4_save_85 : decode cX4_save 85 = .ok (.bipush 16, 2) := by decide +kernel
theorem dX4_save_87 : decode cX4_save 87 = .ok (.iadd, 1) := by decide +kernel
theorem dX4_save_88 : decode cX4_save 88 = .ok (.bipush 16, 2) := by decide +kernel
theorem dX4_save_90 : decode cX4_save 90 = .ok (.iadd, 1) := by decide +kernel
theorem dX4_save_91 : decode cX4_save 91 = .ok (.aload_n 2, 1) := by decide +kernel
theorem dX4_save_92 : decode cX4_save 92 = .ok (.getfield 59, 3) := by decide +kernel
theorem dX4_save_95 : decode cX4_save 95 = .ok (.invokevirtual 52, 3) := by decide +kernel
theorem dX4_save_98 : decode cX4_save 98 = .ok (.return_, 1) := by decide +kernel
theorem dX4_load_0 : decode cX4_load 0 = .ok (.iload_n 1, 1) := by decide +kernel
theorem dX4_load_1 : decode cX4_load 1 = .ok (.bipush 33, 2) := by decide +kernel
theorem dX4_load_3 : decode cX4_load 3 = .ok (.imul, 1) := by decide +kernel
theorem dX4_load_4 : decode cX4_load 4 = .ok (.istore_n 3, 1) := by decide +kernel
theorem dX4_load_5 : decode cX4_load 5 = .ok (.iconst 0, 1) := by decide +kernel
theorem dX4_load_6 : decode cX4_load 6 = .ok (.istore 4, 2) := by decide +kernel
theorem dX4_load_8 : decode cX4_load 8 = .ok (.iload 4, 2) := by decide +kernel
theorem dX4_load_10 : decode cX4_load 10 = .ok (.bipush 16, 2) := by decide +kernel
theorem dX4_load_12 : decode cX4_load 12 = .ok (.if_icmp .ge 29, 3) := by decide +kernel
theorem dX4_load_15 : decode cX4_load 15 = .ok (.aload_n 2, 1) := by decide +kernel
theorem dX4_load_16 : decode cX4_load 16 = .ok (.getfield 43, 3) := by decide +kernel
theorem dX4_load_19 : decode cX4_load 19 = .ok (.iload 4, 2) := by decide +kernel
theorem dX4_load_21 : decode cX4_load 21 = .ok (.aload_n 0, 1) := by decide +kernel
theorem dX4_load_22 : decode cX4_load 22 = .ok (.getfield 16, 3) := by decide +kernel
theorem dX4_load_25 : decode cX4_load 25 = .ok (.iload_n 3, 1) := by decide +kernel
theorem dX4_load_26 : decode cX4_load 26 = .ok (.iload 4, 2) := by decide +kernel
theorem dX4_load_28 : decode cX4_load 28 = .ok (.iadd, 1) := by decide +kernel
theorem dX4_load_29 : decode cX4_load 29 = .ok (.invokevirtual 48, 3) := by decide +kernel
theorem dX4_load_32 : decode cX4_load 32 = .ok (.invokevirtual 52, 3) := by decide +kernel
theorem dX4_load_35 : decode cX4_load 35 = .ok (.iinc 4 1, 3) := by decide +kernel
theorem dX4_load_38 : decode cX4_load 38 = .ok (.goto (-30), 3) := by decide +kernel
theorem dX4_load_41 : decode cX4_load 41 = .ok (.iconst 0, 1) := by decide +kernel
theorem dX4_load_42 : decode cX4_load 42 = .ok (.istore 4, 2) := by decide +kernel
theorem dX4_load_44 : decode cX4_load 44 = .ok (.iload 4, 2) := by decide +kernel
theorem dX4_load_46 : decode cX4_load 46 = .ok (.bipush 16, 2) := by decide +kernel
theorem dX4_load_48 : decode cX4_load 48 = .ok (.if_icmp .ge 32, 3) := by decide +kernel
theorem dX4_load_51 : decode cX4_load 51 = .ok (.aload_n 2, 1) := by decide +kernel
theorem dX4_load_52 : decode cX4_load 52 = .ok (.getfield 56, 3) := by decide +kernel
theorem dX4_load_55 : decode cX4_load 55 = .ok (.iload 4, 2) := by decide +kernel
theorem dX4_load_57 : decode cX4_load 57 = .ok (.aload_n 0, 1) := by decide +kernel
theorem dX4_load_58 : decode cX4_load 58 = .ok (.getfield 16, 3) := by decide +kernel
theorem dX4_load_61 : decode cX4_load 61 = .ok (.iload_n 3, 1) := by decide +kernel
theorem dX4_load_62 : decode cX4_load 62 = .ok (.bipush 16, 2) := by decide +kernel
theorem dX4_load_64 : decode cX4_load 64 = .ok (.iadd, 1) := by decide +kernel
theorem dX4_load_65 : decode cX4_load 65 = .ok (.iload 4, 2) := by decide +kernel
theorem dX4_load_67 : decode cX4_load 67 = .ok (.iadd, 1) := by decide +kernel
theorem dX4_load_68 : decode cX4_load 68 = .ok (.invokevirtual 48, 3) := by decide +kernel
theorem dX4_load_71 : decode cX4_load 71 = .ok (.invokevirtual 52, 3) := by decide +kernel
theorem dX4_load_74 : decode cX4_load 74 = .ok (.iinc 4 1, 3) := by decide +kernel
theorem dX4_load_77 : decode cX4_load 77 = .ok (.goto (-33), 3) := by decide +kernel
theorem dX4_load_80 : decode cX4_load 80 = .ok (.aload_n 2, 1) := by decide +kernel
theorem dX4_load_81 : decode cX4_load 81 = .ok (.aload_n 0, 1) := by decide +kernel
theorem dX4_load_82 : decode cX4_load 82 = .ok (.getfield 16, 3) := by decide +kernel
theorem dX4_load_85 : decode cX4_load 85 = .ok (.iload_n 3, 1) := by decide +kernel
theorem dX4_load_86 : decode cX4_load 86 = .ok (.bipush 16, 2) := by decide +kernel
theorem dX4_load_88 : decode cX4_load 88 = .ok (.iadd, 1) := by decide +kernel
theorem dX4_load_89 : decode cX4_load 89 = .ok (.bipush 16, 2) := by decide +kernel
theorem dX4_load_91 : decode cX4_load 91 = .ok (.iadd, 1) := by decide +kernel
theorem dX4_load_92 : decode cX4_load 92 = .ok (.invokevirtual 48, 3) := by decide +kernel
theorem dX4_load_95 : decode cX4_load 95 = .ok (.putfield 59, 3) := by decide +kernel
theorem dX4_load_98 : decode cX4_load 98 = .ok (.return_, 1) := by decide +kernel
theorem dX5_init_0 : decode cX5_init 0 = .ok (.aload_n 0, 1) := by decide +kernel
theorem dX5_init_1 : decode cX5_init 1 = .ok (.invokespecial 1, 3) := by decide +kernel
theorem dX5_init_4 : decode cX5_init 4 = .ok (.aload_n 0, 1) := by decide +kernel
theorem dX5_init_5 : decode cX5_init 5 = .ok (.iconst 0, 1) := by decide +kernel
theorem dX5_init_6 : decode cX5_init 6 = .ok (.iload_n 1, 1) := by decide +kernel
theorem dX5_init_7 : decode cX5_init 7 = .ok (.invokestatic 7, 3) := by decide +kernel
theorem dX5_init_10 : decode cX5_init 10 = .ok (.newarray .int, 2) := by decide +kernel
theorem dX5_init_12 : decode cX5_init 12 = .ok (.putfield 13, 3) := by decide +kernel
theorem dX5_init_15 : decode cX5_init 15 = .ok (.return_, 1) := by decide +kernel
theorem dX5_get_0 : decode cX5_get 0 = .ok (.iload_n 1, 1) := by decide +kernel
theorem dX5_get_1 : decode cX5_get 1 = .ok (.ifCond .lt 21, 3) := by decide +kernel
theorem dX5_get_4 : decode cX5_get 4 = .ok (.iload_n 1, 1) := by decide +kernel
theorem dX5_get_5 : decode cX5_get 5 = .ok (.aload_n 0, 1) := by decide +kernel
theorem dX5_get_6 : decode cX5_get 6 = .ok (.getfield 13, 3) := by decide +kernel
theorem dX5_get_9 : decode cX5_get 9 = .ok (.arraylength, 1) := by decide +kernel
theorem dX5_get_10 : decode cX5_get 10 = .ok (.if_icmp .ge 12, 3) := by decide +kernel
theorem dX5_get_13 : decode cX5_get 13 = .ok (.aload_n 0, 1) := by decide +kernel
theorem dX5_get_14 : decode cX5_get 14 = .ok (.getfield 13, 3) := by decide +kernel
theorem dX5_get_17 : decode cX5_get 17 = .ok (.iload_n 1, 1) := by decide +kernel
theorem dX5_get_18 : decode cX5_get 18 = .ok (.iaload, 1) := by decide +kernel
theorem dX5_get_19 : decode cX5_get 19 = .ok (.goto 4, 3) := by decide +kernel
theorem dX5_get_22 : decode cX5_get 22 = .ok (.iconst 0, 1) := by decide +kernel
theorem dX5_get_23 : decode cX5_get 23 = .ok (.ireturn, 1) := by decide +kernel
theorem dX5_set_0 : decode cX5_set 0 = .ok (.iload_n 1, 1) := by decide +kernel
theorem dX5_set_1 : decode cX5_set 1 = .ok (.ifCond .lt 19, 3) := by decide +kernel
theorem dX5_set_4 : decode cX5_set 4 = .ok (.iload_n 1, 1) := by decide +kernel
theorem dX5_set_5 : decode cX5_set 5 = .ok (.aload_n 0, 1) := by decide +kernel
theorem dX5_set_6 : decode cX5_set 6 = .ok (.getfield 13, 3) := by decide +kernel
theorem dX5_set_9 : decode cX5_set 9 = .ok (.arraylength, 1) := by decide +kernel
theorem dX5_set_10 : decode cX5_set 10 = .ok (.if_icmp .ge 10, 3) := by decide +kernel
theorem dX5_set_13 : decode cX5_set 13 = .ok (.aload_n 0, 1) := by decide +kernel
theorem dX5_set_14 : decode cX5_set 14 = .ok (.getfield 13, 3) := by decide +kernel
theorem dX5_set_17 : decode cX5_set 17 = .ok (.iload_n 1, 1) := by decide +kernel
theorem dX5_set_18 : decode cX5_set 18 = .ok (.iload_n 2, 1) := by decide +kernel
theorem dX5_set_19 : decode cX5_set 19 = .ok (.iastore, 1) := by decide +kernel
theorem dX5_set_20 : decode cX5_set 20 = .ok (.return_, 1) := by decide +kernel
theorem dX5_fill_0 : decode cX5_fill 0 = .ok (.iconst 0, 1) := by decide +kernel
theorem dX5_fill_1 : decode cX5_fill 1 = .ok (.istore_n 2, 1) := by decide +kernel
theorem dX5_fill_2 : decode cX5_fill 2 = .ok (.iload_n 2, 1) := by decide +kernel
theorem dX5_fill_3 : decode cX5_fill 3 = .ok (.aload_n 0, 1) := by decide +kernel
theorem dX5_fill_4 : decode cX5_fill 4 = .ok (.getfield 13, 3) := by decide +kernel
theorem dX5_fill_7 : decode cX5_fill 7 = .ok (.arraylength, 1) := by decide +kernel
theorem dX5_fill_8 : decode cX5_fill 8 = .ok (.if_icmp .ge 16, 3) := by decide +kernel
theorem dX5_fill_11 : decode cX5_fill 11 = .ok (.aload_n 0, 1) := by decide +kernel
theorem dX5_fill_12 : decode cX5_fill 12 = .ok (.getfield 13, 3) := by decide +kernel
theorem dX5_fill_15 : decode cX5_fill 15 = .ok (.iload_n 2, 1) := by decide +kernel
theorem dX5_fill_16 : decode cX5_fill 16 = .ok (.iload_n 1, 1) := by decide +kernel
theorem dX5_fill_17 : decode cX5_fill 17 = .ok (.iastore, 1) := by decide +kernel
theorem dX5_fill_18 : decode cX5_fill 18 = .ok (.iinc 2 1, 3) := by decide +kernel
theorem dX5_fill_21 : decode cX5_fill 21 = .ok (.goto (-19), 3) := by decide +kernel
theorem dX5_fill_24 : decode cX5_fill 24 = .ok (.return_, 1) := by decide +kernel
theorem dX6_init_0 : decode cX6_init 0 = .ok (.aload_n 0, 1) := by decide +kernel
theorem dX6_init_1 : decode cX6_init 1 = .ok (.invokespecial 3, 3) := by decide +kernel
theorem dX6_init_4 : decode cX6_init 4 = .ok (.aload_n 0, 1) := by decide +kernel
theorem dX6_init_5 : decode cX6_init 5 = .ok (.new 9, 3) := by decide +kernel
theorem dX6_init_8 : decode cX6_init 8 = .ok (.dup, 1) := by decide +kernel
theorem dX6_init_9 : decode cX6_init 9 = .ok (.bipush 8, 2) := by decide +kernel
theorem dX6_init_11 : decode cX6_init 11 = .ok (.invokespecial 11, 3) := by decide +kernel
theorem dX6_init_14 : decode cX6_init 14 = .ok (.putfield 14, 3) := by decide +kernel
theorem dX6_init_17 : decode cX6_init 17 = .ok (.aload_n 0, 1) := by decide +kernel
theorem dX6_init_18 : decode cX6_init 18 = .ok (.new 9, 3) := by decide +kernel
theorem dX6_init_21 : decode cX6_init 21 = .ok (.dup, 1) := by decide +kernel
theorem dX6_init_22 : decode cX6_init 22 = .ok (.bipush 8, 2) := by decide +kernel
theorem dX6_init_24 : decode cX6_init 24 = .ok (.invokespecial 11, 3) := by decide +kernel
theorem dX6_init_27 : decode cX6_init 27 = .ok (.putfield 20, 3) := by decide +kernel
theorem dX6_init_30 : decode cX6_init 30 = .ok (.aload_n 0, 1) := by decide +kernel
theorem dX6_init_31 : decode cX6_init 31 = .ok (.new 9, 3) := by decide +kernel
theorem dX6_init_34 : decode cX6_init 34 = .ok (.dup, 1) := by decide +kernel
theorem dX6_init_35 : decode cX6_init 35 = .ok (.bipush 8, 2) := by decide +kernel
theorem dX6_init_37 : decode cX6_init 37 = .ok (.invokespecial 11, 3) := by decide +kernel
theorem dX6_init_40 : decode cX6_init 40 = .ok (.putfield 23, 3) := by decide +kernel
theorem dX6_init_43 : decode cX6_init 43 = .ok (.aload_n 0, 1) := by decide +kernel
theorem dX6_init_44 : decode cX6_init 44 = .ok (.new 9, 3) := by decide +kernel
theorem dX6_init_47 : decode cX6_init 47 = .ok (.dup, 1) := by decide +kernel
theorem dX6_init_48 : decode cX6_init 48 = .ok (.bipush 64, 2) := by decide +kernel
theorem dX6_init_50 : decode cX6_init 50 = .ok (.invokespecial 11, 3) := by decide +kernel
theorem dX6_init_53 : decode cX6_init 53 = .ok (.putfield 26, 3) := by decide +kernel
theorem dX6_init_56 : decode cX6_init 56 = .ok (.aload_n 0, 1) := by decide +kernel
theorem dX6_init_57 : decode cX6_init 57 = .ok (.new 9, 3) := by decide +kernel
theorem dX6_init_60 : decode cX6_init 60 = .ok (.dup, 1) := by decide +kernel
theorem dX6_init_61 : decode cX6_init 61 = .ok (.bipush 16, 2) := by decide +kernel
theorem dX6_init_63 : decode cX6_init 63 = .ok (.invokespecial 11, 3) := by decide +kernel
theorem dX6_init_66 : decode cX6_init 66 = .ok (.putfield 29, 3) := by decide +kernel
theorem dX6_init_69 : decode cX6_init 69 = .ok (.aload_n 0, 1) := by decide +kernel
theorem dX6_init_70 : decode cX6_init 70 = .ok (.new 9, 3) := by decide +kernel
theorem dX6_init_73 : decode cX6_init 73 = .ok (.dup, 1) := by decide +kernel
theorem dX6_init_74 : decode cX6_init 74 = .ok (.bipush 16, 2) := by decide +kernel
theorem dX6_init_76 : decode cX6_init 76 = .ok (.invokespecial 11, 3) := by decide +kernel
theorem dX6_init_79 : decode cX6_init 79 = .ok (.putfield 32, 3) := by decide +kernel
theorem dX6_init_82 : decode cX6_init 82 = .ok (.return_, 1) := by decide +kernel
theorem dX6_read_0 : decode cX6_read 0 = .ok (.aload_n 0, 1) := by decide +kernel
theorem dX6_read_1 : decode cX6_read 1 = .ok (.iconst 0, 1) := by decide +kernel
theorem dX6_read_2 : decode cX6_read 2 = .ok (.putfield 35, 3) := by decide +kernel
theorem dX6_read_5 : decode cX6_read 5 = .ok (.aload_n 0, 1) := by decide +kernel
theorem dX6_read_6 : decode cX6_read 6 = .ok (.getfield 29, 3) := by decide +kernel
theorem dX6_read_9 : decode cX6_read 9 = .ok (.iconst (-1), 1) := by decide +kernel
theorem dX6_read_10 : decode cX6_read 10 = .ok (.invokevirtual 39, 3) := by decide +kernel
theorem dX6_read_13 : decode cX6_read 13 = .ok (.aload_n 0, 1) := by decide +kernel
theorem dX6_read_14 : decode cX6_read 14 = .ok (.getfield 32, 3) := by decide +kernel
theorem dX6_read_17 : decode cX6_read 17 = .ok (.iconst (-1), 1) := by decide +kernel
theorem dX6_read_18 : decode cX6_read 18 = .ok (.invokevirtual 39, 3) := by decide +kernel
theorem dX6_read_21 : decode cX6_read 21 = .ok (.iconst 0, 1) := by decide +kernel
theorem dX6_read_22 : decode cX6_read 22 = .ok (.istore_n 2, 1) := by decide +kernel
theorem dX6_read_23 : decode cX6_read 23 = .ok (.iload_n 2, 1) := by decide +kernel
theorem dX6_read_24 : decode cX6_read 24 = .ok (.iconst 4, 1) := by decide +kernel
theorem dX6_read_25 : decode cX6_read 25 = .ok (.if_icmp .ge 22, 3) := by decide +kernel
theorem dX6_read_28 : decode cX6_read 28 = .ok (.aload_n 0, 1) := by decide +kernel
theorem dX6_read_29 : decode cX6_read 29 = .ok (.aload_n 1, 1) := by decide +kernel
theorem dX6_read_30 : decode cX6_read 30 = .ok (.iload_n 2, 1) := by decide +kernel
theorem dX6_read_31 : decode cX6_read 31 = .ok (.iconst 4, 1) := by decide +kernel
theorem dX6_read_32 : decode cX6_read 32 = .ok (.imul, 1) := by decide +kernel
theorem dX6_read_33 : decode cX6_read 33 = .ok (.iconst 1, 1) := by decide +kernel
theorem dX6_read_34 : decode cX6_read 34 = .ok (.aload_n 0, 1) := by decide +kernel
theorem dX6_read_35 : decode cX6_read 35 = .ok (.getfield 29, 3) := by decide +kernel
theorem dX6_read_38 : decode cX6_read 38 = .ok (.invokevirtual 42, 3) := by decide +kernel
theorem dX6_read_41 : decode cX6_read 41 = .ok (.iinc 2 1, 3) := by decide +kernel
theorem dX6_read_44 : decode cX6_read 44 = .ok (.goto (-21), 3) := by decide +kernel
theorem dX6_read_47 : decode cX6_read 47 = .ok (.aload_n 0, 1) := by decide +kernel
theorem dX6_read_48 : decode cX6_read 48 = .ok (.aload_n 0, 1) := by decide +kernel
theorem dX6_read_49 : decode cX6_read 49 = .ok (.getfield 35, 3) := by decide +kernel
theorem dX6_read_52 : decode cX6_read 52 = .ok (.putfield 46, 3) := by decide +kernel
theorem dX6_read_55 : decode cX6_read 55 = .ok (.iconst 0, 1) := by decide +kernel
theorem dX6_read_56 : decode cX6_read 56 = .ok (.istore_n 2, 1) := by decide +kernel
theorem dX6_read_57 : decode cX6_read 57 = .ok (.iload_n 2, 1) := by decide +kernel
theorem dX6_read_58 : decode cX6_read 58 = .ok (.iconst 4, 1) := by decide +kernel
theorem dX6_read_59 : decode cX6_read 59 = .ok (.if_icmp .ge 20, 3) := by decide +kernel
theorem dX6_read_62 : decode cX6_read 62 = .ok (.aload_n 0, 1) := by decide +kernel
theorem dX6_read_63 : decode cX6_read 63 = .ok (.aload_n 1, 1) := by decide +kernel
theorem dX6_read_64 : decode cX6_read 64 = .ok (.iload_n 2, 1) := by decide +kernel
theorem dX6_read_65 : decode cX6_read 65 = .ok (.iconst 4, 1) := by decide +kernel
theorem dX6_read_66 : decode cX6_read 66 = .ok (.aload_n 0, 1) := by decide +kernel
theorem dX6_read_67 : decode cX6_read 67 = .ok (.getfield 32, 3) := by decide +kernel
theorem dX6_read_70 : decode cX6_read 70 = .ok (.invokevirtual 42, 3) := by decide +kernel
theorem dX6_read_73 : decode cX6_read 73 = .ok (.iinc 2 1, 3) := by decide +kernel
theorem dX6_read_76 : decode cX6_read 76 = .ok (.goto (-19), 3) := by decide +kernel
theorem dX6_read_79 : decode cX6_read 79 = .ok (.aload_n 0, 1) := by decide +kernel
theorem dX6_read_80 : decode cX6_read 80 = .ok (.invokevirtual 49, 3) := by decide +kernel
theorem dX6_read_83 : decode cX6_read 83 = .ok (.return_, 1) := by decide +kernel
theorem dX6_readLine_0 : decode cX6_readLine 0 = .ok (.iconst 0, 1) := by decide +kernel
theorem dX6_readLine_1 : decode cX6_readLine 1 = .ok (.istore 5, 2) := by decide +kernel
theorem dX6_readLine_3 : decode cX6_readLine 3 = .ok (.iconst 0, 1) := by decide +kernel
theorem dX6_readLine_4 : decode cX6_readLine 4 = .ok (.istore 6, 2) := by decide +kernel
theorem dX6_readLine_6 : decode cX6_readLine 6 = .ok (.iload 6, 2) := by decide +kernel
theorem dX6_readLine_8 : decode cX6_readLine 8 = .ok (.iconst 4, 1) := by decide +kernel
theorem dX6_readLine_9 : decode cX6_readLine 9 = .ok (.if_icmp .gt 59, 3) := by decide +kernel
theorem dX6_readLine_12 : decode cX6_readLine 12 = .ok (.iload 6, 2) := by decide +kernel
theorem dX6_readLine_14 : decode cX6_readLine 14 = .ok (.iconst 4, 1) := by decide +kernel
theorem dX6_readLine_15 : decode cX6_readLine 15 = .ok (.if_icmp .ge 26, 3) := by decide +kernel
theorem dX6_readLine_18 : decode cX6_readLine 18 = .ok (.aload_n 1, 1) := by decide +kernel
theorem dX6_readLine_19 : decode cX6_readLine 19 = .ok (.getfield 52, 3) := by decide +kernel
theorem dX6_readLine_22 : decode cX6_readLine 22 = .ok (.iload_n 2, 1) := by decide +kernel
theorem dX6_readLine_23 : decode cX6_readLine 23 = .ok (.iload 6, 2) := by decide +kernel
theorem dX6_readLine_25 : decode cX6_readLine 25 = .ok (.iload_n 3, 1) := by decide +kernel
theorem dX6_readLine_26 : decode cX6_readLine 26 = .ok (.imul, 1) := by decide +kernel
theorem dX6_readLine_27 : decode cX6_readLine 27 = .ok (.iadd, 1) := by decide +kernel
theorem dX6_readLine_28 : decode cX6_readLine 28 = .ok (.invokevirtual 57, 3) := by decide +kernel
theorem dX6_readLine_31 : decode cX6_readLine 31 = .ok (.iconst (-1), 1) := by decide +kernel
theorem dX6_readLine_32 : decode cX6_readLine 32 = .ok (.if_icmp .eq 9, 3) := by decide +kernel
theorem dX6_readLine_35 : decode cX6_readLine 35 = .ok (.iinc 5 1, 3) := by decide +kernel
theorem dX6_readLine_38 : decode cX6_readLine 38 = .ok (.goto 24, 3) := by decide +kernel
theorem dX6_readLine_41 : decode cX6_readLine 41 = .ok (.aload_n 0, 1) := by decide +kernel
theorem dX6_readLine_42 : decode cX6_readLine 42 = .ok (.iload_n 2, 1) := by decide +kernel
theorem dX6_readLine_43 : decode cX6_readLine 43 = .ok (.iload 6, 2) := by decide +kernel
theorem dX6_readLine_45 : decode cX6_readLine 45 = .ok (.iload 5, 2) := by decide +kernel
theorem dX6_readLine_47 : decode cX6_readLine 47 = .ok (.isub, 1) := by decide +kernel
theorem dX6_readLine_48 : decode cX6_readLine 48 = .ok (.iload_n 3, 1) := by decide +kernel
theorem dX6_readLine_49 : decode cX6_readLine 49 = .ok (.imul, 1) := by decide +kernel
theorem dX6_readLine_50 : decode cX6_readLine 50 = .ok (.iadd, 1) := by decide +kernel
theorem dX6_readLine_51 : decode cX6_readLine 51 = .ok (.iload 5, 2) := by decide +kernel
theorem dX6_readLine_53 : decode cX6_readLine 53 = .ok (.iload_n 3, 1) := by decide +kernel
theorem dX6_readLine_54 : decode cX6_readLine 54 = .ok (.aload 4, 2) := by decide +kernel
theorem dX6_readLine_56 : decode cX6_readLine 56 = .ok (.invokevirtual 61, 3) := by decide +kernel
theorem dX6_readLine_59 : decode cX6_readLine 59 = .ok (.iconst 0, 1) := by decide +kernel
theorem dX6_readLine_60 : decode cX6_readLine 60 = .ok (.istore 5, 2) := by decide +kernel
theorem dX6_readLine_62 : decode cX6_readLine 62 = .ok (.iinc 6 1, 3) := by decide +kernel
theorem dX6_readLine_65 : decode cX6_readLine 65 = .ok (.goto (-59), 3) := by decide +kernel
theorem dX6_readLine_68 : decode cX6_readLine 68 = .ok (.return_, 1) := by decide +kernel
theorem dX6_addSlot_0 : decode cX6_addSlot 0 = .ok (.iload_n 2, 1) := by decide +kernel
theorem dX6_addSlot_1 : decode cX6_addSlot 1 = .ok (.iconst 2, 1) := by decide +kernel
theorem dX6_addSlot_2 : decode cX6_addSlot 2 = .ok (.if_icmp .lt 12, 3) := by decide +kernel
theorem dX6_addSlot_5 : decode cX6_addSlot 5 = .ok (.aload_n 0, 1) := by decide +kernel
theorem dX6_addSlot_6 : decode cX6_addSlot 6 = .ok (.getfield 35, 3) := by decide +kernel
theorem dX6_addSlot_9 : decode cX6_addSlot 9 = .ok (.bipush 8, 2) := by decide +kernel
theorem dX6_addSlot_11 : decode cX6_addSlot 11 = .ok (.if_icmp .lt 4, 3) := by decide +kernel
theorem dX6_addSlot_14 : decode cX6_addSlot 14 = .ok (.return_, 1) := by decide +kernel
theorem dX6_addSlot_15 : decode cX6_addSlot 15 = .ok (.aload_n 0, 1) := by decide +kernel
theorem dX6_addSlot_16 : decode cX6_addSlot 16 = .ok (.getfield 14, 3) := by decide +kernel
theorem dX6_addSlot_19 : decode cX6_addSlot 19 = .ok (.aload_n 0, 1) := by decide +kernel
theorem dX6_addSlot_20 : decode cX6_addSlot 20 = .ok (.getfield 35, 3) := by decide +kernel
theorem dX6_addSlot_23 : decode cX6_addSlot 23 = .ok (.iload_n 1, 1) := by decide +kernel
theorem dX6_addSlot_24 : decode cX6_addSlot 24 = .ok (.invokevirtual 65, 3) := by decide +kernel
theorem dX6_addSlot_27 : decode cX6_addSlot 27 = .ok (.aload_n 0, 1) := by decide +kernel
theorem dX6_addSlot_28 : decode cX6_addSlot 28 = .ok (.getfield 20, 3) := by decide +kernel
theorem dX6_addSlot_31 : decode cX6_addSlot 31 = .ok (.aload_n 0, 1) := by decide +kernel
theorem dX6_addSlot_32 : decode cX6_addSlot 32 = .ok (.getfield 35, 3) := by decide +kernel
theorem dX6_addSlot_35 : decode cX6_addSlot 35 = .ok (.iload_n 2, 1) := by decide +kernel
theorem dX6_addSlot_36 : decode cX6_addSlot 36 = .ok (.invokevirtual 65, 3) := by decide +kernel
theorem dX6_addSlot_39 : decode cX6_addSlot 39 = .ok (.iconst 0, 1) := by decide +kernel
theorem dX6_addSlot_40 : decode cX6_addSlot 40 = .ok (.istore 5, 2) := by decide +kernel
theorem dX6_addSlot_42 : decode cX6_addSlot 42 = .ok (.iload 5, 2) := by decide +kernel
theorem dX6_addSlot_44 : decode cX6_addSlot 44 = .ok (.iload_n 2, 1) := by decide +kernel
theorem dX6_addSlot_45 : decode cX6_addSlot 45 = .ok (.if_icmp .ge 24, 3) := by decide +kernel
theorem dX6_addSlot_48 : decode cX6_addSlot 48 = .ok (.aload 4, 2) := by decide +kernel
theorem dX6_addSlot_50 : decode cX6_addSlot 50 = .ok (.iload_n 1, 1) := by decide +kernel
theorem dX6_addSlot_51 : decode cX6_addSlot 51 = .ok (.iload 5, 2) := by decide +kernel
theorem dX6_addSlot_53 : decode cX6_addSlot 53 = .ok (.iload_n 3, 1) := by decide +kernel
theorem dX6_addSlot_54 : decode cX6_addSlot 54 = .ok (.imul, 1) := by decide +kernel
theorem dX6_addSlot_55 : decode cX6_addSlot 55 = .ok (.iadd, 1) := by decide +kernel
theorem dX6_addSlot_56 : decode cX6_addSlot 56 = .ok (.aload_n 0, 1) := by decide +kernel
theorem dX6_addSlot_57 : decode cX6_addSlot 57 = .ok (.getfield 35, 3) := by decide +kernel
theorem dX6_addSlot_60 : decode cX6_addSlot 60 = .ok (.invokevirtual 65, 3) := by decide +kernel
theorem dX6_addSlot_63 : decode cX6_addSlot 63 = .ok (.iinc 5 1, 3) := by decide +kernel
theorem dX6_addSlot_66 : decode cX6_addSlot 66 = .ok (.goto (-24), 3) := by decide +kernel
theorem dX6_addSlot_69 : decode cX6_addSlot 69 = .ok (.aload_n 0, 1) := by decide +kernel
theorem dX6_addSlot_70 : decode cX6_addSlot 70 = .ok (.dup, 1) := by decide +kernel
theorem dX6_addSlot_71 : decode cX6_addSlot 71 = .ok (.getfield 35, 3) := by decide +kernel
theorem dX6_addSlot_74 : decode cX6_addSlot 74 = .ok (.iconst 1, 1) := by decide +kernel
theorem dX6_addSlot_75 : decode cX6_addSlot 75 = .ok (.iadd, 1) := by decide +kernel
theorem dX6_addSlot_76 : decode cX6_addSlot 76 = .ok (.putfield 35, 3) := by decide +kernel
theorem dX6_addSlot_79 : decode cX6_addSlot 79 = .ok (.return_, 1) := by decide +kernel
theorem dX6_readCrossings_0 : decode cX6_readCrossings 0 = .ok (.aload_n 0, 1) := by decide +kernel
theorem dX6_readCrossings_1 : decode cX6_readCrossings 1 = .ok (.iconst 0, 1) := by decide +kernel
theorem dX6_readCrossings_2 : decode cX6_readCrossings 2 = .ok (.putfield 69, 3) := by decide +kernel
theorem dX6_readCrossings_5 : decode cX6_readCrossings 5 = .ok (.aload_n 0, 1) := by decide +kernel
theorem dX6_readCrossings_6 : decode cX6_readCrossings 6 = .ok (.getfield 23, 3) := by decide +kernel
theorem dX6_readCrossings_9 : decode cX6_readCrossings 9 = .ok (.iconst 0, 1) := by decide +kernel
theorem dX6_readCrossings_10 : decode cX6_readCrossings 10 = .ok (.invokevirtual 39, 3) := by decide +kernel
theorem dX6_readCrossings_13 : decode cX6_readCrossings 13 = .ok (.aload_n 0, 1) := by decide +kernel
theorem dX6_readCrossings_14 : decode cX6_readCrossings 14 = .ok (.getfield 26, 3) := by decide +kernel
theorem dX6_readCrossings_17 : decode cX6_readCrossings 17 = .ok (.iconst (-1), 1) := by decide +kernel
theorem dX6_readCrossings_18 : decode cX6_readCrossings 18 = .ok (.invokevirtual 39, 3) := by decide +kernel
theorem dX6_readCrossings_21 : decode cX6_readCrossings 21 = .ok (.iconst 0, 1) := by decide +kernel
theorem dX6_readCrossings_22 : decode cX6_readCrossings 22 = .ok (.istore_n 1, 1) := by decide +kernel
theorem dX6_readCrossings_23 : decode cX6_readCrossings 23 = .ok (.iload_n 1, 1) := by decide +kernel
theorem dX6_readCrossings_24 : decode cX6_readCrossings 24 = .ok (.bipush 16, 2) := by decide +kernel
theorem dX6_readCrossings_26 : decode cX6_readCrossings 26 = .ok (.if_icmp .ge 125, 3) := by decide +kernel
theorem dX6_readCrossings_29 : decode cX6_readCrossings 29 = .ok (.aload_n 0, 1) := by decide +kernel
theorem dX6_readCrossings_30 : decode cX6_readCrossings 30 = .ok (.getfield 29, 3) := by decide +kernel
theorem dX6_readCrossings_33 : decode cX6_readCrossings 33 = .ok (.iload_n 1, 1) := by decide +kernel
theorem dX6_readCrossings_34 : decode cX6_readCrossings 34 = .ok (.invokevirtual 57, 3) := by decide +kernel
theorem dX6_readCrossings_37 : decode cX6_readCrossings 37 = .ok (.istore_n 2, 1) := by decide +kernel
theorem dX6_readCrossings_38 : decode cX6_readCrossings 38 = .ok (.aload_n 0, 1) := by decide +kernel
theorem dX6_readCrossings_39 : decode cX6_readCrossings 39 = .ok (.getfield 32, 3) := by decide +kernel
theorem dX6_readCrossings_42 : decode cX6_readCrossings 42 = .ok (.iload_n 1, 1) := by decide +kernel
theorem dX6_readCrossings_43 : decode cX6_readCrossings 43 = .ok (.invokevirtual 57, 3) := by decide +kernel
theorem dX6_readCrossings_46 : decode cX6_readCrossings 46 = .ok (.istore_n 3, 1) := by decide +kernel
theorem dX6_readCrossings_47 : decode cX6_readCrossings 47 = .ok (.iload_n 2, 1) := by decide +kernel
theorem dX6_readCrossings_48 : decode cX6_readCrossings 48 = .ok (.iconst (-1), 1) := by decide +kernel
theorem dX6_readCrossings_49 : decode cX6_readCrossings 49 = .ok (.if_icmp .eq 96, 3) := by decide +kernel
theorem dX6_readCrossings_52 : decode cX6_readCrossings 52 = .ok (.iload_n 3, 1) := by decide +kernel
theorem dX6_readCrossings_53 : decode cX6_readCrossings 53 = .ok (.iconst (-1), 1) := by decide +kernel
theorem dX6_readCrossings_54 : decode cX6_readCrossings 54 = .ok (.if_icmp .eq 91, 3) := by decide +kernel
theorem dX6_readCrossings_57 : decode cX6_readCrossings 57 = .ok (.aload_n 0, 1) := by decide +kernel
theorem dX6_readCrossings_58 : decode cX6_readCrossings 58 = .ok (.dup, 1) := by decide +kernel
theorem dX6_readCrossings_59 : decode cX6_readCrossings 59 = .ok (.getfield 69, 3) := by decide +kernel
theorem dX6_readCrossings_62 : decode cX6_readCrossings 62 = .ok (.iconst 1, 1) := by decide +kernel
theorem dX6_readCrossings_63 : decode cX6_readCrossings 63 = .ok (.iadd, 1) := by decide +kernel
theorem dX6_readCrossings_64 : decode cX6_readCrossings 64 = .ok (.putfield 69, 3) := by decide +kernel
theorem dX6_readCrossings_67 : decode cX6_readCrossings 67 = .ok (.aload_n 0, 1) := by decide +kernel
theorem dX6_readCrossings_68 : decode cX6_readCrossings 68 = .ok (.getfield 23, 3) := by decide +kernel
theorem dX6_readCrossings_71 : decode cX6_readCrossings 71 = .ok (.iload_n 2, 1) := by decide +kernel
theorem dX6_readCrossings_72 : decode cX6_readCrossings 72 = .ok (.aload_n 0, 1) := by decide +kernel
theorem dX6_readCrossings_73 : decode cX6_readCrossings 73 = .ok (.getfield 23, 3) := by decide +kernel
theorem dX6_readCrossings_76 : decode cX6_readCrossings 76 = .ok (.iload_n 2, 1) := by decide +kernel
theorem dX6_readCrossings_77 : decode cX6_readCrossings 77 = .ok (.invokevirtual 57, 3) := by decide +kernel
theorem dX6_readCrossings_80 : decode cX6_readCrossings 80 = .ok (.iconst 1, 1) := by decide +kernel
theorem dX6_readCrossings_81 : decode cX6_readCrossings 81 = .ok (.iload_n 3, 1) := by decide +kernel
theorem dX6_readCrossings_82 : decode cX6_readCrossings 82 = .ok (.ishl, 1) := by decide +kernel
theorem dX6_readCrossings_83 : decode cX6_readCrossings 83 = .ok (.ior, 1) := by decide +kernel
theorem dX6_readCrossings_84 : decode cX6_readCrossings 84 = .ok (.invokevirtual 65, 3) := by decide +kernel
theorem dX6_readCrossings_87 : decode cX6_readCrossings 87 = .ok (.aload_n 0, 1) := by decide +kernel
theorem dX6_readCrossings_88 : decode cX6_readCrossings 88 = .ok (.getfield 23, 3) := by decide +kernel
theorem dX6_readCrossings_91 : decode cX6_readCrossings 91 = .ok (.iload_n 3, 1) := by decide +kernel
theorem dX6_readCrossings_92 : decode cX6_readCrossings 92 = .ok (.aload_n 0, 1) := by decide +kernel
theorem dX6_readCrossings_93 : decode cX6_readCrossings 93 = .ok (.getfield 23, 3) := by decide +kernel
theorem dX6_readCrossings_96 : decode cX6_readCrossings 96 = .ok (.iload_n 3, 1) := by decide +kernel
theorem dX6_readCrossings_97 : decode cX6_readCrossings 97 = .ok (.invokevirtual 57, 3) := by decide +kernel
theorem dX6_readCrossings_100 : decode cX6_readCrossings 100 = .ok (.iconst 1, 1) := by decide +kernel
theorem dX6_readCrossings_101 : decode cX6_readCrossings 101 = .ok (.iload_n 2, 1) := by decide +kernel
theorem dX6_readCrossings_102 : decode cX6_readCrossings 102 = .ok (.ishl, 1) := by decide +kernel
theorem dX6_readCrossings_103 : decode cX6_readCrossings 103 = .ok (.ior, 1) := by decide +kernel
theorem dX6_readCrossings_104 : decode cX6_readCrossings 104 = .ok (.invokevirtual 65, 3) := by decide +kernel
theorem dX6_readCrossings_107 : decode cX6_readCrossings 107 = .ok (.aload_n 0, 1) := by decide +kernel
theorem dX6_readCrossings_108 : decode cX6_readCrossings 108 = .ok (.getfield 26, 3) := by decide +kernel
theorem dX6_readCrossings_111 : decode cX6_readCrossings 111 = .ok (.iload_n 2, 1) := by decide +kernel
theorem dX6_readCrossings_112 : decode cX6_readCrossings 112 = .ok (.bipush 8, 2) := by decide +kernel
theorem dX6_readCrossings_114 : decode cX6_readCrossings 114 = .ok (.imul, 1) := by decide +kernel
theorem dX6_readCrossings_115 : decode cX6_readCrossings 115 = .ok (.iload_n 3, 1) := by decide +kernel
theorem dX6_readCrossings_116 : decode cX6_readCrossings 116 = .ok (.iadd, 1) := by decide +kernel
theorem dX6_readCrossings_117 : decode cX6_readCrossings 117 = .ok (.aload_n 0, 1) := by decide +kernel
theorem dX6_readCrossings_118 : decode cX6_readCrossings 118 = .ok (.iload_n 1, 1) := by decide +kernel
theorem dX6_readCrossings_119 : decode cX6_readCrossings 119 = .ok (.iload_n 2, 1) := by decide +kernel
theorem dX6_readCrossings_120 : decode cX6_readCrossings 120 = .ok (.invokevirtual 72, 3) := by decide +kernel
theorem dX6_readCrossings_123 : decode cX6_readCrossings 123 = .ok (.invokevirtual 65, 3) := by decide +kernel
theorem dX6_readCrossings_126 : decode cX6_readCrossings 126 = .ok (.aload_n 0, 1) := by decide +kernel
theorem dX6_readCrossings_127 : decode cX6_readCrossings 127 = .ok (.getfield 26, 3) := by decide +kernel
theorem dX6_readCrossings_130 : decode cX6_readCrossings 130 = .ok (.iload_n 3, 1) := by decide +kernel
theorem dX6_readCrossings_131 : decode cX6_readCrossings 131 = .ok (.bipush 8, 2) := by decide +kernel
theorem dX6_readCrossings_133 : decode cX6_readCrossings 133 = .ok (.imul, 1) := by decide +kernel
theorem dX6_readCrossings_134 : decode cX6_readCrossings 134 = .ok (.iload_n 2, 1) := by decide +kernel
theorem dX6_readCrossings_135 : decode cX6_readCrossings 135 = .ok (.iadd, 1) := by decide +kernel
theorem dX6_readCrossings_136 : decode cX6_readCrossings 136 = .ok (.aload_n 0, 1) := by decide +kernel
theorem dX6_readCrossings_137 : decode cX6_readCrossings 137 = .ok (.iload_n 1, 1) := by decide +kernel
theorem dX6_readCrossings_138 : decode cX6_readCrossings 138 = .ok (.iload_n 3, 1) := by decide +kernel
theorem dX6_readCrossings_139 : decode cX6_readCrossings 139 = .ok (.invokevirtual 72, 3) := by decide +kernel
theorem dX6_readCrossings_142 : decode cX6_readCrossings 142 = .ok (.invokevirtual 65, 3) := by decide +kernel
theorem dX6_readCrossings_145 : decode cX6_readCrossings 145 = .ok (.iinc 1 1, 3) := by decide +kernel
theorem dX6_readCrossings_148 : decode cX6_readCrossings 148 = .ok (.goto (-125), 3) := by decide +kernel
theorem dX6_readCrossings_151 : decode cX6_readCrossings 151 = .ok (.return_, 1) := by decide +kernel
theorem dX6_isDown_0 : decode cX6_isDown 0 = .ok (.iload_n 1, 1) := by decide +kernel
theorem dX6_isDown_1 : decode cX6_isDown 1 = .ok (.aload_n 0, 1) := by decide +kernel
theorem dX6_isDown_2 : decode cX6_isDown 2 = .ok (.getfield 46, 3) := by decide +kernel
theorem dX6_isDown_5 : decode cX6_isDown 5 = .ok (.if_icmp .lt 7, 3) := by decide +kernel
theorem dX6_isDown_8 : decode cX6_isDown 8 = .ok (.iconst 1, 1) := by decide +kernel
theorem dX6_isDown_9 : decode cX6_isDown 9 = .ok (.goto 4, 3) := by decide +kernel
theorem dX6_isDown_12 : decode cX6_isDown 12 = .ok (.iconst 0, 1) := by decide +kernel
theorem dX6_isDown_13 : decode cX6_isDown 13 = .ok (.ireturn, 1) := by decide +kernel
theorem dX6_cellAt_0 : decode cX6_cellAt 0 = .ok (.aload_n 0, 1) := by decide +kernel
theorem dX6_cellAt_1 : decode cX6_cellAt 1 = .ok (.getfield 14, 3) := by decide +kernel
theorem dX6_cellAt_4 : decode cX6_cellAt 4 = .ok (.iload_n 1, 1) := by decide +kernel
theorem dX6_cellAt_5 : decode cX6_cellAt 5 = .ok (.invokevirtual 57, 3) := by decide +kernel
theorem dX6_cellAt_8 : decode cX6_cellAt 8 = .ok (.iload_n 2, 1) := by decide +kernel
theorem dX6_cellAt_9 : decode cX6_cellAt 9 = .ok (.aload_n 0, 1) := by decide +kernel
theorem dX6_cellAt_10 : decode cX6_cellAt 10 = .ok (.iload_n 1, 1) := by decide +kernel
theorem dX6_cellAt_11 : decode cX6_cellAt 11 = .ok (.invokevirtual 76, 3) := by decide +kernel
theorem dX6_cellAt_14 : decode cX6_cellAt 14 = .ok (.ifCond .eq 7, 3) := by decide +kernel
theorem dX6_cellAt_17 : decode cX6_cellAt 17 = .ok (.iconst 4, 1) := by decide +kernel
theorem dX6_cellAt_18 : decode cX6_cellAt 18 = .ok (.goto 4, 3) := by decide +kernel
theorem dX6_cellAt_21 : decode cX6_cellAt 21 = .ok (.iconst 1, 1) := by decide +kernel
theorem dX6_cellAt_22 : decode cX6_cellAt 22 = .ok (.imul, 1) := by decide +kernel
theorem dX6_cellAt_23 : decode cX6_cellAt 23 = .ok (.iadd, 1) := by decide +kernel
theorem dX6_cellAt_24 : decode cX6_cellAt 24 = .ok (.ireturn, 1) := by decide +kernel
theorem dX6_placeOf_0 : decode cX6_placeOf 0 = .ok (.iload_n 1, 1) := by decide +kernel
theorem dX6_placeOf_1 : decode cX6_placeOf 1 = .ok (.aload_n 0, 1) := by decide +kernel
theorem dX6_placeOf_2 : decode cX6_placeOf 2 = .ok (.getfield 14, 3) := by decide +kernel
theorem dX6_placeOf_5 : decode cX6_placeOf 5 = .ok (.iload_n 2, 1) := by decide +kernel
theorem dX6_placeOf_6 : decode cX6_placeOf 6 = .ok (.invokevirtual 57, 3) := by decide +kernel
theorem dX6_placeOf_9 : decode cX6_placeOf 9 = .ok (.isub, 1) := by decide +kernel
theorem dX6_placeOf_10 : decode cX6_placeOf 10 = .ok (.istore_n 3, 1) := by decide +kernel
theorem dX6_placeOf_11 : decode cX6_placeOf 11 = .ok (.aload_n 0, 1) := by decide +kernel
theorem dX6_placeOf_12 : decode cX6_placeOf 12 = .ok (.iload_n 2, 1) := by decide +kernel
theorem dX6_placeOf_13 : decode cX6_placeOf 13 = .ok (.invokevirtual 76, 3) := by decide +kernel
theorem dX6_placeOf_16 : decode cX6_placeOf 16 = .ok (.ifCond .eq 9, 3) := by decide +kernel
theorem dX6_placeOf_19 : decode cX6_placeOf 19 = .ok (.iload_n 3, 1) := by decide +kernel
theorem dX6_placeOf_20 : decode cX6_placeOf 20 = .ok (.iconst 4, 1) := by decide +kernel
theorem dX6_placeOf_21 : decode cX6_placeOf 21 = .ok (.idiv, 1) := by decide +kernel
theorem dX6_placeOf_22 : decode cX6_placeOf 22 = .ok (.goto 4, 3) := by decide +kernel
theorem dX6_placeOf_25 : decode cX6_placeOf 25 = .ok (.iload_n 3, 1) := by decide +kernel
theorem dX6_placeOf_26 : decode cX6_placeOf 26 = .ok (.ireturn, 1) := by decide +kernel
theorem dX6_codeIn_0 : decode cX6_codeIn 0 = .ok (.iconst 0, 1) := by decide +kernel
theorem dX6_codeIn_1 : decode cX6_codeIn 1 = .ok (.istore_n 3, 1) := by decide +kernel
theorem dX6_codeIn_2 : decode cX6_codeIn 2 = .ok (.iconst 0, 1) := by decide +kernel
theorem dX6_codeIn_3 : decode cX6_codeIn 3 = .ok (.istore 4, 2) := by decide +kernel
theorem dX6_codeIn_5 : decode cX6_codeIn 5 = .ok (.iload 4, 2) := by decide +kernel
theorem dX6_codeIn_7 : decode cX6_codeIn 7 = .ok (.aload_n 0, 1) := by decide +kernel
theorem dX6_codeIn_8 : decode cX6_codeIn 8 = .ok (.getfield 20, 3) := by decide +kernel
theorem dX6_codeIn_11 : decode cX6_codeIn 11 = .ok (.iload_n 1, 1) := by decide +kernel
theorem dX6_codeIn_12 : decode cX6_codeIn 12 = .ok (.invokevirtual 57, 3) := by decide +kernel
theorem dX6_codeIn_15 : decode cX6_codeIn 15 = .ok (.if_icmp .ge 47, 3) := by decide +kernel
theorem dX6_codeIn_18 : decode cX6_codeIn 18 = .ok (.aload_n 2, 1) := by decide +kernel
theorem dX6_codeIn_19 : decode cX6_codeIn 19 = .ok (.getfield 52, 3) := by decide +kernel
theorem dX6_codeIn_22 : decode cX6_codeIn 22 = .ok (.aload_n 0, 1) := by decide +kernel
theorem dX6_codeIn_23 : decode cX6_codeIn 23 = .ok (.iload_n 1, 1) := by decide +kernel
theorem dX6_codeIn_24 : decode cX6_codeIn 24 = .ok (.iload 4, 2) := by decide +kernel
theorem dX6_codeIn_26 : decode cX6_codeIn 26 = .ok (.invokevirtual 80, 3) := by decide +kernel
theorem dX6_codeIn_29 : decode cX6_codeIn 29 = .ok (.invokevirtual 57, 3) := by decide +kernel
theorem dX6_codeIn_32 : decode cX6_codeIn 32 = .ok (.istore 5, 2) := by decide +kernel
theorem dX6_codeIn_34 : decode cX6_codeIn 34 = .ok (.iload 5, 2) := by decide +kernel
theorem dX6_codeIn_36 : decode cX6_codeIn 36 = .ok (.bipush 97, 2) := by decide +kernel
theorem dX6_codeIn_38 : decode cX6_codeIn 38 = .ok (.if_icmp .ge 5, 3) := by decide +kernel
theorem dX6_codeIn_41 : decode cX6_codeIn 41 = .ok (.iconst 0, 1) := by decide +kernel
theorem dX6_codeIn_42 : decode cX6_codeIn 42 = .ok (.ireturn, 1) := by decide +kernel
theorem dX6_codeIn_43 : decode cX6_codeIn 43 = .ok (.iload_n 3, 1) := by decide +kernel
theorem dX6_codeIn_44 : decode cX6_codeIn 44 = .ok (.bipush 7, 2) := by decide +kernel
theorem dX6_codeIn_46 : decode cX6_codeIn 46 = .ok (.imul, 1) := by decide +kernel
theorem dX6_codeIn_47 : decode cX6_codeIn 47 = .ok (.iload 5, 2) := by decide +kernel
theorem dX6_codeIn_49 : decode cX6_codeIn 49 = .ok (.iadd, 1) := by decide +kernel
theorem dX6_codeIn_50 : decode cX6_codeIn 50 = .ok (.bipush 97, 2) := by decide +kernel
theorem dX6_codeIn_52 : decode cX6_codeIn 52 = .ok (.isub, 1) := by decide +kernel
theorem dX6_codeIn_53 : decode cX6_codeIn 53 = .ok (.iconst 1, 1) := by decide +kernel
theorem dX6_codeIn_54 : decode cX6_codeIn 54 = .ok (.iadd, 1) := by decide +kernel
theorem dX6_codeIn_55 : decode cX6_codeIn 55 = .ok (.istore_n 3, 1) := by decide +kernel
theorem dX6_codeIn_56 : decode cX6_codeIn 56 = .ok (.iinc 4 1, 3) := by decide +kernel
theorem dX6_codeIn_59 : decode cX6_codeIn 59 = .ok (.goto (-54), 3) := by decide +kernel
theorem dX6_codeIn_62 : decode cX6_codeIn 62 = .ok (.iload_n 3, 1) := by decide +kernel
theorem dX6_codeIn_63 : decode cX6_codeIn 63 = .ok (.ireturn, 1) := by decide +kernel
theorem dX7_init_0 : decode cX7_init 0 = .ok (.aload_n 0, 1) := by decide +kernel
theorem dX7_init_1 : decode cX7_init 1 = .ok (.invokespecial 1, 3) := by decide +kernel
theorem dX7_init_4 : decode cX7_init 4 = .ok (.aload_n 0, 1) := by decide +kernel
theorem dX7_init_5 : decode cX7_init 5 = .ok (.new 7, 3) := by decide +kernel
theorem dX7_init_8 : decode cX7_init 8 = .ok (.dup, 1) := by decide +kernel
theorem dX7_init_9 : decode cX7_init 9 = .ok (.invokespecial 9, 3) := by decide +kernel
theorem dX7_init_12 : decode cX7_init 12 = .ok (.putfield 10, 3) := by decide +kernel
theorem dX7_init_15 : decode cX7_init 15 = .ok (.aload_n 0, 1) := by decide +kernel
theorem dX7_init_16 : decode cX7_init 16 = .ok (.new 16, 3) := by decide +kernel
theorem dX7_init_19 : decode cX7_init 19 = .ok (.dup, 1) := by decide +kernel
theorem dX7_init_20 : decode cX7_init 20 = .ok (.invokespecial 18, 3) := by decide +kernel
theorem dX7_init_23 : decode cX7_init 23 = .ok (.putfield 19, 3) := by decide +kernel
theorem dX7_init_26 : decode cX7_init 26 = .ok (.aload_n 0, 1) := by decide +kernel
theorem dX7_init_27 : decode cX7_init 27 = .ok (.new 23, 3) := by decide +kernel
theorem dX7_init_30 : decode cX7_init 30 = .ok (.dup, 1) := by decide +kernel
theorem dX7_init_31 : decode cX7_init 31 = .ok (.invokespecial 25, 3) := by decide +kernel
theorem dX7_init_34 : decode cX7_init 34 = .ok (.putfield 26, 3) := by decide +kernel
theorem dX7_init_37 : decode cX7_init 37 = .ok (.aload_n 0, 1) := by decide +kernel
theorem dX7_init_38 : decode cX7_init 38 = .ok (.new 30, 3) := by decide +kernel
theorem dX7_init_41 : decode cX7_init 41 = .ok (.dup, 1) := by decide +kernel
theorem dX7_init_42 : decode cX7_init 42 = .ok (.aload_n 0, 1) := by decide +kernel
theorem dX7_init_43 : decode cX7_init 43 = .ok (.getfield 19, 3) := by decide +kernel
theorem dX7_init_46 : decode cX7_init 46 = .ok (.aload_n 0, 1) := by decide +kernel
theorem dX7_init_47 : decode cX7_init 47 = .ok (.getfield 26, 3) := by decide +kernel
theorem dX7_init_50 : decode cX7_init 50 = .ok (.invokespecial 32, 3) := by decide +kernel
theorem dX7_init_53 : decode cX7_init 53 = .ok (.putfield 35, 3) := by decide +kernel
theorem dX7_init_56 : decode cX7_init 56 = .ok (.aload_n 0, 1) := by decide +kernel
theorem dX7_init_57 : decode cX7_init 57 = .ok (.new 39, 3) := by decide +kernel
theorem dX7_init_60 : decode cX7_init 60 = .ok (.dup, 1) := by decide +kernel
theorem dX7_init_61 : decode cX7_init 61 = .ok (.aload_n 0, 1) := by decide +kernel
theorem dX7_init_62 : decode cX7_init 62 = .ok (.getfield 19, 3) := by decide +kernel
theorem dX7_init_65 : decode cX7_init 65 = .ok (.aload_n 0, 1) := by decide +kernel
theorem dX7_init_66 : decode cX7_init 66 = .ok (.getfield 35, 3) := by decide +kernel
theorem dX7_init_69 : decode cX7_init 69 = .ok (.invokespecial 41, 3) := by decide +kernel
theorem dX7_init_72 : decode cX7_init 72 = .ok (.putfield 44, 3) := by decide +kernel
theorem dX7_init_75 : decode cX7_init 75 = .ok (.aload_n 0, 1) := by decide +kernel
theorem dX7_init_76 : decode cX7_init 76 = .ok (.new 48, 3) := by decide +kernel
theorem dX7_init_79 : decode cX7_init 79 = .ok (.dup, 1) := by decide +kernel
theorem dX7_init_80 : decode cX7_init 80 = .ok (.invokespecial 50, 3) := by decide +kernel
theorem dX7_init_83 : decode cX7_init 83 = .ok (.putfield 51, 3) := by decide +kernel
theorem dX7_init_86 : decode cX7_init 86 = .ok (.aload_n 0, 1) := by decide +kernel
theorem dX7_init_87 : decode cX7_init 87 = .ok (.invokevirtual 55, 3) := by decide +kernel
theorem dX7_init_90 : decode cX7_init 90 = .ok (.return_, 1) := by decide +kernel
theorem dX7_block_0 : decode cX7_block 0 = .ok (.iload_n 1, 1) := by decide +kernel
theorem dX7_block_1 : decode cX7_block 1 = .ok (.invokestatic 58, 3) := by decide +kernel
theorem dX7_block_4 : decode cX7_block 4 = .ok (.ifCond .ne 6, 3) := by decide +kernel
theorem dX7_block_7 : decode cX7_block 7 = .ok (.ldc 62, 2) := by decide +kernel
theorem dX7_block_9 : decode cX7_block 9 = .ok (.ireturn, 1) := by decide +kernel
theorem dX7_block_10 : decode cX7_block 10 = .ok (.aload_n 0, 1) := by decide +kernel
theorem dX7_block_11 : decode cX7_block 11 = .ok (.getfield 10, 3) := by decide +kernel
theorem dX7_block_14 : decode cX7_block 14 = .ok (.getfield 63, 3) := by decide +kernel
theorem dX7_block_17 : decode cX7_block 17 = .ok (.iload_n 1, 1) := by decide +kernel
theorem dX7_block_18 : decode cX7_block 18 = .ok (.invokevirtual 67, 3) := by decide +kernel
theorem dX7_block_21 : decode cX7_block 21 = .ok (.iconst (-1), 1) := by decide +kernel
theorem dX7_block_22 : decode cX7_block 22 = .ok (.if_icmp .ne 6, 3) := by decide +kernel
theorem dX7_block_25 : decode cX7_block 25 = .ok (.ldc 73, 2) := by decide +kernel
theorem dX7_block_27 : decode cX7_block 27 = .ok (.ireturn, 1) := by decide +kernel
theorem dX7_block_28 : decode cX7_block 28 = .ok (.aload_n 0, 1) := by decide +kernel
theorem dX7_block_29 : decode cX7_block 29 = .ok (.getfield 51, 3) := by decide +kernel
theorem dX7_block_32 : decode cX7_block 32 = .ok (.aload_n 0, 1) := by decide +kernel
theorem dX7_block_33 : decode cX7_block 33 = .ok (.getfield 10, 3) := by decide +kernel
theorem dX7_block_36 : decode cX7_block 36 = .ok (.invokevirtual 74, 3) := by decide +kernel
theorem dX7_block_39 : decode cX7_block 39 = .ok (.aload_n 0, 1) := by decide +kernel
theorem dX7_block_40 : decode cX7_block 40 = .ok (.getfield 10, 3) := by decide +kernel
theorem dX7_block_43 : decode cX7_block 43 = .ok (.getfield 63, 3) := by decide +kernel
theorem dX7_block_46 : decode cX7_block 46 = .ok (.iload_n 1, 1) := by decide +kernel
theorem dX7_block_47 : decode cX7_block 47 = .ok (.iconst (-1), 1) := by decide +kernel
theorem dX7_block_48 : decode cX7_block 48 = .ok (.invokevirtual 78, 3) := by decide +kernel
theorem dX7_block_51 : decode cX7_block 51 = .ok (.aload_n 0, 1) := by decide +kernel
theorem dX7_block_52 : decode cX7_block 52 = .ok (.invokevirtual 55, 3) := by decide +kernel
theorem dX7_block_55 : decode cX7_block 55 = .ok (.aload_n 0, 1) := by decide +kernel
theorem dX7_block_56 : decode cX7_block 56 = .ok (.getfield 19, 3) := by decide +kernel
theorem dX7_block_59 : decode cX7_block 59 = .ok (.getfield 82, 3) := by decide +kernel
theorem dX7_block_62 : decode cX7_block 62 = .ok (.ireturn, 1) := by decide +kernel
theorem dX7_open_0 : decode cX7_open 0 = .ok (.iload_n 1, 1) := by decide +kernel
theorem dX7_open_1 : decode cX7_open 1 = .ok (.invokestatic 58, 3) := by decide +kernel
theorem dX7_open_4 : decode cX7_open 4 = .ok (.ifCond .ne 6, 3) := by decide +kernel
theorem dX7_open_7 : decode cX7_open 7 = .ok (.ldc 62, 2) := by decide +kernel
theorem dX7_open_9 : decode cX7_open 9 = .ok (.ireturn, 1) := by decide +kernel
theorem dX7_open_10 : decode cX7_open 10 = .ok (.aload_n 0, 1) := by decide +kernel
theorem dX7_open_11 : decode cX7_open 11 = .ok (.getfield 10, 3) := by decide +kernel
theorem dX7_open_14 : decode cX7_open 14 = .ok (.getfield 63, 3) := by decide +kernel
theorem dX7_open_17 : decode cX7_open 17 = .ok (.iload_n 1, 1) := by decide +kernel
theorem dX7_open_18 : decode cX7_open 18 = .ok (.invokevirtual 67, 3) := by decide +kernel
theorem dX7_open_21 : decode cX7_open 21 = .ok (.iconst (-1), 1) := by decide +kernel
theorem dX7_open_22 : decode cX7_open 22 = .ok (.if_icmp .eq 6, 3) := by decide +kernel
theorem dX7_open_25 : decode cX7_open 25 = .ok (.ldc 73, 2) := by decide +kernel
theorem dX7_open_27 : decode cX7_open 27 = .ok (.ireturn, 1) := by decide +kernel
theorem dX7_open_28 : decode cX7_open 28 = .ok (.aload_n 0, 1) := by decide +kernel
theorem dX7_open_29 : decode cX7_open 29 = .ok (.getfield 51, 3) := by decide +kernel
theorem dX7_open_32 : decode cX7_open 32 = .ok (.aload_n 0, 1) := by decide +kernel
theorem dX7_open_33 : decode cX7_open 33 = .ok (.getfield 10, 3) := by decide +kernel
theorem dX7_open_36 : decode cX7_open 36 = .ok (.invokevirtual 74, 3) := by decide +kernel
theorem dX7_open_39 : decode cX7_open 39 = .ok (.aload_n 0, 1) := by decide +kernel
theorem dX7_open_40 : decode cX7_open 40 = .ok (.getfield 10, 3) := by decide +kernel
theorem dX7_open_43 : decode cX7_open 43 = .ok (.getfield 63, 3) := by decide +kernel
theorem dX7_open_46 : decode cX7_open 46 = .ok (.iload_n 1, 1) := by decide +kernel
theorem dX7_open_47 : decode cX7_open 47 = .ok (.iconst 0, 1) := by decide +kernel
theorem dX7_open_48 : decode cX7_open 48 = .ok (.invokevirtual 78, 3) := by decide +kernel
theorem dX7_open_51 : decode cX7_open 51 = .ok (.aload_n 0, 1) := by decide +kernel
theorem dX7_open_52 : decode cX7_open 52 = .ok (.invokevirtual 55, 3) := by decide +kernel
theorem dX7_open_55 : decode cX7_open 55 = .ok (.aload_n 0, 1) := by decide +kernel
theorem dX7_open_56 : decode cX7_open 56 = .ok (.getfield 19, 3) := by decide +kernel
theorem dX7_open_59 : decode cX7_open 59 = .ok (.getfield 82, 3) := by decide +kernel
theorem dX7_open_62 : decode cX7_open 62 = .ok (.ireturn, 1) := by decide +kernel
theorem dX7_letter_0 : decode cX7_letter 0 = .ok (.iload_n 1, 1) := by decide +kernel
theorem dX7_letter_1 : decode cX7_letter 1 = .ok (.invokestatic 58, 3) := by decide +kernel
theorem dX7_letter_4 : decode cX7_letter 4 = .ok (.ifCond .ne 6, 3) := by decide +kernel
theorem dX7_letter_7 : decode cX7_letter 7 = .ok (.ldc 62, 2) := by decide +kernel
theorem dX7_letter_9 : decode cX7_letter 9 = .ok (.ireturn, 1) := by decide +kernel
theorem dX7_letter_10 : decode cX7_letter 10 = .ok (.iload_n 2, 1) := by decide +kernel
theorem dX7_letter_11 : decode cX7_letter 11 = .ok (.iconst (-1), 1) := by decide +kernel
theorem dX7_letter_12 : decode cX7_letter 12 = .ok (.if_icmp .eq 13, 3) := by decide +kernel
theorem dX7_letter_15 : decode cX7_letter 15 = .ok (.iload_n 2, 1) := by decide +kernel
theorem dX7_letter_16 : decode cX7_letter 16 = .ok (.invokestatic 86, 3) := by decide +kernel
theorem dX7_letter_19 : decode cX7_letter 19 = .ok (.ifCond .ne 6, 3) := by decide +kernel
theorem dX7_letter_22 : decode cX7_letter 22 = .ok (.ldc 89, 2) := by decide +kernel
theorem dX7_letter_24 : decode cX7_letter 24 = .ok (.ireturn, 1) := by decide +kernel
theorem dX7_letter_25 : decode cX7_letter 25 = .ok (.iload_n 2, 1) := by decide +kernel
theorem dX7_letter_26 : decode cX7_letter 26 = .ok (.iconst (-1), 1) := by decide +kernel
theorem dX7_letter_27 : decode cX7_letter 27 = .ok (.if_icmp .ne 7, 3) := by decide +kernel
theorem dX7_letter_30 : decode cX7_letter 30 = .ok (.iconst 0, 1) := by decide +kernel
theorem dX7_letter_31 : decode cX7_letter 31 = .ok (.goto 4, 3) := by decide +kernel
theorem dX7_letter_34 : decode cX7_letter 34 = .ok (.iload_n 2, 1) := by decide +kernel
theorem dX7_letter_35 : decode cX7_letter 35 = .ok (.istore_n 3, 1) := by decide +kernel
theorem dX7_letter_36 : decode cX7_letter 36 = .ok (.aload_n 0, 1) := by decide +kernel
theorem dX7_letter_37 : decode cX7_letter 37 = .ok (.getfield 10, 3) := by decide +kernel
theorem dX7_letter_40 : decode cX7_letter 40 = .ok (.getfield 63, 3) := by decide +kernel
theorem dX7_letter_43 : decode cX7_letter 43 = .ok (.iload_n 1, 1) := by decide +kernel
theorem dX7_letter_44 : decode cX7_letter 44 = .ok (.invokevirtual 67, 3) := by decide +kernel
theorem dX7_letter_47 : decode cX7_letter 47 = .ok (.istore 4, 2) := by decide +kernel
theorem dX7_letter_49 : decode cX7_letter 49 = .ok (.iload 4, 2) := by decide +kernel
theorem dX7_letter_51 : decode cX7_letter 51 = .ok (.iconst (-1), 1) := by decide +kernel
theorem dX7_letter_52 : decode cX7_letter 52 = .ok (.if_icmp .eq 9, 3) := by decide +kernel
theorem dX7_letter_55 : decode cX7_letter 55 = .ok (.iload 4, 2) := by decide +kernel
theorem dX7_letter_57 : decode cX7_letter 57 = .ok (.iload_n 3, 1) := by decide +kernel
theorem dX7_letter_58 : decode cX7_letter 58 = .ok (.if_icmp .ne 6, 3) := by decide +kernel
theorem dX7_letter_61 : decode cX7_letter 61 = .ok (.ldc 73, 2) := by decide +kernel
theorem dX7_letter_63 : decode cX7_letter 63 = .ok (.ireturn, 1) := by decide +kernel
theorem dX7_letter_64 : decode cX7_letter 64 = .ok (.aload_n 0, 1) := by decide +kernel
theorem dX7_letter_65 : decode cX7_letter 65 = .ok (.getfield 51, 3) := by decide +kernel
theorem dX7_letter_68 : decode cX7_letter 68 = .ok (.aload_n 0, 1) := by decide +kernel
theorem dX7_letter_69 : decode cX7_letter 69 = .ok (.getfield 10, 3) := by decide +kernel
theorem dX7_letter_72 : decode cX7_letter 72 = .ok (.invokevirtual 74, 3) := by decide +kernel
theorem dX7_letter_75 : decode cX7_letter 75 = .ok (.aload_n 0, 1) := by decide +kernel
theorem dX7_letter_76 : decode cX7_letter 76 = .ok (.getfield 10, 3) := by decide +kernel
theorem dX7_letter_79 : decode cX7_letter 79 = .ok (.getfield 63, 3) := by decide +kernel
theorem dX7_letter_82 : decode cX7_letter 82 = .ok (.iload_n 1, 1) := by decide +kernel
theorem dX7_letter_83 : decode cX7_letter 83 = .ok (.iload_n 3, 1) := by decide +kernel
theorem dX7_letter_84 : decode cX7_letter 84 = .ok (.invokevirtual 78, 3) := by decide +kernel
theorem dX7_letter_87 : decode cX7_letter 87 = .ok (.aload_n 0, 1) := by decide +kernel
theorem dX7_letter_88 : decode cX7_letter 88 = .ok (.invokevirtual 55, 3) := by decide +kernel
theorem dX7_letter_91 : decode cX7_letter 91 = .ok (.iload 4, 2) := by decide +kernel
theorem dX7_letter_93 : decode cX7_letter 93 = .ok (.ifCond .ne 7, 3) := by decide +kernel
theorem dX7_letter_96 : decode cX7_letter 96 = .ok (.iconst (-1), 1) := by decide +kernel
theorem dX7_letter_97 : decode cX7_letter 97 = .ok (.goto 5, 3) := by decide +kernel
theorem dX7_letter_100 : decode cX7_letter 100 = .ok (.iload 4, 2) := by decide +kernel
theorem dX7_letter_102 : decode cX7_letter 102 = .ok (.ireturn, 1) := by decide +kernel
theorem dX7_put_0 : decode cX7_put 0 = .ok (.aload_n 0, 1) := by decide +kernel
theorem dX7_put_1 : decode cX7_put 1 = .ok (.iload_n 1, 1) := by decide +kernel
theorem dX7_put_2 : decode cX7_put 2 = .ok (.invokevirtual 90, 3) := by decide +kernel
theorem dX7_put_5 : decode cX7_put 5 = .ok (.ifCond .eq 11, 3) := by decide +kernel
theorem dX7_put_8 : decode cX7_put 8 = .ok (.aload_n 0, 1) := by decide +kernel
theorem dX7_put_9 : decode cX7_put 9 = .ok (.iload_n 2, 1) := by decide +kernel
theorem dX7_put_10 : decode cX7_put 10 = .ok (.invokevirtual 93, 3) := by decide +kernel
theorem dX7_put_13 : decode cX7_put 13 = .ok (.ifCond .ne 6, 3) := by decide +kernel
theorem dX7_put_16 : decode cX7_put 16 = .ok (.ldc 62, 2) := by decide +kernel
theorem dX7_put_18 : decode cX7_put 18 = .ok (.ireturn, 1) := by decide +kernel
theorem dX7_put_19 : decode cX7_put 19 = .ok (.aload_n 0, 1) := by decide +kernel
theorem dX7_put_20 : decode cX7_put 20 = .ok (.getfield 26, 3) := by decide +kernel
theorem dX7_put_23 : decode cX7_put 23 = .ok (.getfield 96, 3) := by decide +kernel
theorem dX7_put_26 : decode cX7_put 26 = .ok (.aload_n 0, 1) := by decide +kernel
theorem dX7_put_27 : decode cX7_put 27 = .ok (.getfield 19, 3) := by decide +kernel
theorem dX7_put_30 : decode cX7_put 30 = .ok (.getfield 99, 3) := by decide +kernel
theorem dX7_put_33 : decode cX7_put 33 = .ok (.iload_n 1, 1) := by decide +kernel
theorem dX7_put_34 : decode cX7_put 34 = .ok (.invokevirtual 67, 3) := by decide +kernel
theorem dX7_put_37 : decode cX7_put 37 = .ok (.invokevirtual 67, 3) := by decide +kernel
theorem dX7_put_40 : decode cX7_put 40 = .ok (.iload_n 2, 1) := by decide +kernel
theorem dX7_put_41 : decode cX7_put 41 = .ok (.invokestatic 102, 3) := by decide +kernel
theorem dX7_put_44 : decode cX7_put 44 = .ok (.ifCond .ne 6, 3) := by decide +kernel
theorem dX7_put_47 : decode cX7_put 47 = .ok (.ldc 73, 2) := by decide +kernel
theorem dX7_put_49 : decode cX7_put 49 = .ok (.ireturn, 1) := by decide +kernel
theorem dX7_put_50 : decode cX7_put 50 = .ok (.aload_n 0, 1) := by decide +kernel
theorem dX7_put_51 : decode cX7_put 51 = .ok (.getfield 51, 3) := by decide +kernel
theorem dX7_put_54 : decode cX7_put 54 = .ok (.aload_n 0, 1) := by decide +kernel
theorem dX7_put_55 : decode cX7_put 55 = .ok (.getfield 10, 3) := by decide +kernel
theorem dX7_put_58 : decode cX7_put 58 = .ok (.invokevirtual 74, 3) := by decide +kernel
theorem dX7_put_61 : decode cX7_put 61 = .ok (.aload_n 0, 1) := by decide +kernel
theorem dX7_put_62 : decode cX7_put 62 = .ok (.iload_n 1, 1) := by decide +kernel
theorem dX7_put_63 : decode cX7_put 63 = .ok (.iload_n 2, 1) := by decide +kernel
theorem dX7_put_64 : decode cX7_put 64 = .ok (.invokevirtual 106, 3) := by decide +kernel
theorem dX7_put_67 : decode cX7_put 67 = .ok (.istore_n 3, 1) := by decide +kernel
theorem dX7_put_68 : decode cX7_put 68 = .ok (.aload_n 0, 1) := by decide +kernel
theorem dX7_put_69 : decode cX7_put 69 = .ok (.invokevirtual 55, 3) := by decide +kernel
theorem dX7_put_72 : decode cX7_put 72 = .ok (.iload_n 3, 1) := by decide +kernel
theorem dX7_put_73 : decode cX7_put 73 = .ok (.ireturn, 1) := by decide +kernel
theorem dX7_wipe_0 : decode cX7_wipe 0 = .ok (.aload_n 0, 1) := by decide +kernel
theorem dX7_wipe_1 : decode cX7_wipe 1 = .ok (.getfield 51, 3) := by decide +kernel
theorem dX7_wipe_4 : decode cX7_wipe 4 = .ok (.aload_n 0, 1) := by decide +kernel
theorem dX7_wipe_5 : decode cX7_wipe 5 = .ok (.getfield 10, 3) := by decide +kernel
theorem dX7_wipe_8 : decode cX7_wipe 8 = .ok (.invokevirtual 74, 3) := by decide +kernel
theorem dX7_wipe_11 : decode cX7_wipe 11 = .ok (.aload_n 0, 1) := by decide +kernel
theorem dX7_wipe_12 : decode cX7_wipe 12 = .ok (.getfield 10, 3) := by decide +kernel
theorem dX7_wipe_15 : decode cX7_wipe 15 = .ok (.invokevirtual 110, 3) := by decide +kernel
theorem dX7_wipe_18 : decode cX7_wipe 18 = .ok (.istore_n 1, 1) := by decide +kernel
theorem dX7_wipe_19 : decode cX7_wipe 19 = .ok (.aload_n 0, 1) := by decide +kernel
theorem dX7_wipe_20 : decode cX7_wipe 20 = .ok (.invokevirtual 55, 3) := by decide +kernel
theorem dX7_wipe_23 : decode cX7_wipe 23 = .ok (.iload_n 1, 1) := by decide +kernel
theorem dX7_wipe_24 : decode cX7_wipe 24 = .ok (.ireturn, 1) := by decide +kernel
theorem dX7_turn_0 : decode cX7_turn 0 = .ok (.aload_n 0, 1) := by decide +kernel
theorem dX7_turn_1 : decode cX7_turn 1 = .ok (.getfield 51, 3) := by decide +kernel
theorem dX7_turn_4 : decode cX7_turn 4 = .ok (.aload_n 0, 1) := by decide +kernel
theorem dX7_turn_5 : decode cX7_turn 5 = .ok (.getfield 10, 3) := by decide +kernel
theorem dX7_turn_8 : decode cX7_turn 8 = .ok (.invokevirtual 74, 3) := by decide +kernel
theorem dX7_turn_11 : decode cX7_turn 11 = .ok (.aload_n 0, 1) := by decide +kernel
theorem dX7_turn_12 : decode cX7_turn 12 = .ok (.getfield 10, 3) := by decide +kernel
theorem dX7_turn_15 : decode cX7_turn 15 = .ok (.invokevirtual 114, 3) := by decide +kernel
theorem dX7_turn_18 : decode cX7_turn 18 = .ok (.aload_n 0, 1) := by decide +kernel
theorem dX7_turn_19 : decode cX7_turn 19 = .ok (.invokevirtual 55, 3) := by decide +kernel
theorem dX7_turn_22 : decode cX7_turn 22 = .ok (.aload_n 0, 1) := by decide +kernel
theorem dX7_turn_23 : decode cX7_turn 23 = .ok (.getfield 19, 3) := by decide +kernel
theorem dX7_turn_26 : decode cX7_turn 26 = .ok (.getfield 82, 3) := by decide +kernel
theorem dX7_turn_29 : decode cX7_turn 29 = .ok (.ireturn, 1) := by decide +kernel
theorem dX7_add_0 : decode cX7_add 0 = .ok (.iload_n 1, 1) := by decide +kernel
theorem dX7_add_1 : decode cX7_add 1 = .ok (.invokestatic 117, 3) := by decide +kernel
theorem dX7_add_4 : decode cX7_add 4 = .ok (.ifCond .ne 6, 3) := by decide +kernel
theorem dX7_add_7 : decode cX7_add 7 = .ok (.ldc 89, 2) := by decide +kernel
theorem dX7_add_9 : decode cX7_add 9 = .ok (.ireturn, 1) := by decide +kernel
theorem dX7_add_10 : decode cX7_add 10 = .ok (.aload_n 0, 1) := by decide +kernel
theorem dX7_add_11 : decode cX7_add 11 = .ok (.getfield 10, 3) := by decide +kernel
theorem dX7_add_14 : decode cX7_add 14 = .ok (.iload_n 1, 1) := by decide +kernel
theorem dX7_add_15 : decode cX7_add 15 = .ok (.invokevirtual 120, 3) := by decide +kernel
theorem dX7_add_18 : decode cX7_add 18 = .ok (.iconst (-1), 1) := by decide +kernel
theorem dX7_add_19 : decode cX7_add 19 = .ok (.if_icmp .eq 6, 3) := by decide +kernel
theorem dX7_add_22 : decode cX7_add 22 = .ok (.ldc 73, 2) := by decide +kernel
theorem dX7_add_24 : decode cX7_add 24 = .ok (.ireturn, 1) := by decide +kernel
theorem dX7_add_25 : decode cX7_add 25 = .ok (.aload_n 0, 1) := by decide +kernel
theorem dX7_add_26 : decode cX7_add 26 = .ok (.getfield 10, 3) := by decide +kernel
theorem dX7_add_29 : decode cX7_add 29 = .ok (.getfield 123, 3) := by decide +kernel
theorem dX7_add_32 : decode cX7_add 32 = .ok (.bipush 16, 2) := by decide +kernel
theorem dX7_add_34 : decode cX7_add 34 = .ok (.if_icmp .lt 6, 3) := by decide +kernel
theorem dX7_add_37 : decode cX7_add 37 = .ok (.ldc 126, 2) := by decide +kernel
theorem dX7_add_39 : decode cX7_add 39 = .ok (.ireturn, 1) := by decide +kernel
theorem dX7_add_40 : decode cX7_add 40 = .ok (.aload_n 0, 1) := by decide +kernel
theorem dX7_add_41 : decode cX7_add 41 = .ok (.getfield 51, 3) := by decide +kernel
theorem dX7_add_44 : decode cX7_add 44 = .ok (.aload_n 0, 1) := by decide +kernel
theorem dX7_add_45 : decode cX7_add 45 = .ok (.getfield 10, 3) := by decide +kernel
theorem dX7_add_48 : decode cX7_add 48 = .ok (.invokevirtual 74, 3) := by decide +kernel
theorem dX7_add_51 : decode cX7_add 51 = .ok (.aload_n 0, 1) := by decide +kernel
theorem dX7_add_52 : decode cX7_add 52 = .ok (.getfield 10, 3) := by decide +kernel
theorem dX7_add_55 : decode cX7_add 55 = .ok (.iload_n 1, 1) := by decide +kernel
theorem dX7_add_56 : decode cX7_add 56 = .ok (.invokevirtual 127, 3) := by decide +kernel
theorem dX7_add_59 : decode cX7_add 59 = .ok (.aload_n 0, 1) := by decide +kernel
theorem dX7_add_60 : decode cX7_add 60 = .ok (.invokevirtual 55, 3) := by decide +kernel
theorem dX7_add_63 : decode cX7_add 63 = .ok (.aload_n 0, 1) := by decide +kernel
theorem dX7_add_64 : decode cX7_add 64 = .ok (.getfield 10, 3) := by decide +kernel
theorem dX7_add_67 : decode cX7_add 67 = .ok (.getfield 123, 3) := by decide +kernel
theorem dX7_add_70 : decode cX7_add 70 = .ok (.iconst 1, 1) := by decide +kernel
theorem dX7_add_71 : decode cX7_add 71 = .ok (.isub, 1) := by decide +kernel
theorem dX7_add_72 : decode cX7_add 72 = .ok (.ireturn, 1) := by decide +kernel
theorem dX7_strike_0 : decode cX7_strike 0 = .ok (.aload_n 0, 1) := by decide +kernel
theorem dX7_strike_1 : decode cX7_strike 1 = .ok (.iload_n 1, 1) := by decide +kernel
theorem dX7_strike_2 : decode cX7_strike 2 = .ok (.invokevirtual 93, 3) := by decide +kernel
theorem dX7_strike_5 : decode cX7_strike 5 = .ok (.ifCond .ne 6, 3) := by decide +kernel
theorem dX7_strike_8 : decode cX7_strike 8 = .ok (.ldc 62, 2) := by decide +kernel
theorem dX7_strike_10 : decode cX7_strike 10 = .ok (.ireturn, 1) := by decide +kernel
theorem dX7_strike_11 : decode cX7_strike 11 = .ok (.aload_n 0, 1) := by decide +kernel
theorem dX7_strike_12 : decode cX7_strike 12 = .ok (.getfield 51, 3) := by decide +kernel
theorem dX7_strike_15 : decode cX7_strike 15 = .ok (.aload_n 0, 1) := by decide +kernel
theorem dX7_strike_16 : decode cX7_strike 16 = .ok (.getfield 10, 3) := by decide +kernel
theorem dX7_strike_19 : decode cX7_strike 19 = .ok (.invokevirtual 74, 3) := by decide +kernel
theorem dX7_strike_22 : decode cX7_strike 22 = .ok (.aload_n 0, 1) := by decide +kernel
theorem dX7_strike_23 : decode cX7_strike 23 = .ok (.getfield 10, 3) := by decide +kernel
theorem dX7_strike_26 : decode cX7_strike 26 = .ok (.iload_n 1, 1) := by decide +kernel
theorem dX7_strike_27 : decode cX7_strike 27 = .ok (.invokevirtual 131, 3) := by decide +kernel
theorem dX7_strike_30 : decode cX7_strike 30 = .ok (.aload_n 0, 1) := by decide +kernel
theorem dX7_strike_31 : decode cX7_strike 31 = .ok (.invokevirtual 55, 3) := by decide +kernel
theorem dX7_strike_34 : decode cX7_strike 34 = .ok (.aload_n 0, 1) := by decide +kernel
theorem dX7_strike_35 : decode cX7_strike 35 = .ok (.getfield 10, 3) := by decide +kernel
theorem dX7_strike_38 : decode cX7_strike 38 = .ok (.getfield 123, 3) := by decide +kernel
theorem dX7_strike_41 : decode cX7_strike 41 = .ok (.ireturn, 1) := by decide +kernel
theorem dX7_drift_0 : decode cX7_drift 0 = .ok (.iload_n 1, 1) := by decide +kernel
theorem dX7_drift_1 : decode cX7_drift 1 = .ok (.iconst 1, 1) := by decide +kernel
theorem dX7_drift_2 : decode cX7_drift 2 = .ok (.if_icmp .lt 20, 3) := by decide +kernel
theorem dX7_drift_5 : decode cX7_drift 5 = .ok (.iload_n 1, 1) := by decide +kernel
theorem dX7_drift_6 : decode cX7_drift 6 = .ok (.bipush 16, 2) := by decide +kernel
theorem dX7_drift_8 : decode cX7_drift 8 = .ok (.if_icmp .gt 14, 3) := by decide +kernel
theorem dX7_drift_11 : decode cX7_drift 11 = .ok (.iload_n 2, 1) := by decide +kernel
theorem dX7_drift_12 : decode cX7_drift 12 = .ok (.iconst 1, 1) := by decide +kernel
theorem dX7_drift_13 : decode cX7_drift 13 = .ok (.if_icmp .lt 9, 3) := by decide +kernel
theorem dX7_drift_16 : decode cX7_drift 16 = .ok (.iload_n 2, 1) := by decide +kernel
theorem dX7_drift_17 : decode cX7_drift 17 = .ok (.ldc 134, 2) := by decide +kernel
theorem dX7_drift_19 : decode cX7_drift 19 = .ok (.if_icmp .le 6, 3) := by decide +kernel
theorem dX7_drift_22 : decode cX7_drift 22 = .ok (.ldc 89, 2) := by decide +kernel
theorem dX7_drift_24 : decode cX7_drift 24 = .ok (.ireturn, 1) := by decide +kernel
theorem dX7_drift_25 : decode cX7_drift 25 = .ok (.aload_n 0, 1) := by decide +kernel
theorem dX7_drift_26 : decode cX7_drift 26 = .ok (.getfield 51, 3) := by decide +kernel
theorem dX7_drift_29 : decode cX7_drift 29 = .ok (.aload_n 0, 1) := by decide +kernel
theorem dX7_drift_30 : decode cX7_drift 30 = .ok (.getfield 10, 3) := by decide +kernel
theorem dX7_drift_33 : decode cX7_drift 33 = .ok (.invokevirtual 74, 3) := by decide +kernel
theorem dX7_drift_36 : decode cX7_drift 36 = .ok (.aload_n 0, 1) := by decide +kernel
theorem dX7_drift_37 : decode cX7_drift 37 = .ok (.iload_n 1, 1) := by decide +kernel
theorem dX7_drift_38 : decode cX7_drift 38 = .ok (.iload_n 2, 1) := by decide +kernel
theorem dX7_drift_39 : decode cX7_drift 39 = .ok (.invokevirtual 135, 3) := by decide +kernel
theorem dX7_drift_42 : decode cX7_drift 42 = .ok (.istore_n 3, 1) := by decide +kernel
theorem dX7_drift_43 : decode cX7_drift 43 = .ok (.aload_n 0, 1) := by decide +kernel
theorem dX7_drift_44 : decode cX7_drift 44 = .ok (.invokevirtual 55, 3) := by decide +kernel
theorem dX7_drift_47 : decode cX7_drift 47 = .ok (.iload_n 3, 1) := by decide +kernel
theorem dX7_drift_48 : decode cX7_drift 48 = .ok (.ireturn, 1) := by decide +kernel
theorem dX7_undo_0 : decode cX7_undo 0 = .ok (.aload_n 0, 1) := by decide +kernel
theorem dX7_undo_1 : decode cX7_undo 1 = .ok (.getfield 51, 3) := by decide +kernel
theorem dX7_undo_4 : decode cX7_undo 4 = .ok (.getfield 138, 3) := by decide +kernel
theorem dX7_undo_7 : decode cX7_undo 7 = .ok (.ifCond .ne 6, 3) := by decide +kernel
theorem dX7_undo_10 : decode cX7_undo 10 = .ok (.ldc 73, 2) := by decide +kernel
theorem dX7_undo_12 : decode cX7_undo 12 = .ok (.ireturn, 1) := by decide +kernel
theorem dX7_undo_13 : decode cX7_undo 13 = .ok (.aload_n 0, 1) := by decide +kernel
theorem dX7_undo_14 : decode cX7_undo 14 = .ok (.getfield 51, 3) := by decide +kernel
theorem dX7_undo_17 : decode cX7_undo 17 = .ok (.aload_n 0, 1) := by decide +kernel
theorem dX7_undo_18 : decode cX7_undo 18 = .ok (.getfield 10, 3) := by decide +kernel
theorem dX7_undo_21 : decode cX7_undo 21 = .ok (.invokevirtual 141, 3) := by decide +kernel
theorem dX7_undo_24 : decode cX7_undo 24 = .ok (.aload_n 0, 1) := by decide +kernel
theorem dX7_undo_25 : decode cX7_undo 25 = .ok (.invokevirtual 55, 3) := by decide +kernel
theorem dX7_undo_28 : decode cX7_undo 28 = .ok (.aload_n 0, 1) := by decide +kernel
theorem dX7_undo_29 : decode cX7_undo 29 = .ok (.getfield 51, 3) := by decide +kernel
theorem dX7_undo_32 : decode cX7_undo 32 = .ok (.getfield 138, 3) := by decide +kernel
theorem dX7_undo_35 : decode cX7_undo 35 = .ok (.ireturn, 1) := by decide +kernel
theorem dX7_told_0 : decode cX7_told 0 = .ok (.iload_n 1, 1) := by decide +kernel
theorem dX7_told_1 : decode cX7_told 1 = .ok (.tableswitch 147 0 11 #[63, 71, 79, 87, 95, 103, 108, 113, 118, 129, 134, 139], 63) := by decide +kernel
theorem dX7_told_64 : decode cX7_told 64 = .ok (.aload_n 0, 1) := by decide +kernel
theorem dX7_told_65 : decode cX7_told 65 = .ok (.getfield 19, 3) := by decide +kernel
theorem dX7_told_68 : decode cX7_told 68 = .ok (.getfield 82, 3) := by decide +kernel
theorem dX7_told_71 : decode cX7_told 71 = .ok (.ireturn, 1) := by decide +kernel
theorem dX7_told_72 : decode cX7_told 72 = .ok (.aload_n 0, 1) := by decide +kernel
theorem dX7_told_73 : decode cX7_told 73 = .ok (.getfield 10, 3) := by decide +kernel
theorem dX7_told_76 : decode cX7_told 76 = .ok (.getfield 123, 3) := by decide +kernel
theorem dX7_told_79 : decode cX7_told 79 = .ok (.ireturn, 1) := by decide +kernel
theorem dX7_told_80 : decode cX7_told 80 = .ok (.aload_n 0, 1) := by decide +kernel
theorem dX7_told_81 : decode cX7_told 81 = .ok (.getfield 10, 3) := by decide +kernel
theorem dX7_told_84 : decode cX7_told 84 = .ok (.invokevirtual 144, 3) := by decide +kernel
theorem dX7_told_87 : decode cX7_told 87 = .ok (.ireturn, 1) := by decide +kernel
theorem dX7_told_88 : decode cX7_told 88 = .ok (.aload_n 0, 1) := by decide +kernel
theorem dX7_told_89 : decode cX7_told 89 = .ok (.getfield 10, 3) := by decide +kernel
theorem dX7_told_92 : decode cX7_told 92 = .ok (.invokevirtual 147, 3) := by decide +kernel
theorem dX7_told_95 : decode cX7_told 95 = .ok (.ireturn, 1) := by decide +kernel
theorem dX7_told_96 : decode cX7_told 96 = .ok (.aload_n 0, 1) := by decide +kernel
theorem dX7_told_97 : decode cX7_told 97 = .ok (.getfield 19, 3) := by decide +kernel
theorem dX7_told_100 : decode cX7_told 100 = .ok (.getfield 150, 3) := by decide +kernel
theorem dX7_told_103 : decode cX7_told 103 = .ok (.ireturn, 1) := by decide +kernel
theorem dX7_told_104 : decode cX7_told 104 = .ok (.aload_n 0, 1) := by decide +kernel
theorem dX7_told_105 : decode cX7_told 105 = .ok (.invokevirtual 153, 3) := by decide +kernel
theorem dX7_told_108 : decode cX7_told 108 = .ok (.ireturn, 1) := by decide +kernel
theorem dX7_told_109 : decode cX7_told 109 = .ok (.aload_n 0, 1) := by decide +kernel
theorem dX7_told_110 : decode cX7_told 110 = .ok (.invokevirtual 156, 3) := by decide +kernel
theorem dX7_told_113 : decode cX7_told 113 = .ok (.ireturn, 1) := by decide +kernel
theorem dX7_told_114 : decode cX7_told 114 = .ok (.aload_n 0, 1) := by decide +kernel
theorem dX7_told_115 : decode cX7_told 115 = .ok (.invokevirtual 159, 3) := by decide +kernel
theorem dX7_told_118 : decode cX7_told 118 = .ok (.ireturn, 1) := by decide +kernel
theorem dX7_told_119 : decode cX7_told 119 = .ok (.aload_n 0, 1) := by decide +kernel
theorem dX7_told_120 : decode cX7_told 120 = .ok (.getfield 44, 3) := by decide +kernel
theorem dX7_told_123 : decode cX7_told 123 = .ok (.sipush 999, 3) := by decide +kernel
theorem dX7_told_126 : decode cX7_told 126 = .ok (.invokevirtual 162, 3) := by decide +kernel
theorem dX7_told_129 : decode cX7_told 129 = .ok (.ireturn, 1) := by decide +kernel
theorem dX7_told_130 : decode cX7_told 130 = .ok (.aload_n 0, 1) := by decide +kernel
theorem dX7_told_131 : decode cX7_told 131 = .ok (.invokevirtual 165, 3) := by decide +kernel
theorem dX7_told_134 : decode cX7_told 134 = .ok (.ireturn, 1) := by decide +kernel
theorem dX7_told_135 : decode cX7_told 135 = .ok (.aload_n 0, 1) := by decide +kernel
theorem dX7_told_136 : decode cX7_told 136 = .ok (.invokevirtual 168, 3) := by decide +kernel
theorem dX7_told_139 : decode cX7_told 139 = .ok (.ireturn, 1) := by decide +kernel
theorem dX7_told_140 : decode cX7_told 140 = .ok (.aload_n 0, 1) := by decide +kernel
theorem dX7_told_141 : decode cX7_told 141 = .ok (.getfield 51, 3) := by decide +kernel
theorem dX7_told_144 : decode cX7_told 144 = .ok (.getfield 138, 3) := by decide +kernel
theorem dX7_told_147 : decode cX7_told 147 = .ok (.ireturn, 1) := by decide +kernel
theorem dX7_told_148 : decode cX7_told 148 = .ok (.ldc 89, 2) := by decide +kernel
theorem dX7_told_150 : decode cX7_told 150 = .ok (.ireturn, 1) := by decide +kernel
theorem dX7_cell_0 : decode cX7_cell 0 = .ok (.iload_n 1, 1) := by decide +kernel
theorem dX7_cell_1 : decode cX7_cell 1 = .ok (.invokestatic 58, 3) := by decide +kernel
theorem dX7_cell_4 : decode cX7_cell 4 = .ok (.ifCond .ne 6, 3) := by decide +kernel
theorem dX7_cell_7 : decode cX7_cell 7 = .ok (.ldc 62, 2) := by decide +kernel
theorem dX7_cell_9 : decode cX7_cell 9 = .ok (.ireturn, 1) := by decide +kernel
theorem dX7_cell_10 : decode cX7_cell 10 = .ok (.iload_n 2, 1) := by decide +kernel
theorem dX7_cell_11 : decode cX7_cell 11 = .ok (.tableswitch 71 0 3 #[29, 41, 53, 65], 29) := by decide +kernel
theorem dX7_cell_40 : decode cX7_cell 40 = .ok (.aload_n 0, 1) := by decide +kernel
theorem dX7_cell_41 : decode cX7_cell 41 = .ok (.getfield 10, 3) := by decide +kernel
theorem dX7_cell_44 : decode cX7_cell 44 = .ok (.getfield 63, 3) := by decide +kernel
theorem dX7_cell_47 : decode cX7_cell 47 = .ok (.iload_n 1, 1) := by decide +kernel
theorem dX7_cell_48 : decode cX7_cell 48 = .ok (.invokevirtual 67, 3) := by decide +kernel
theorem dX7_cell_51 : decode cX7_cell 51 = .ok (.ireturn, 1) := by decide +kernel
theorem dX7_cell_52 : decode cX7_cell 52 = .ok (.aload_n 0, 1) := by decide +kernel
theorem dX7_cell_53 : decode cX7_cell 53 = .ok (.getfield 19, 3) := by decide +kernel
theorem dX7_cell_56 : decode cX7_cell 56 = .ok (.getfield 171, 3) := by decide +kernel
theorem dX7_cell_59 : decode cX7_cell 59 = .ok (.iload_n 1, 1) := by decide +kernel
theorem dX7_cell_60 : decode cX7_cell 60 = .ok (.invokevirtual 67, 3) := by decide +kernel
theorem dX7_cell_63 : decode cX7_cell 63 = .ok (.ireturn, 1) := by decide +kernel
theorem dX7_cell_64 : decode cX7_cell 64 = .ok (.aload_n 0, 1) := by decide +kernel
theorem dX7_cell_65 : decode cX7_cell 65 = .ok (.getfield 19, 3) := by decide +kernel
theorem dX7_cell_68 : decode cX7_cell 68 = .ok (.getfield 174, 3) := by decide +kernel
theorem dX7_cell_71 : decode cX7_cell 71 = .ok (.iload_n 1, 1) := by decide +kernel
theorem dX7_cell_72 : decode cX7_cell 72 = .ok (.invokevirtual 67, 3) := by decide +kernel
theorem dX7_cell_75 : decode cX7_cell 75 = .ok (.ireturn, 1) := by decide +kernel
theorem dX7_cell_76 : decode cX7_cell 76 = .ok (.aload_n 0, 1) := by decide +kernel
theorem dX7_cell_77 : decode cX7_cell 77 = .ok (.iload_n 1, 1) := by decide +kernel
theorem dX7_cell_78 : decode cX7_cell 78 = .ok (.invokevirtual 177, 3) := by decide +kernel
theorem dX7_cell_81 : decode cX7_cell 81 = .ok (.ireturn, 1) := by decide +kernel
theorem dX7_cell_82 : decode cX7_cell 82 = .ok (.ldc 89, 2) := by decide +kernel
theorem dX7_cell_84 : decode cX7_cell 84 = .ok (.ireturn, 1) := by decide +kernel
theorem dX7_slot_0 : decode cX7_slot 0 = .ok (.aload_n 0, 1) := by decide +kernel
theorem dX7_slot_1 : decode cX7_slot 1 = .ok (.iload_n 1, 1) := by decide +kernel
theorem dX7_slot_2 : decode cX7_slot 2 = .ok (.invokevirtual 90, 3) := by decide +kernel
theorem dX7_slot_5 : decode cX7_slot 5 = .ok (.ifCond .ne 6, 3) := by decide +kernel
theorem dX7_slot_8 : decode cX7_slot 8 = .ok (.ldc 62, 2) := by decide +kernel
theorem dX7_slot_10 : decode cX7_slot 10 = .ok (.ireturn, 1) := by decide +kernel
theorem dX7_slot_11 : decode cX7_slot 11 = .ok (.iload_n 2, 1) := by decide +kernel
theorem dX7_slot_12 : decode cX7_slot 12 = .ok (.tableswitch 154 0 7 #[48, 60, 72, 89, 101, 116, 128, 148], 48) := by decide +kernel
theorem dX7_slot_60 : decode cX7_slot 60 = .ok (.aload_n 0, 1) := by decide +kernel
theorem dX7_slot_61 : decode cX7_slot 61 = .ok (.getfield 19, 3) := by decide +kernel
theorem dX7_slot_64 : decode cX7_slot 64 = .ok (.getfield 180, 3) := by decide +kernel
theorem dX7_slot_67 : decode cX7_slot 67 = .ok (.iload_n 1, 1) := by decide +kernel
theorem dX7_slot_68 : decode cX7_slot 68 = .ok (.invokevirtual 67, 3) := by decide +kernel
theorem dX7_slot_71 : decode cX7_slot 71 = .ok (.ireturn, 1) := by decide +kernel
theorem dX7_slot_72 : decode cX7_slot 72 = .ok (.aload_n 0, 1) := by decide +kernel
theorem dX7_slot_73 : decode cX7_slot 73 = .ok (.getfield 19, 3) := by decide +kernel
theorem dX7_slot_76 : decode cX7_slot 76 = .ok (.getfield 99, 3) := by decide +kernel
theorem dX7_slot_79 : decode cX7_slot 79 = .ok (.iload_n 1, 1) := by decide +kernel
theorem dX7_slot_80 : decode cX7_slot 80 = .ok (.invokevirtual 67, 3) := by decide +kernel
theorem dX7_slot_83 : decode cX7_slot 83 = .ok (.ireturn, 1) := by decide +kernel
theorem dX7_slot_84 : decode cX7_slot 84 = .ok (.aload_n 0, 1) := by decide +kernel
theorem dX7_slot_85 : decode cX7_slot 85 = .ok (.getfield 19, 3) := by decide +kernel
theorem dX7_slot_88 : decode cX7_slot 88 = .ok (.iload_n 1, 1) := by decide +kernel
theorem dX7_slot_89 : decode cX7_slot 89 = .ok (.invokevirtual 183, 3) := by decide +kernel
theorem dX7_slot_92 : decode cX7_slot 92 = .ok (.ifCond .eq 7, 3) := by decide +kernel
theorem dX7_slot_95 : decode cX7_slot 95 = .ok (.iconst 1, 1) := by decide +kernel
theorem dX7_slot_96 : decode cX7_slot 96 = .ok (.goto 4, 3) := by decide +kernel
theorem dX7_slot_99 : decode cX7_slot 99 = .ok (.iconst 0, 1) := by decide +kernel
theorem dX7_slot_100 : decode cX7_slot 100 = .ok (.ireturn, 1) := by decide +kernel
theorem dX7_slot_101 : decode cX7_slot 101 = .ok (.aload_n 0, 1) := by decide +kernel
theorem dX7_slot_102 : decode cX7_slot 102 = .ok (.getfield 19, 3) := by decide +kernel
theorem dX7_slot_105 : decode cX7_slot 105 = .ok (.getfield 186, 3) := by decide +kernel
theorem dX7_slot_108 : decode cX7_slot 108 = .ok (.iload_n 1, 1) := by decide +kernel
theorem dX7_slot_109 : decode cX7_slot 109 = .ok (.invokevirtual 67, 3) := by decide +kernel
theorem dX7_slot_112 : decode cX7_slot 112 = .ok (.ireturn, 1) := by decide +kernel
theorem dX7_slot_113 : decode cX7_slot 113 = .ok (.aload_n 0, 1) := by decide +kernel
theorem dX7_slot_114 : decode cX7_slot 114 = .ok (.getfield 35, 3) := by decide +kernel
theorem dX7_slot_117 : decode cX7_slot 117 = .ok (.getfield 189, 3) := by decide +kernel
theorem dX7_slot_120 : decode cX7_slot 120 = .ok (.iload_n 1, 1) := by decide +kernel
theorem dX7_slot_121 : decode cX7_slot 121 = .ok (.invokevirtual 67, 3) := by decide +kernel
theorem dX7_slot_124 : decode cX7_slot 124 = .ok (.invokestatic 192, 3) := by decide +kernel
theorem dX7_slot_127 : decode cX7_slot 127 = .ok (.ireturn, 1) := by decide +kernel
theorem dX7_slot_128 : decode cX7_slot 128 = .ok (.aload_n 0, 1) := by decide +kernel
theorem dX7_slot_129 : decode cX7_slot 129 = .ok (.getfield 35, 3) := by decide +kernel
theorem dX7_slot_132 : decode cX7_slot 132 = .ok (.getfield 197, 3) := by decide +kernel
theorem dX7_slot_135 : decode cX7_slot 135 = .ok (.iload_n 1, 1) := by decide +kernel
theorem dX7_slot_136 : decode cX7_slot 136 = .ok (.invokevirtual 67, 3) := by decide +kernel
theorem dX7_slot_139 : decode cX7_slot 139 = .ok (.ireturn, 1) := by decide +kernel
theorem dX7_slot_140 : decode cX7_slot 140 = .ok (.aload_n 0, 1) := by decide +kernel
theorem dX7_slot_141 : decode cX7_slot 141 = .ok (.getfield 10, 3) := by decide +kernel
theorem dX7_slot_144 : decode cX7_slot 144 = .ok (.aload_n 0, 1) := by decide +kernel
theorem dX7_slot_145 : decode cX7_slot 145 = .ok (.getfield 19, 3) := by decide +kernel
theorem dX7_slot_148 : decode cX7_slot 148 = .ok (.iload_n 1, 1) := by decide +kernel
theorem dX7_slot_149 : decode cX7_slot 149 = .ok (.aload_n 0, 1) := by decide +kernel
theorem dX7_slot_150 : decode cX7_slot 150 = .ok (.getfield 10, 3) := by decide +kernel
theorem dX7_slot_153 : decode cX7_slot 153 = .ok (.invokevirtual 200, 3) := by decide +kernel
theorem dX7_slot_156 : decode cX7_slot 156 = .ok (.invokevirtual 120, 3) := by decide +kernel
theorem dX7_slot_159 : decode cX7_slot 159 = .ok (.ireturn, 1) := by decide +kernel
theorem dX7_slot_160 : decode cX7_slot 160 = .ok (.aload_n 0, 1) := by decide +kernel
theorem dX7_slot_161 : decode cX7_slot 161 = .ok (.iload_n 1, 1) := by decide +kernel
theorem dX7_slot_162 : decode cX7_slot 162 = .ok (.invokevirtual 204, 3) := by decide +kernel
theorem dX7_slot_165 : decode cX7_slot 165 = .ok (.ireturn, 1) := by decide +kernel
theorem dX7_slot_166 : decode cX7_slot 166 = .ok (.ldc 89, 2) := by decide +kernel
theorem dX7_slot_168 : decode cX7_slot 168 = .ok (.ireturn, 1) := by decide +kernel
theorem dX7_word_0 : decode cX7_word 0 = .ok (.aload_n 0, 1) := by decide +kernel
theorem dX7_word_1 : decode cX7_word 1 = .ok (.iload_n 1, 1) := by decide +kernel
theorem dX7_word_2 : decode cX7_word 2 = .ok (.invokevirtual 93, 3) := by decide +kernel
theorem dX7_word_5 : decode cX7_word 5 = .ok (.ifCond .ne 6, 3) := by decide +kernel
theorem dX7_word_8 : decode cX7_word 8 = .ok (.ldc 62, 2) := by decide +kernel
theorem dX7_word_10 : decode cX7_word 10 = .ok (.ireturn, 1) := by decide +kernel
theorem dX7_word_11 : decode cX7_word 11 = .ok (.aload_n 0, 1) := by decide +kernel
theorem dX7_word_12 : decode cX7_word 12 = .ok (.getfield 10, 3) := by decide +kernel
theorem dX7_word_15 : decode cX7_word 15 = .ok (.getfield 207, 3) := by decide +kernel
theorem dX7_word_18 : decode cX7_word 18 = .ok (.iload_n 1, 1) := by decide +kernel
theorem dX7_word_19 : decode cX7_word 19 = .ok (.invokevirtual 67, 3) := by decide +kernel
theorem dX7_word_22 : decode cX7_word 22 = .ok (.istore_n 3, 1) := by decide +kernel
theorem dX7_word_23 : decode cX7_word 23 = .ok (.iload_n 2, 1) := by decide +kernel
theorem dX7_word_24 : decode cX7_word 24 = .ok (.tableswitch 84 0 4 #[36, 38, 43, 62, 78], 36) := by decide +kernel
theorem dX7_word_60 : decode cX7_word 60 = .ok (.iload_n 3, 1) := by decide +kernel
theorem dX7_word_61 : decode cX7_word 61 = .ok (.ireturn, 1) := by decide +kernel
theorem dX7_word_62 : decode cX7_word 62 = .ok (.iload_n 3, 1) := by decide +kernel
theorem dX7_word_63 : decode cX7_word 63 = .ok (.invokestatic 117, 3) := by decide +kernel
theorem dX7_word_66 : decode cX7_word 66 = .ok (.ireturn, 1) := by decide +kernel
theorem dX7_word_67 : decode cX7_word 67 = .ok (.aload_n 0, 1) := by decide +kernel
theorem dX7_word_68 : decode cX7_word 68 = .ok (.getfield 35, 3) := by decide +kernel
theorem dX7_word_71 : decode cX7_word 71 = .ok (.iload_n 1, 1) := by decide +kernel
theorem dX7_word_72 : decode cX7_word 72 = .ok (.aload_n 0, 1) := by decide +kernel
theorem dX7_word_73 : decode cX7_word 73 = .ok (.getfield 35, 3) := by decide +kernel
theorem dX7_word_76 : decode cX7_word 76 = .ok (.getfield 189, 3) := by decide +kernel
theorem dX7_word_79 : decode cX7_word 79 = .ok (.invokevirtual 210, 3) := by decide +kernel
theorem dX7_word_82 : decode cX7_word 82 = .ok (.invokestatic 192, 3) := by decide +kernel
theorem dX7_word_85 : decode cX7_word 85 = .ok (.ireturn, 1) := by decide +kernel
theorem dX7_word_86 : decode cX7_word 86 = .ok (.aload_n 0, 1) := by decide +kernel
theorem dX7_word_87 : decode cX7_word 87 = .ok (.getfield 35, 3) := by decide +kernel
theorem dX7_word_90 : decode cX7_word 90 = .ok (.iload_n 1, 1) := by decide +kernel
theorem dX7_word_91 : decode cX7_word 91 = .ok (.aload_n 0, 1) := by decide +kernel
theorem dX7_word_92 : decode cX7_word 92 = .ok (.getfield 35, 3) := by decide +kernel
theorem dX7_word_95 : decode cX7_word 95 = .ok (.getfield 197, 3) := by decide +kernel
theorem dX7_word_98 : decode cX7_word 98 = .ok (.invokevirtual 210, 3) := by decide +kernel
theorem dX7_word_101 : decode cX7_word 101 = .ok (.ireturn, 1) := by decide +kernel
theorem dX7_word_102 : decode cX7_word 102 = .ok (.aload_n 0, 1) := by decide +kernel
theorem dX7_word_103 : decode cX7_word 103 = .ok (.iload_n 3, 1) := by decide +kernel
theorem dX7_word_104 : decode cX7_word 104 = .ok (.invokevirtual 214, 3) := by decide +kernel
theorem dX7_word_107 : decode cX7_word 107 = .ok (.ireturn, 1) := by decide +kernel
theorem dX7_word_108 : decode cX7_word 108 = .ok (.ldc 89, 2) := by decide +kernel
theorem dX7_word_110 : decode cX7_word 110 = .ok (.ireturn, 1) := by decide +kernel
theorem dX7_find_0 : decode cX7_find 0 = .ok (.iload_n 1, 1) := by decide +kernel
theorem dX7_find_1 : decode cX7_find 1 = .ok (.invokestatic 117, 3) := by decide +kernel
theorem dX7_find_4 : decode cX7_find 4 = .ok (.ifCond .ne 8, 3) := by decide +kernel
theorem dX7_find_7 : decode cX7_find 7 = .ok (.ldc 89, 2) := by decide +kernel
theorem dX7_find_9 : decode cX7_find 9 = .ok (.goto 11, 3) := by decide +kernel
theorem dX7_find_12 : decode cX7_find 12 = .ok (.aload_n 0, 1) := by decide +kernel
theorem dX7_find_13 : decode cX7_find 13 = .ok (.getfield 10, 3) := by decide +kernel
theorem dX7_find_16 : decode cX7_find 16 = .ok (.iload_n 1, 1) := by decide +kernel
theorem dX7_find_17 : decode cX7_find 17 = .ok (.invokevirtual 120, 3) := by decide +kernel
theorem dX7_find_20 : decode cX7_find 20 = .ok (.ireturn, 1) := by decide +kernel
theorem dX7_odds_0 : decode cX7_odds 0 = .ok (.aload_n 0, 1) := by decide +kernel
theorem dX7_odds_1 : decode cX7_odds 1 = .ok (.iload_n 1, 1) := by decide +kernel
theorem dX7_odds_2 : decode cX7_odds 2 = .ok (.invokevirtual 90, 3) := by decide +kernel
theorem dX7_odds_5 : decode cX7_odds 5 = .ok (.ifCond .eq 33, 3) := by decide +kernel
theorem dX7_odds_8 : decode cX7_odds 8 = .ok (.aload_n 0, 1) := by decide +kernel
theorem dX7_odds_9 : decode cX7_odds 9 = .ok (.iload_n 2, 1) := by decide +kernel
theorem dX7_odds_10 : decode cX7_odds 10 = .ok (.invokevirtual 93, 3) := by decide +kernel
theorem dX7_odds_13 : decode cX7_odds 13 = .ok (.ifCond .eq 25, 3) := by decide +kernel
theorem dX7_odds_16 : decode cX7_odds 16 = .ok (.aload_n 0, 1) := by decide +kernel
theorem dX7_odds_17 : decode cX7_odds 17 = .ok (.iload_n 3, 1) := by decide +kernel
theorem dX7_odds_18 : decode cX7_odds 18 = .ok (.invokevirtual 90, 3) := by decide +kernel
theorem dX7_odds_21 : decode cX7_odds 21 = .ok (.ifCond .eq 17, 3) := by decide +kernel
theorem dX7_odds_24 : decode cX7_odds 24 = .ok (.aload_n 0, 1) := by decide +kernel
theorem dX7_odds_25 : decode cX7_odds 25 = .ok (.iload 4, 2) := by decide +kernel
theorem dX7_odds_27 : decode cX7_odds 27 = .ok (.invokevirtual 93, 3) := by decide +kernel
theorem dX7_odds_30 : decode cX7_odds 30 = .ok (.ifCond .eq 8, 3) := by decide +kernel
theorem dX7_odds_33 : decode cX7_odds 33 = .ok (.iload_n 1, 1) := by decide +kernel
theorem dX7_odds_34 : decode cX7_odds 34 = .ok (.iload_n 3, 1) := by decide +kernel
theorem dX7_odds_35 : decode cX7_odds 35 = .ok (.if_icmp .ne 6, 3) := by decide +kernel
theorem dX7_odds_38 : decode cX7_odds 38 = .ok (.ldc 62, 2) := by decide +kernel
theorem dX7_odds_40 : decode cX7_odds 40 = .ok (.ireturn, 1) := by decide +kernel
theorem dX7_odds_41 : decode cX7_odds 41 = .ok (.aload_n 0, 1) := by decide +kernel
theorem dX7_odds_42 : decode cX7_odds 42 = .ok (.getfield 19, 3) := by decide +kernel
theorem dX7_odds_45 : decode cX7_odds 45 = .ok (.getfield 186, 3) := by decide +kernel
theorem dX7_odds_48 : decode cX7_odds 48 = .ok (.iload_n 1, 1) := by decide +kernel
theorem dX7_odds_49 : decode cX7_odds 49 = .ok (.invokevirtual 67, 3) := by decide +kernel
theorem dX7_odds_52 : decode cX7_odds 52 = .ok (.iload_n 3, 1) := by decide +kernel
theorem dX7_odds_53 : decode cX7_odds 53 = .ok (.invokestatic 102, 3) := by decide +kernel
theorem dX7_odds_56 : decode cX7_odds 56 = .ok (.ifCond .ne 5, 3) := by decide +kernel
theorem dX7_odds_59 : decode cX7_odds 59 = .ok (.iconst (-1), 1) := by decide +kernel
theorem dX7_odds_60 : decode cX7_odds 60 = .ok (.ireturn, 1) := by decide +kernel
theorem dX7_odds_61 : decode cX7_odds 61 = .ok (.aload_n 0, 1) := by decide +kernel
theorem dX7_odds_62 : decode cX7_odds 62 = .ok (.getfield 35, 3) := by decide +kernel
theorem dX7_odds_65 : decode cX7_odds 65 = .ok (.getfield 189, 3) := by decide +kernel
theorem dX7_odds_68 : decode cX7_odds 68 = .ok (.iload_n 1, 1) := by decide +kernel
theorem dX7_odds_69 : decode cX7_odds 69 = .ok (.invokevirtual 67, 3) := by decide +kernel
theorem dX7_odds_72 : decode cX7_odds 72 = .ok (.iload_n 2, 1) := by decide +kernel
theorem dX7_odds_73 : decode cX7_odds 73 = .ok (.invokestatic 102, 3) := by decide +kernel
theorem dX7_odds_76 : decode cX7_odds 76 = .ok (.ifCond .eq 26, 3) := by decide +kernel
theorem dX7_odds_79 : decode cX7_odds 79 = .ok (.aload_n 0, 1) := by decide +kernel
theorem dX7_odds_80 : decode cX7_odds 80 = .ok (.getfield 35, 3) := by decide +kernel
theorem dX7_odds_83 : decode cX7_odds 83 = .ok (.getfield 189, 3) := by decide +kernel
theorem dX7_odds_86 : decode cX7_odds 86 = .ok (.iload_n 3, 1) := by decide +kernel
theorem dX7_odds_87 : decode cX7_odds 87 = .ok (.invokevirtual 67, 3) := by decide +kernel
theorem dX7_odds_90 : decode cX7_odds 90 = .ok (.iload 4, 2) := by decide +kernel
theorem dX7_odds_92 : decode cX7_odds 92 = .ok (.invokestatic 102, 3) := by decide +kernel
theorem dX7_odds_95 : decode cX7_odds 95 = .ok (.ifCond .eq 7, 3) := by decide +kernel
theorem dX7_odds_98 : decode cX7_odds 98 = .ok (.iconst 1, 1) := by decide +kernel
theorem dX7_odds_99 : decode cX7_odds 99 = .ok (.goto 4, 3) := by decide +kernel
theorem dX7_odds_102 : decode cX7_odds 102 = .ok (.iconst 0, 1) := by decide +kernel
theorem dX7_odds_103 : decode cX7_odds 103 = .ok (.istore 5, 2) := by decide +kernel
theorem dX7_odds_105 : decode cX7_odds 105 = .ok (.iload 5, 2) := by decide +kernel
theorem dX7_odds_107 : decode cX7_odds 107 = .ok (.ifCond .eq 25, 3) := by decide +kernel
theorem dX7_odds_110 : decode cX7_odds 110 = .ok (.aload_n 0, 1) := by decide +kernel
theorem dX7_odds_111 : decode cX7_odds 111 = .ok (.getfield 35, 3) := by decide +kernel
theorem dX7_odds_114 : decode cX7_odds 114 = .ok (.iload_n 1, 1) := by decide +kernel
theorem dX7_odds_115 : decode cX7_odds 115 = .ok (.iload_n 2, 1) := by decide +kernel
theorem dX7_odds_116 : decode cX7_odds 116 = .ok (.iload_n 3, 1) := by decide +kernel
theorem dX7_odds_117 : decode cX7_odds 117 = .ok (.invokevirtual 217, 3) := by decide +kernel
theorem dX7_odds_120 : decode cX7_odds 120 = .ok (.iload 4, 2) := by decide +kernel
theorem dX7_odds_122 : decode cX7_odds 122 = .ok (.invokestatic 102, 3) := by decide +kernel
theorem dX7_odds_125 : decode cX7_odds 125 = .ok (.ifCond .eq 7, 3) := by decide +kernel
theorem dX7_odds_128 : decode cX7_odds 128 = .ok (.iconst 0, 1) := by decide +kernel
theorem dX7_odds_129 : decode cX7_odds 129 = .ok (.goto 4, 3) := by decide +kernel
theorem dX7_odds_132 : decode cX7_odds 132 = .ok (.iconst 1, 1) := by decide +kernel
theorem dX7_odds_133 : decode cX7_odds 133 = .ok (.ireturn, 1) := by decide +kernel
theorem dX7_with_0 : decode cX7_with 0 = .ok (.aload_n 0, 1) := by decide +kernel
theorem dX7_with_1 : decode cX7_with 1 = .ok (.iload_n 1, 1) := by decide +kernel
theorem dX7_with_2 : decode cX7_with 2 = .ok (.invokevirtual 90, 3) := by decide +kernel
theorem dX7_with_5 : decode cX7_with 5 = .ok (.ifCond .eq 11, 3) := by decide +kernel
theorem dX7_with_8 : decode cX7_with 8 = .ok (.aload_n 0, 1) := by decide +kernel
theorem dX7_with_9 : decode cX7_with 9 = .ok (.iload_n 2, 1) := by decide +kernel
theorem dX7_with_10 : decode cX7_with 10 = .ok (.invokevirtual 93, 3) := by decide +kernel
theorem dX7_with_13 : decode cX7_with 13 = .ok (.ifCond .ne 6, 3) := by decide +kernel
theorem dX7_with_16 : decode cX7_with 16 = .ok (.ldc 62, 2) := by decide +kernel
theorem dX7_with_18 : decode cX7_with 18 = .ok (.ireturn, 1) := by decide +kernel
theorem dX7_with_19 : decode cX7_with 19 = .ok (.aload_n 0, 1) := by decide +kernel
theorem dX7_with_20 : decode cX7_with 20 = .ok (.getfield 44, 3) := by decide +kernel
theorem dX7_with_23 : decode cX7_with 23 = .ok (.iload_n 1, 1) := by decide +kernel
theorem dX7_with_24 : decode cX7_with 24 = .ok (.iload_n 2, 1) := by decide +kernel
theorem dX7_with_25 : decode cX7_with 25 = .ok (.sipush 999, 3) := by decide +kernel
theorem dX7_with_28 : decode cX7_with 28 = .ok (.invokevirtual 221, 3) := by decide +kernel
theorem dX7_with_31 : decode cX7_with 31 = .ok (.ireturn, 1) := by decide +kernel
theorem dX7_keep_0 : decode cX7_keep 0 = .ok (.iload_n 1, 1) := by decide +kernel
theorem dX7_keep_1 : decode cX7_keep 1 = .ok (.invokestatic 224, 3) := by decide +kernel
theorem dX7_keep_4 : decode cX7_keep 4 = .ok (.ifCond .ne 6, 3) := by decide +kernel
theorem dX7_keep_7 : decode cX7_keep 7 = .ok (.ldc 62, 2) := by decide +kernel
theorem dX7_keep_9 : decode cX7_keep 9 = .ok (.ireturn, 1) := by decide +kernel
theorem dX7_keep_10 : decode cX7_keep 10 = .ok (.aload_n 0, 1) := by decide +kernel
theorem dX7_keep_11 : decode cX7_keep 11 = .ok (.getfield 51, 3) := by decide +kernel
theorem dX7_keep_14 : decode cX7_keep 14 = .ok (.iload_n 1, 1) := by decide +kernel
theorem dX7_keep_15 : decode cX7_keep 15 = .ok (.aload_n 0, 1) := by decide +kernel
theorem dX7_keep_16 : decode cX7_keep 16 = .ok (.getfield 10, 3) := by decide +kernel
theorem dX7_keep_19 : decode cX7_keep 19 = .ok (.invokevirtual 227, 3) := by decide +kernel
theorem dX7_keep_22 : decode cX7_keep 22 = .ok (.aload_n 0, 1) := by decide +kernel
theorem dX7_keep_23 : decode cX7_keep 23 = .ok (.getfield 10, 3) := by decide +kernel
theorem dX7_keep_26 : decode cX7_keep 26 = .ok (.getfield 123, 3) := by decide +kernel
theorem dX7_keep_29 : decode cX7_keep 29 = .ok (.ireturn, 1) := by decide +kernel
theorem dX7_goBack_0 : decode cX7_goBack 0 = .ok (.iload_n 1, 1) := by decide +kernel
theorem dX7_goBack_1 : decode cX7_goBack 1 = .ok (.invokestatic 224, 3) := by decide +kernel
theorem dX7_goBack_4 : decode cX7_goBack 4 = .ok (.ifCond .ne 6, 3) := by decide +kernel
theorem dX7_goBack_7 : decode cX7_goBack 7 = .ok (.ldc 62, 2) := by decide +kernel
theorem dX7_goBack_9 : decode cX7_goBack 9 = .ok (.ireturn, 1) := by decide +kernel
theorem dX7_goBack_10 : decode cX7_goBack 10 = .ok (.aload_n 0, 1) := by decide +kernel
theorem dX7_goBack_11 : decode cX7_goBack 11 = .ok (.getfield 51, 3) := by decide +kernel
theorem dX7_goBack_14 : decode cX7_goBack 14 = .ok (.getfield 231, 3) := by decide +kernel
theorem dX7_goBack_17 : decode cX7_goBack 17 = .ok (.iload_n 1, 1) := by decide +kernel
theorem dX7_goBack_18 : decode cX7_goBack 18 = .ok (.invokestatic 102, 3) := by decide +kernel
theorem dX7_goBack_21 : decode cX7_goBack 21 = .ok (.ifCond .ne 6, 3) := by decide +kernel
theorem dX7_goBack_24 : decode cX7_goBack 24 = .ok (.ldc 73, 2) := by decide +kernel
theorem dX7_goBack_26 : decode cX7_goBack 26 = .ok (.ireturn, 1) := by decide +kernel
theorem dX7_goBack_27 : decode cX7_goBack 27 = .ok (.aload_n 0, 1) := by decide +kernel
theorem dX7_goBack_28 : decode cX7_goBack 28 = .ok (.getfield 51, 3) := by decide +kernel
theorem dX7_goBack_31 : decode cX7_goBack 31 = .ok (.iload_n 1, 1) := by decide +kernel
theorem dX7_goBack_32 : decode cX7_goBack 32 = .ok (.aload_n 0, 1) := by decide +kernel
theorem dX7_goBack_33 : decode cX7_goBack 33 = .ok (.getfield 10, 3) := by decide +kernel
theorem dX7_goBack_36 : decode cX7_goBack 36 = .ok (.invokevirtual 234, 3) := by decide +kernel
theorem dX7_goBack_39 : decode cX7_goBack 39 = .ok (.aload_n 0, 1) := by decide +kernel
theorem dX7_goBack_40 : decode cX7_goBack 40 = .ok (.invokevirtual 55, 3) := by decide +kernel
theorem dX7_goBack_43 : decode cX7_goBack 43 = .ok (.aload_n 0, 1) := by decide +kernel
theorem dX7_goBack_44 : decode cX7_goBack 44 = .ok (.getfield 10, 3) := by decide +kernel
theorem dX7_goBack_47 : decode cX7_goBack 47 = .ok (.getfield 123, 3) := by decide +kernel
theorem dX7_goBack_50 : decode cX7_goBack 50 = .ok (.ireturn, 1) := by decide +kernel
theorem dX7_isCell_0 : decode cX7_isCell 0 = .ok (.iload_n 0, 1) := by decide +kernel
theorem dX7_isCell_1 : decode cX7_isCell 1 = .ok (.ifCond .lt 13, 3) := by decide +kernel
theorem dX7_isCell_4 : decode cX7_isCell 4 = .ok (.iload_n 0, 1) := by decide +kernel
theorem dX7_isCell_5 : decode cX7_isCell 5 = .ok (.bipush 16, 2) := by decide +kernel
theorem dX7_isCell_7 : decode cX7_isCell 7 = .ok (.if_icmp .ge 7, 3) := by decide +kernel
theorem dX7_isCell_10 : decode cX7_isCell 10 = .ok (.iconst 1, 1) := by decide +kernel
theorem dX7_isCell_11 : decode cX7_isCell 11 = .ok (.goto 4, 3) := by decide +kernel
theorem dX7_isCell_14 : decode cX7_isCell 14 = .ok (.iconst 0, 1) := by decide +kernel
theorem dX7_isCell_15 : decode cX7_isCell 15 = .ok (.ireturn, 1) := by decide +kernel
theorem dX7_isLetter_0 : decode cX7_isLetter 0 = .ok (.iload_n 0, 1) := by decide +kernel
theorem dX7_isLetter_1 : decode cX7_isLetter 1 = .ok (.bipush 97, 2) := by decide +kernel
theorem dX7_isLetter_3 : decode cX7_isLetter 3 = .ok (.if_icmp .lt 13, 3) := by decide +kernel
theorem dX7_isLetter_6 : decode cX7_isLetter 6 = .ok (.iload_n 0, 1) := by decide +kernel
theorem dX7_isLetter_7 : decode cX7_isLetter 7 = .ok (.bipush 103, 2) := by decide +kernel
theorem dX7_isLetter_9 : decode cX7_isLetter 9 = .ok (.if_icmp .ge 7, 3) := by decide +kernel
theorem dX7_isLetter_12 : decode cX7_isLetter 12 = .ok (.iconst 1, 1) := by decide +kernel
theorem dX7_isLetter_13 : decode cX7_isLetter 13 = .ok (.goto 4, 3) := by decide +kernel
theorem dX7_isLetter_16 : decode cX7_isLetter 16 = .ok (.iconst 0, 1) := by decide +kernel
theorem dX7_isLetter_17 : decode cX7_isLetter 17 = .ok (.ireturn, 1) := by decide +kernel
theorem dX7_isImage_0 : decode cX7_isImage 0 = .ok (.iload_n 0, 1) := by decide +kernel
theorem dX7_isImage_1 : decode cX7_isImage 1 = .ok (.ifCond .lt 12, 3) := by decide +kernel
theorem dX7_isImage_4 : decode cX7_isImage 4 = .ok (.iload_n 0, 1) := by decide +kernel
theorem dX7_isImage_5 : decode cX7_isImage 5 = .ok (.iconst 2, 1) := by decide +kernel
theorem dX7_isImage_6 : decode cX7_isImage 6 = .ok (.if_icmp .ge 7, 3) := by decide +kernel
theorem dX7_isImage_9 : decode cX7_isImage 9 = .ok (.iconst 1, 1) := by decide +kernel
theorem dX7_isImage_10 : decode cX7_isImage 10 = .ok (.goto 4, 3) := by decide +kernel
theorem dX7_isImage_13 : decode cX7_isImage 13 = .ok (.iconst 0, 1) := by decide +kernel
theorem dX7_isImage_14 : decode cX7_isImage 14 = .ok (.ireturn, 1) := by decide +kernel
theorem dX7_isSlot_0 : decode cX7_isSlot 0 = .ok (.iload_n 1, 1) := by decide +kernel
theorem dX7_isSlot_1 : decode cX7_isSlot 1 = .ok (.ifCond .lt 18, 3) := by decide +kernel
theorem dX7_isSlot_4 : decode cX7_isSlot 4 = .ok (.iload_n 1, 1) := by decide +kernel
theorem dX7_isSlot_5 : decode cX7_isSlot 5 = .ok (.aload_n 0, 1) := by decide +kernel
theorem dX7_isSlot_6 : decode cX7_isSlot 6 = .ok (.getfield 19, 3) := by decide +kernel
theorem dX7_isSlot_9 : decode cX7_isSlot 9 = .ok (.getfield 82, 3) := by decide +kernel
theorem dX7_isSlot_12 : decode cX7_isSlot 12 = .ok (.if_icmp .ge 7, 3) := by decide +kernel
theorem dX7_isSlot_15 : decode cX7_isSlot 15 = .ok (.iconst 1, 1) := by decide +kernel
theorem dX7_isSlot_16 : decode cX7_isSlot 16 = .ok (.goto 4, 3) := by decide +kernel
theorem dX7_isSlot_19 : decode cX7_isSlot 19 = .ok (.iconst 0, 1) := by decide +kernel
theorem dX7_isSlot_20 : decode cX7_isSlot 20 = .ok (.ireturn, 1) := by decide +kernel
theorem dX7_isWord_0 : decode cX7_isWord 0 = .ok (.iload_n 1, 1) := by decide +kernel
theorem dX7_isWord_1 : decode cX7_isWord 1 = .ok (.ifCond .lt 18, 3) := by decide +kernel
theorem dX7_isWord_4 : decode cX7_isWord 4 = .ok (.iload_n 1, 1) := by decide +kernel
theorem dX7_isWord_5 : decode cX7_isWord 5 = .ok (.aload_n 0, 1) := by decide +kernel
theorem dX7_isWord_6 : decode cX7_isWord 6 = .ok (.getfield 10, 3) := by decide +kernel
theorem dX7_isWord_9 : decode cX7_isWord 9 = .ok (.getfield 123, 3) := by decide +kernel
theorem dX7_isWord_12 : decode cX7_isWord 12 = .ok (.if_icmp .ge 7, 3) := by decide +kernel
theorem dX7_isWord_15 : decode cX7_isWord 15 = .ok (.iconst 1, 1) := by decide +kernel
theorem dX7_isWord_16 : decode cX7_isWord 16 = .ok (.goto 4, 3) := by decide +kernel
theorem dX7_isWord_19 : decode cX7_isWord 19 = .ok (.iconst 0, 1) := by decide +kernel
theorem dX7_isWord_20 : decode cX7_isWord 20 = .ok (.ireturn, 1) := by decide +kernel
theorem dX7_contains_0 : decode cX7_contains 0 = .ok (.iload_n 0, 1) := by decide +kernel
theorem dX7_contains_1 : decode cX7_contains 1 = .ok (.iload_n 1, 1) := by decide +kernel
theorem dX7_contains_2 : decode cX7_contains 2 = .ok (.ishr, 1) := by decide +kernel
theorem dX7_contains_3 : decode cX7_contains 3 = .ok (.iconst 1, 1) := by decide +kernel
theorem dX7_contains_4 : decode cX7_contains 4 = .ok (.iand, 1) := by decide +kernel
theorem dX7_contains_5 : decode cX7_contains 5 = .ok (.iconst 1, 1) := by decide +kernel
theorem dX7_contains_6 : decode cX7_contains 6 = .ok (.if_icmp .ne 7, 3) := by decide +kernel
theorem dX7_contains_9 : decode cX7_contains 9 = .ok (.iconst 1, 1) := by decide +kernel
theorem dX7_contains_10 : decode cX7_contains 10 = .ok (.goto 4, 3) := by decide +kernel
theorem dX7_contains_13 : decode cX7_contains 13 = .ok (.iconst 0, 1) := by decide +kernel
theorem dX7_contains_14 : decode cX7_contains 14 = .ok (.ireturn, 1) := by decide +kernel
theorem dX7_lengthOf_0 : decode cX7_lengthOf 0 = .ok (.iload_n 0, 1) := by decide +kernel
theorem dX7_lengthOf_1 : decode cX7_lengthOf 1 = .ok (.bipush 8, 2) := by decide +kernel
theorem dX7_lengthOf_3 : decode cX7_lengthOf 3 = .ok (.if_icmp .lt 10, 3) := by decide +kernel
theorem dX7_lengthOf_6 : decode cX7_lengthOf 6 = .ok (.iload_n 0, 1) := by decide +kernel
theorem dX7_lengthOf_7 : decode cX7_lengthOf 7 = .ok (.sipush 2400, 3) := by decide +kernel
theorem dX7_lengthOf_10 : decode cX7_lengthOf 10 = .ok (.if_icmp .le 5, 3) := by decide +kernel
theorem dX7_lengthOf_13 : decode cX7_lengthOf 13 = .ok (.iconst 0, 1) := by decide +kernel
theorem dX7_lengthOf_14 : decode cX7_lengthOf 14 = .ok (.ireturn, 1) := by decide +kernel
theorem dX7_lengthOf_15 : decode cX7_lengthOf 15 = .ok (.iload_n 0, 1) := by decide +kernel
theorem dX7_lengthOf_16 : decode cX7_lengthOf 16 = .ok (.istore_n 1, 1) := by decide +kernel
theorem dX7_lengthOf_17 : decode cX7_lengthOf 17 = .ok (.iconst 0, 1) := by decide +kernel
theorem dX7_lengthOf_18 : decode cX7_lengthOf 18 = .ok (.istore_n 2, 1) := by decide +kernel
theorem dX7_lengthOf_19 : decode cX7_lengthOf 19 = .ok (.iconst 0, 1) := by decide +kernel
theorem dX7_lengthOf_20 : decode cX7_lengthOf 20 = .ok (.istore_n 3, 1) := by decide +kernel
theorem dX7_lengthOf_21 : decode cX7_lengthOf 21 = .ok (.iload_n 3, 1) := by decide +kernel
theorem dX7_lengthOf_22 : decode cX7_lengthOf 22 = .ok (.iconst 4, 1) := by decide +kernel
theorem dX7_lengthOf_23 : decode cX7_lengthOf 23 = .ok (.if_icmp .ge 30, 3) := by decide +kernel
theorem dX7_lengthOf_26 : decode cX7_lengthOf 26 = .ok (.iload_n 1, 1) := by decide +kernel
theorem dX7_lengthOf_27 : decode cX7_lengthOf 27 = .ok (.ifCond .le 26, 3) := by decide +kernel
theorem dX7_lengthOf_30 : decode cX7_lengthOf 30 = .ok (.iload_n 1, 1) := by decide +kernel
theorem dX7_lengthOf_31 : decode cX7_lengthOf 31 = .ok (.bipush 7, 2) := by decide +kernel
theorem dX7_lengthOf_33 : decode cX7_lengthOf 33 = .ok (.irem, 1) := by decide +kernel
theorem dX7_lengthOf_34 : decode cX7_lengthOf 34 = .ok (.ifCond .ne 5, 3) := by decide +kernel
theorem dX7_lengthOf_37 : decode cX7_lengthOf 37 = .ok (.iconst 0, 1) := by decide +kernel
theorem dX7_lengthOf_38 : decode cX7_lengthOf 38 = .ok (.ireturn, 1) := by decide +kernel
theorem dX7_lengthOf_39 : decode cX7_lengthOf 39 = .ok (.iload_n 1, 1) := by decide +kernel
theorem dX7_lengthOf_40 : decode cX7_lengthOf 40 = .ok (.bipush 7, 2) := by decide +kernel
theorem dX7_lengthOf_42 : decode cX7_lengthOf 42 = .ok (.idiv, 1) := by decide +kernel
theorem dX7_lengthOf_43 : decode cX7_lengthOf 43 = .ok (.istore_n 1, 1) := by decide +kernel
theorem dX7_lengthOf_44 : decode cX7_lengthOf 44 = .ok (.iinc 2 1, 3) := by decide +kernel
theorem dX7_lengthOf_47 : decode cX7_lengthOf 47 = .ok (.iinc 3 1, 3) := by decide +kernel
theorem dX7_lengthOf_50 : decode cX7_lengthOf 50 = .ok (.goto (-29), 3) := by decide +kernel
theorem dX7_lengthOf_53 : decode cX7_lengthOf 53 = .ok (.iload_n 2, 1) := by decide +kernel
theorem dX7_lengthOf_54 : decode cX7_lengthOf 54 = .ok (.ireturn, 1) := by decide +kernel
theorem dX7_renew_0 : decode cX7_renew 0 = .ok (.aload_n 0, 1) := by decide +kernel
theorem dX7_renew_1 : decode cX7_renew 1 = .ok (.getfield 19, 3) := by decide +kernel
theorem dX7_renew_4 : decode cX7_renew 4 = .ok (.aload_n 0, 1) := by decide +kernel
theorem dX7_renew_5 : decode cX7_renew 5 = .ok (.getfield 10, 3) := by decide +kernel
theorem dX7_renew_8 : decode cX7_renew 8 = .ok (.invokevirtual 237, 3) := by decide +kernel
theorem dX7_renew_11 : decode cX7_renew 11 = .ok (.aload_n 0, 1) := by decide +kernel
theorem dX7_renew_12 : decode cX7_renew 12 = .ok (.getfield 26, 3) := by decide +kernel
theorem dX7_renew_15 : decode cX7_renew 15 = .ok (.aload_n 0, 1) := by decide +kernel
theorem dX7_renew_16 : decode cX7_renew 16 = .ok (.getfield 10, 3) := by decide +kernel
theorem dX7_renew_19 : decode cX7_renew 19 = .ok (.invokevirtual 240, 3) := by decide +kernel
theorem dX7_renew_22 : decode cX7_renew 22 = .ok (.aload_n 0, 1) := by decide +kernel
theorem dX7_renew_23 : decode cX7_renew 23 = .ok (.getfield 35, 3) := by decide +kernel
theorem dX7_renew_26 : decode cX7_renew 26 = .ok (.aload_n 0, 1) := by decide +kernel
theorem dX7_renew_27 : decode cX7_renew 27 = .ok (.getfield 10, 3) := by decide +kernel
theorem dX7_renew_30 : decode cX7_renew 30 = .ok (.invokevirtual 241, 3) := by decide +kernel
theorem dX7_renew_33 : decode cX7_renew 33 = .ok (.return_, 1) := by decide +kernel
theorem dX7_writeWord_0 : decode cX7_writeWord 0 = .ok (.iconst 0, 1) := by decide +kernel
theorem dX7_writeWord_1 : decode cX7_writeWord 1 = .ok (.istore_n 3, 1) := by decide +kernel
theorem dX7_writeWord_2 : decode cX7_writeWord 2 = .ok (.iconst 0, 1) := by decide +kernel
theorem dX7_writeWord_3 : decode cX7_writeWord 3 = .ok (.istore 4, 2) := by decide +kernel
theorem dX7_writeWord_5 : decode cX7_writeWord 5 = .ok (.iload 4, 2) := by decide +kernel
theorem dX7_writeWord_7 : decode cX7_writeWord 7 = .ok (.aload_n 0, 1) := by decide +kernel
theorem dX7_writeWord_8 : decode cX7_writeWord 8 = .ok (.getfield 19, 3) := by decide +kernel
theorem dX7_writeWord_11 : decode cX7_writeWord 11 = .ok (.getfield 99, 3) := by decide +kernel
theorem dX7_writeWord_14 : decode cX7_writeWord 14 = .ok (.iload_n 1, 1) := by decide +kernel
theorem dX7_writeWord_15 : decode cX7_writeWord 15 = .ok (.invokevirtual 67, 3) := by decide +kernel
theorem dX7_writeWord_18 : decode cX7_writeWord 18 = .ok (.if_icmp .ge 70, 3) := by decide +kernel
theorem dX7_writeWord_21 : decode cX7_writeWord 21 = .ok (.aload_n 0, 1) := by decide +kernel
theorem dX7_writeWord_22 : decode cX7_writeWord 22 = .ok (.getfield 19, 3) := by decide +kernel
theorem dX7_writeWord_25 : decode cX7_writeWord 25 = .ok (.iload_n 1, 1) := by decide +kernel
theorem dX7_writeWord_26 : decode cX7_writeWord 26 = .ok (.iload 4, 2) := by decide +kernel
theorem dX7_writeWord_28 : decode cX7_writeWord 28 = .ok (.invokevirtual 242, 3) := by decide +kernel
theorem dX7_writeWord_31 : decode cX7_writeWord 31 = .ok (.istore 5, 2) := by decide +kernel
theorem dX7_writeWord_33 : decode cX7_writeWord 33 = .ok (.bipush 97, 2) := by decide +kernel
theorem dX7_writeWord_35 : decode cX7_writeWord 35 = .ok (.aload_n 0, 1) := by decide +kernel
theorem dX7_writeWord_36 : decode cX7_writeWord 36 = .ok (.getfield 26, 3) := by decide +kernel
theorem dX7_writeWord_39 : decode cX7_writeWord 39 = .ok (.iload_n 2, 1) := by decide +kernel
theorem dX7_writeWord_40 : decode cX7_writeWord 40 = .ok (.iload 4, 2) := by decide +kernel
theorem dX7_writeWord_42 : decode cX7_writeWord 42 = .ok (.invokevirtual 245, 3) := by decide +kernel
theorem dX7_writeWord_45 : decode cX7_writeWord 45 = .ok (.iadd, 1) := by decide +kernel
theorem dX7_writeWord_46 : decode cX7_writeWord 46 = .ok (.istore 6, 2) := by decide +kernel
theorem dX7_writeWord_48 : decode cX7_writeWord 48 = .ok (.aload_n 0, 1) := by decide +kernel
theorem dX7_writeWord_49 : decode cX7_writeWord 49 = .ok (.getfield 10, 3) := by decide +kernel
theorem dX7_writeWord_52 : decode cX7_writeWord 52 = .ok (.getfield 63, 3) := by decide +kernel
theorem dX7_writeWord_55 : decode cX7_writeWord 55 = .ok (.iload 5, 2) := by decide +kernel
theorem dX7_writeWord_57 : decode cX7_writeWord 57 = .ok (.invokevirtual 67, 3) := by decide +kernel
theorem dX7_writeWord_60 : decode cX7_writeWord 60 = .ok (.iload 6, 2) := by decide +kernel
theorem dX7_writeWord_62 : decode cX7_writeWord 62 = .ok (.if_icmp .eq 20, 3) := by decide +kernel
theorem dX7_writeWord_65 : decode cX7_writeWord 65 = .ok (.aload_n 0, 1) := by decide +kernel
theorem dX7_writeWord_66 : decode cX7_writeWord 66 = .ok (.getfield 10, 3) := by decide +kernel
theorem dX7_writeWord_69 : decode cX7_writeWord 69 = .ok (.getfield 63, 3) := by decide +kernel
theorem dX7_writeWord_72 : decode cX7_writeWord 72 = .ok (.iload 5, 2) := by decide +kernel
theorem dX7_writeWord_74 : decode cX7_writeWord 74 = .ok (.iload 6, 2) := by decide +kernel
theorem dX7_writeWord_76 : decode cX7_writeWord 76 = .ok (.invokevirtual 78, 3) := by decide +kernel
theorem dX7_writeWord_79 : decode cX7_writeWord 79 = .ok (.iinc 3 1, 3) := by decide +kernel
theorem dX7_writeWord_82 : decode cX7_writeWord 82 = .ok (.iinc 4 1, 3) := by decide +kernel
theorem dX7_writeWord_85 : decode cX7_writeWord 85 = .ok (.goto (-80), 3) := by decide +kernel
theorem dX7_writeWord_88 : decode cX7_writeWord 88 = .ok (.iload_n 3, 1) := by decide +kernel
theorem dX7_writeWord_89 : decode cX7_writeWord 89 = .ok (.ireturn, 1) := by decide +kernel
theorem dX7_appendByLots_0 : decode cX7_appendByLots 0 = .ok (.iconst 0, 1) := by decide +kernel
theorem dX7_appendByLots_1 : decode cX7_appendByLots 1 = .ok (.istore_n 3, 1) := by decide +kernel
theorem dX7_appendByLots_2 : decode cX7_appendByLots 2 = .ok (.iload_n 2, 1) := by decide +kernel
theorem dX7_appendByLots_3 : decode cX7_appendByLots 3 = .ok (.i2l, 1) := by decide +kernel
theorem dX7_appendByLots_4 : decode cX7_appendByLots 4 = .ok (.lstore 4, 2) := by decide +kernel
theorem dX7_appendByLots_6 : decode cX7_appendByLots 6 = .ok (.iconst 0, 1) := by decide +kernel
theorem dX7_appendByLots_7 : decode cX7_appendByLots 7 = .ok (.istore 6, 2) := by decide +kernel
theorem dX7_appendByLots_9 : decode cX7_appendByLots 9 = .ok (.iload 6, 2) := by decide +kernel
theorem dX7_appendByLots_11 : decode cX7_appendByLots 11 = .ok (.iload_n 1, 1) := by decide +kernel
theorem dX7_appendByLots_12 : decode cX7_appendByLots 12 = .ok (.if_icmp .ge 107, 3) := by decide +kernel
theorem dX7_appendByLots_15 : decode cX7_appendByLots 15 = .ok (.lload 4, 2) := by decide +kernel
theorem dX7_appendByLots_17 : decode cX7_appendByLots 17 = .ok (.invokestatic 248, 3) := by decide +kernel
theorem dX7_appendByLots_20 : decode cX7_appendByLots 20 = .ok (.lstore 4, 2) := by decide +kernel
theorem dX7_appendByLots_22 : decode cX7_appendByLots 22 = .ok (.iconst 2, 1) := by decide +kernel
theorem dX7_appendByLots_23 : decode cX7_appendByLots 23 = .ok (.lload 4, 2) := by decide +kernel
theorem dX7_appendByLots_25 : decode cX7_appendByLots 25 = .ok (.ldc2_w 252, 3) := by decide +kernel
theorem dX7_appendByLots_28 : decode cX7_appendByLots 28 = .ok (.lrem, 1) := by decide +kernel
theorem dX7_appendByLots_29 : decode cX7_appendByLots 29 = .ok (.l2i, 1) := by decide +kernel
theorem dX7_appendByLots_30 : decode cX7_appendByLots 30 = .ok (.iadd, 1) := by decide +kernel
theorem dX7_appendByLots_31 : decode cX7_appendByLots 31 = .ok (.istore 7, 2) := by decide +kernel
theorem dX7_appendByLots_33 : decode cX7_appendByLots 33 = .ok (.iconst 0, 1) := by decide +kernel
theorem dX7_appendByLots_34 : decode cX7_appendByLots 34 = .ok (.istore 8, 2) := by decide +kernel
theorem dX7_appendByLots_36 : decode cX7_appendByLots 36 = .ok (.iconst 0, 1) := by decide +kernel
theorem dX7_appendByLots_37 : decode cX7_appendByLots 37 = .ok (.istore 9, 2) := by decide +kernel
theorem dX7_appendByLots_39 : decode cX7_appendByLots 39 = .ok (.iload 9, 2) := by decide +kernel
theorem dX7_appendByLots_41 : decode cX7_appendByLots 41 = .ok (.iload 7, 2) := by decide +kernel
theorem dX7_appendByLots_43 : decode cX7_appendByLots 43 = .ok (.if_icmp .ge 33, 3) := by decide +kernel
theorem dX7_appendByLots_46 : decode cX7_appendByLots 46 = .ok (.lload 4, 2) := by decide +kernel
theorem dX7_appendByLots_48 : decode cX7_appendByLots 48 = .ok (.invokestatic 248, 3) := by decide +kernel
theorem dX7_appendByLots_51 : decode cX7_appendByLots 51 = .ok (.lstore 4, 2) := by decide +kernel
theorem dX7_appendByLots_53 : decode cX7_appendByLots 53 = .ok (.iload 8, 2) := by decide +kernel
theorem dX7_appendByLots_55 : decode cX7_appendByLots 55 = .ok (.bipush 7, 2) := by decide +kernel
theorem dX7_appendByLots_57 : decode cX7_appendByLots 57 = .ok (.imul, 1) := by decide +kernel
theorem dX7_appendByLots_58 : decode cX7_appendByLots 58 = .ok (.iconst 1, 1) := by decide +kernel
theorem dX7_appendByLots_59 : decode cX7_appendByLots 59 = .ok (.iadd, 1) := by decide +kernel
theorem dX7_appendByLots_60 : decode cX7_appendByLots 60 = .ok (.lload 4, 2) := by decide +kernel
theorem dX7_appendByLots_62 : decode cX7_appendByLots 62 = .ok (.ldc2_w 254, 3) := by decide +kernel
theorem dX7_appendByLots_65 : decode cX7_appendByLots 65 = .ok (.lrem, 1) := by decide +kernel
theorem dX7_appendByLots_66 : decode cX7_appendByLots 66 = .ok (.l2i, 1) := by decide +kernel
theorem dX7_appendByLots_67 : decode cX7_appendByLots 67 = .ok (.iadd, 1) := by decide +kernel
theorem dX7_appendByLots_68 : decode cX7_appendByLots 68 = .ok (.istore 8, 2) := by decide +kernel
theorem dX7_appendByLots_70 : decode cX7_appendByLots 70 = .ok (.iinc 9 1, 3) := by decide +kernel
theorem dX7_appendByLots_73 : decode cX7_appendByLots 73 = .ok (.goto (-34), 3) := by decide +kernel
theorem dX7_appendByLots_76 : decode cX7_appendByLots 76 = .ok (.aload_n 0, 1) := by decide +kernel
theorem dX7_appendByLots_77 : decode cX7_appendByLots 77 = .ok (.getfield 10, 3) := by decide +kernel
theorem dX7_appendByLots_80 : decode cX7_appendByLots 80 = .ok (.iload 8, 2) := by decide +kernel
theorem dX7_appendByLots_82 : decode cX7_appendByLots 82 = .ok (.invokevirtual 120, 3) := by decide +kernel
theorem dX7_appendByLots_85 : decode cX7_appendByLots 85 = .ok (.iconst (-1), 1) := by decide +kernel
theorem dX7_appendByLots_86 : decode cX7_appendByLots 86 = .ok (.if_icmp .ne 27, 3) := by decide +kernel
theorem dX7_appendByLots_89 : decode cX7_appendByLots 89 = .ok (.aload_n 0, 1) := by decide +kernel
theorem dX7_appendByLots_90 : decode cX7_appendByLots 90 = .ok (.getfield 10, 3) := by decide +kernel
theorem dX7_appendByLots_93 : decode cX7_appendByLots 93 = .ok (.getfield 123, 3) := by decide +kernel
theorem dX7_appendByLots_96 : decode cX7_appendByLots 96 = .ok (.bipush 16, 2) := by decide +kernel
theorem dX7_appendByLots_98 : decode cX7_appendByLots 98 = .ok (.if_icmp .ge 15, 3) := by decide +kernel
theorem dX7_appendByLots_101 : decode cX7_appendByLots 101 = .ok (.aload_n 0, 1) := by decide +kernel
theorem dX7_appendByLots_102 : decode cX7_appendByLots 102 = .ok (.getfield 10, 3) := by decide +kernel
theorem dX7_appendByLots_105 : decode cX7_appendByLots 105 = .ok (.iload 8, 2) := by decide +kernel
theorem dX7_appendByLots_107 : decode cX7_appendByLots 107 = .ok (.invokevirtual 127, 3) := by decide +kernel
theorem dX7_appendByLots_110 : decode cX7_appendByLots 110 = .ok (.iinc 3 1, 3) := by decide +kernel
theorem dX7_appendByLots_113 : decode cX7_appendByLots 113 = .ok (.iinc 6 1, 3) := by decide +kernel
theorem dX7_appendByLots_116 : decode cX7_appendByLots 116 = .ok (.goto (-107), 3) := by decide +kernel
theorem dX7_appendByLots_119 : decode cX7_appendByLots 119 = .ok (.iload_n 3, 1) := by decide +kernel
theorem dX7_appendByLots_120 : decode cX7_appendByLots 120 = .ok (.ireturn, 1) := by decide +kernel
theorem dX7_nextLot_0 : decode cX7_nextLot 0 = .ok (.lload_n 0, 1) := by decide +kernel
theorem dX7_nextLot_1 : decode cX7_nextLot 1 = .ok (.ldc2_w 256, 3) := by decide +kernel
theorem dX7_nextLot_4 : decode cX7_nextLot 4 = .ok (.lmul, 1) := by decide +kernel
theorem dX7_nextLot_5 : decode cX7_nextLot 5 = .ok (.ldc2_w 258, 3) := by decide +kernel
theorem dX7_nextLot_8 : decode cX7_nextLot 8 = .ok (.lrem, 1) := by decide +kernel
theorem dX7_nextLot_9 : decode cX7_nextLot 9 = .ok (.lreturn, 1) := by decide +kernel
theorem dX7_fullSlots_0 : decode cX7_fullSlots 0 = .ok (.iconst 0, 1) := by decide +kernel
theorem dX7_fullSlots_1 : decode cX7_fullSlots 1 = .ok (.istore_n 1, 1) := by decide +kernel
theorem dX7_fullSlots_2 : decode cX7_fullSlots 2 = .ok (.iconst 0, 1) := by decide +kernel
theorem dX7_fullSlots_3 : decode cX7_fullSlots 3 = .ok (.istore_n 2, 1) := by decide +kernel
theorem dX7_fullSlots_4 : decode cX7_fullSlots 4 = .ok (.iload_n 2, 1) := by decide +kernel
theorem dX7_fullSlots_5 : decode cX7_fullSlots 5 = .ok (.aload_n 0, 1) := by decide +kernel
theorem dX7_fullSlots_6 : decode cX7_fullSlots 6 = .ok (.getfield 19, 3) := by decide +kernel
theorem dX7_fullSlots_9 : decode cX7_fullSlots 9 = .ok (.getfield 82, 3) := by decide +kernel
theorem dX7_fullSlots_12 : decode cX7_fullSlots 12 = .ok (.if_icmp .ge 30, 3) := by decide +kernel
theorem dX7_fullSlots_15 : decode cX7_fullSlots 15 = .ok (.aload_n 0, 1) := by decide +kernel
theorem dX7_fullSlots_16 : decode cX7_fullSlots 16 = .ok (.getfield 19, 3) := by decide +kernel
theorem dX7_fullSlots_19 : decode cX7_fullSlots 19 = .ok (.iload_n 2, 1) := by decide +kernel
theorem dX7_fullSlots_20 : decode cX7_fullSlots 20 = .ok (.aload_n 0, 1) := by decide +kernel
theorem dX7_fullSlots_21 : decode cX7_fullSlots 21 = .ok (.getfield 10, 3) := by decide +kernel
theorem dX7_fullSlots_24 : decode cX7_fullSlots 24 = .ok (.invokevirtual 200, 3) := by decide +kernel
theorem dX7_fullSlots_27 : decode cX7_fullSlots 27 = .ok (.ifCond .eq 9, 3) := by decide +kernel
theorem dX7_fullSlots_30 : decode cX7_fullSlots 30 = .ok (.iload_n 1, 1) := by decide +kernel
theorem dX7_fullSlots_31 : decode cX7_fullSlots 31 = .ok (.iconst 1, 1) := by decide +kernel
theorem dX7_fullSlots_32 : decode cX7_fullSlots 32 = .ok (.iload_n 2, 1) := by decide +kernel
theorem dX7_fullSlots_33 : decode cX7_fullSlots 33 = .ok (.ishl, 1) := by decide +kernel
theorem dX7_fullSlots_34 : decode cX7_fullSlots 34 = .ok (.ior, 1) := by decide +kernel
theorem dX7_fullSlots_35 : decode cX7_fullSlots 35 = .ok (.istore_n 1, 1) := by decide +kernel
theorem dX7_fullSlots_36 : decode cX7_fullSlots 36 = .ok (.iinc 2 1, 3) := by decide +kernel
theorem dX7_fullSlots_39 : decode cX7_fullSlots 39 = .ok (.goto (-35), 3) := by decide +kernel
theorem dX7_fullSlots_42 : decode cX7_fullSlots 42 = .ok (.iload_n 1, 1) := by decide +kernel
theorem dX7_fullSlots_43 : decode cX7_fullSlots 43 = .ok (.ireturn, 1) := by decide +kernel
theorem dX7_wrongSlots_0 : decode cX7_wrongSlots 0 = .ok (.iconst 0, 1) := by decide +kernel
theorem dX7_wrongSlots_1 : decode cX7_wrongSlots 1 = .ok (.istore_n 1, 1) := by decide +kernel
theorem dX7_wrongSlots_2 : decode cX7_wrongSlots 2 = .ok (.iconst 0, 1) := by decide +kernel
theorem dX7_wrongSlots_3 : decode cX7_wrongSlots 3 = .ok (.istore_n 2, 1) := by decide +kernel
theorem dX7_wrongSlots_4 : decode cX7_wrongSlots 4 = .ok (.iload_n 2, 1) := by decide +kernel
theorem dX7_wrongSlots_5 : decode cX7_wrongSlots 5 = .ok (.aload_n 0, 1) := by decide +kernel
theorem dX7_wrongSlots_6 : decode cX7_wrongSlots 6 = .ok (.getfield 19, 3) := by decide +kernel
theorem dX7_wrongSlots_9 : decode cX7_wrongSlots 9 = .ok (.getfield 82, 3) := by decide +kernel
theorem dX7_wrongSlots_12 : decode cX7_wrongSlots 12 = .ok (.if_icmp .ge 63, 3) := by decide +kernel
theorem dX7_wrongSlots_15 : decode cX7_wrongSlots 15 = .ok (.aload_n 0, 1) := by decide +kernel
theorem dX7_wrongSlots_16 : decode cX7_wrongSlots 16 = .ok (.getfield 19, 3) := by decide +kernel
theorem dX7_wrongSlots_19 : decode cX7_wrongSlots 19 = .ok (.iload_n 2, 1) := by decide +kernel
theorem dX7_wrongSlots_20 : decode cX7_wrongSlots 20 = .ok (.aload_n 0, 1) := by decide +kernel
theorem dX7_wrongSlots_21 : decode cX7_wrongSlots 21 = .ok (.getfield 10, 3) := by decide +kernel
theorem dX7_wrongSlots_24 : decode cX7_wrongSlots 24 = .ok (.invokevirtual 200, 3) := by decide +kernel
theorem dX7_wrongSlots_27 : decode cX7_wrongSlots 27 = .ok (.istore_n 3, 1) := by decide +kernel
theorem dX7_wrongSlots_28 : decode cX7_wrongSlots 28 = .ok (.iload_n 3, 1) := by decide +kernel
theorem dX7_wrongSlots_29 : decode cX7_wrongSlots 29 = .ok (.ifCond .eq 40, 3) := by decide +kernel
theorem dX7_wrongSlots_32 : decode cX7_wrongSlots 32 = .ok (.iload_n 1, 1) := by decide +kernel
theorem dX7_wrongSlots_33 : decode cX7_wrongSlots 33 = .ok (.aload_n 0, 1) := by decide +kernel
theorem dX7_wrongSlots_34 : decode cX7_wrongSlots 34 = .ok (.getfield 10, 3) := by decide +kernel
theorem dX7_wrongSlots_37 : decode cX7_wrongSlots 37 = .ok (.iload_n 3, 1) := by decide +kernel
theorem dX7_wrongSlots_38 : decode cX7_wrongSlots 38 = .ok (.invokevirtual 120, 3) := by decide +kernel
theorem dX7_wrongSlots_41 : decode cX7_wrongSlots 41 = .ok (.iconst (-1), 1) := by decide +kernel
theorem dX7_wrongSlots_42 : decode cX7_wrongSlots 42 = .ok (.if_icmp .ne 7, 3) := by decide +kernel
theorem dX7_wrongSlots_45 : decode cX7_wrongSlots 45 = .ok (.iconst 1, 1) := by decide +kernel
theorem dX7_wrongSlots_46 : decode cX7_wrongSlots 46 = .ok (.goto 4, 3) := by decide +kernel
theorem dX7_wrongSlots_49 : decode cX7_wrongSlots 49 = .ok (.iconst 0, 1) := by decide +kernel
theorem dX7_wrongSlots_50 : decode cX7_wrongSlots 50 = .ok (.iadd, 1) := by decide +kernel
theorem dX7_wrongSlots_51 : decode cX7_wrongSlots 51 = .ok (.istore_n 1, 1) := by decide +kernel
theorem dX7_wrongSlots_52 : decode cX7_wrongSlots 52 = .ok (.iload_n 1, 1) := by decide +kernel
theorem dX7_wrongSlots_53 : decode cX7_wrongSlots 53 = .ok (.aload_n 0, 1) := by decide +kernel
theorem dX7_wrongSlots_54 : decode cX7_wrongSlots 54 = .ok (.iload_n 3, 1) := by decide +kernel
theorem dX7_wrongSlots_55 : decode cX7_wrongSlots 55 = .ok (.invokevirtual 214, 3) := by decide +kernel
theorem dX7_wrongSlots_58 : decode cX7_wrongSlots 58 = .ok (.iload_n 2, 1) := by decide +kernel
theorem dX7_wrongSlots_59 : decode cX7_wrongSlots 59 = .ok (.if_icmp .eq 7, 3) := by decide +kernel
theorem dX7_wrongSlots_62 : decode cX7_wrongSlots 62 = .ok (.iconst 1, 1) := by decide +kernel
theorem dX7_wrongSlots_63 : decode cX7_wrongSlots 63 = .ok (.goto 4, 3) := by decide +kernel
theorem dX7_wrongSlots_66 : decode cX7_wrongSlots 66 = .ok (.iconst 0, 1) := by decide +kernel
theorem dX7_wrongSlots_67 : decode cX7_wrongSlots 67 = .ok (.iadd, 1) := by decide +kernel
theorem dX7_wrongSlots_68 : decode cX7_wrongSlots 68 = .ok (.istore_n 1, 1) := by decide +kernel
theorem dX7_wrongSlots_69 : decode cX7_wrongSlots 69 = .ok (.iinc 2 1, 3) := by decide +kernel
theorem dX7_wrongSlots_72 : decode cX7_wrongSlots 72 = .ok (.goto (-68), 3) := by decide +kernel
theorem dX7_wrongSlots_75 : decode cX7_wrongSlots 75 = .ok (.iload_n 1, 1) := by decide +kernel
theorem dX7_wrongSlots_76 : decode cX7_wrongSlots 76 = .ok (.ireturn, 1) := by decide +kernel
theorem dX7_firstSlotThatReads_0 : decode cX7_firstSlotThatReads 0 = .ok (.iconst 0, 1) := by decide +kernel
theorem dX7_firstSlotThatReads_1 : decode cX7_firstSlotThatReads 1 = .ok (.istore_n 2, 1) := by decide +kernel
theorem dX7_firstSlotThatReads_2 : decode cX7_firstSlotThatReads 2 = .ok (.iload_n 2, 1) := by decide +kernel
theorem dX7_firstSlotThatReads_3 : decode cX7_firstSlotThatReads 3 = .ok (.aload_n 0, 1) := by decide +kernel
theorem dX7_firstSlotThatReads_4 : decode cX7_firstSlotThatReads 4 = .ok (.getfield 19, 3) := by decide +kernel
theorem dX7_firstSlotThatReads_7 : decode cX7_firstSlotThatReads 7 = .ok (.getfield 82, 3) := by decide +kernel
theorem dX7_firstSlotThatReads_10 : decode cX7_firstSlotThatReads 10 = .ok (.if_icmp .ge 27, 3) := by decide +kernel
theorem dX7_firstSlotThatReads_13 : decode cX7_firstSlotThatReads 13 = .ok (.aload_n 0, 1) := by decide +kernel
theorem dX7_firstSlotThatReads_14 : decode cX7_firstSlotThatReads 14 = .ok (.getfield 19, 3) := by decide +kernel
theorem dX7_firstSlotThatReads_17 : decode cX7_firstSlotThatReads 17 = .ok (.iload_n 2, 1) := by decide +kernel
theorem dX7_firstSlotThatReads_18 : decode cX7_firstSlotThatReads 18 = .ok (.aload_n 0, 1) := by decide +kernel
theorem dX7_firstSlotThatReads_19 : decode cX7_firstSlotThatReads 19 = .ok (.getfield 10, 3) := by decide +kernel
theorem dX7_firstSlotThatReads_22 : decode cX7_firstSlotThatReads 22 = .ok (.invokevirtual 200, 3) := by decide +kernel
theorem dX7_firstSlotThatReads_25 : decode cX7_firstSlotThatReads 25 = .ok (.iload_n 1, 1) := by decide +kernel
theorem dX7_firstSlotThatReads_26 : decode cX7_firstSlotThatReads 26 = .ok (.if_icmp .ne 5, 3) := by decide +kernel
theorem dX7_firstSlotThatReads_29 : decode cX7_firstSlotThatReads 29 = .ok (.iload_n 2, 1) := by decide +kernel
theorem dX7_firstSlotThatReads_30 : decode cX7_firstSlotThatReads 30 = .ok (.ireturn, 1) := by decide +kernel
theorem dX7_firstSlotThatReads_31 : decode cX7_firstSlotThatReads 31 = .ok (.iinc 2 1, 3) := by decide +kernel
theorem dX7_firstSlotThatReads_34 : decode cX7_firstSlotThatReads 34 = .ok (.goto (-32), 3) := by decide +kernel
theorem dX7_firstSlotThatReads_37 : decode cX7_firstSlotThatReads 37 = .ok (.iconst (-1), 1) := by decide +kernel
theorem dX7_firstSlotThatReads_38 : decode cX7_firstSlotThatReads 38 = .ok (.ireturn, 1) := by decide +kernel
theorem dX7_hardestSlot_0 : decode cX7_hardestSlot 0 = .ok (.iconst (-1), 1) := by decide +kernel
theorem dX7_hardestSlot_1 : decode cX7_hardestSlot 1 = .ok (.istore_n 1, 1) := by decide +kernel
theorem dX7_hardestSlot_2 : decode cX7_hardestSlot 2 = .ok (.iconst 0, 1) := by decide +kernel
theorem dX7_hardestSlot_3 : decode cX7_hardestSlot 3 = .ok (.istore_n 2, 1) := by decide +kernel
theorem dX7_hardestSlot_4 : decode cX7_hardestSlot 4 = .ok (.iload_n 2, 1) := by decide +kernel
theorem dX7_hardestSlot_5 : decode cX7_hardestSlot 5 = .ok (.aload_n 0, 1) := by decide +kernel
theorem dX7_hardestSlot_6 : decode cX7_hardestSlot 6 = .ok (.getfield 19, 3) := by decide +kernel
theorem dX7_hardestSlot_9 : decode cX7_hardestSlot 9 = .ok (.getfield 82, 3) := by decide +kernel
theorem dX7_hardestSlot_12 : decode cX7_hardestSlot 12 = .ok (.if_icmp .ge 40, 3) := by decide +kernel
theorem dX7_hardestSlot_15 : decode cX7_hardestSlot 15 = .ok (.aload_n 0, 1) := by decide +kernel
theorem dX7_hardestSlot_16 : decode cX7_hardestSlot 16 = .ok (.getfield 19, 3) := by decide +kernel
theorem dX7_hardestSlot_19 : decode cX7_hardestSlot 19 = .ok (.iload_n 2, 1) := by decide +kernel
theorem dX7_hardestSlot_20 : decode cX7_hardestSlot 20 = .ok (.aload_n 0, 1) := by decide +kernel
theorem dX7_hardestSlot_21 : decode cX7_hardestSlot 21 = .ok (.getfield 10, 3) := by decide +kernel
theorem dX7_hardestSlot_24 : decode cX7_hardestSlot 24 = .ok (.invokevirtual 200, 3) := by decide +kernel
theorem dX7_hardestSlot_27 : decode cX7_hardestSlot 27 = .ok (.ifCond .ne 19, 3) := by decide +kernel
theorem dX7_hardestSlot_30 : decode cX7_hardestSlot 30 = .ok (.iload_n 1, 1) := by decide +kernel
theorem dX7_hardestSlot_31 : decode cX7_hardestSlot 31 = .ok (.iconst (-1), 1) := by decide +kernel
theorem dX7_hardestSlot_32 : decode cX7_hardestSlot 32 = .ok (.if_icmp .eq 12, 3) := by decide +kernel
theorem dX7_hardestSlot_35 : decode cX7_hardestSlot 35 = .ok (.aload_n 0, 1) := by decide +kernel
theorem dX7_hardestSlot_36 : decode cX7_hardestSlot 36 = .ok (.iload_n 2, 1) := by decide +kernel
theorem dX7_hardestSlot_37 : decode cX7_hardestSlot 37 = .ok (.iload_n 1, 1) := by decide +kernel
theorem dX7_hardestSlot_38 : decode cX7_hardestSlot 38 = .ok (.invokevirtual 260, 3) := by decide +kernel
theorem dX7_hardestSlot_41 : decode cX7_hardestSlot 41 = .ok (.ifCond .eq 5, 3) := by decide +kernel
theorem dX7_hardestSlot_44 : decode cX7_hardestSlot 44 = .ok (.iload_n 2, 1) := by decide +kernel
theorem dX7_hardestSlot_45 : decode cX7_hardestSlot 45 = .ok (.istore_n 1, 1) := by decide +kernel
theorem dX7_hardestSlot_46 : decode cX7_hardestSlot 46 = .ok (.iinc 2 1, 3) := by decide +kernel
theorem dX7_hardestSlot_49 : decode cX7_hardestSlot 49 = .ok (.goto (-45), 3) := by decide +kernel
theorem dX7_hardestSlot_52 : decode cX7_hardestSlot 52 = .ok (.iload_n 1, 1) := by decide +kernel
theorem dX7_hardestSlot_53 : decode cX7_hardestSlot 53 = .ok (.ireturn, 1) := by decide +kernel
theorem dX7_isHarder_0 : decode cX7_isHarder 0 = .ok (.aload_n 0, 1) := by decide +kernel
theorem dX7_isHarder_1 : decode cX7_isHarder 1 = .ok (.getfield 35, 3) := by decide +kernel
theorem dX7_isHarder_4 : decode cX7_isHarder 4 = .ok (.getfield 197, 3) := by decide +kernel
theorem dX7_isHarder_7 : decode cX7_isHarder 7 = .ok (.iload_n 1, 1) := by decide +kernel
theorem dX7_isHarder_8 : decode cX7_isHarder 8 = .ok (.invokevirtual 67, 3) := by decide +kernel
theorem dX7_isHarder_11 : decode cX7_isHarder 11 = .ok (.invokestatic 192, 3) := by decide +kernel
theorem dX7_isHarder_14 : decode cX7_isHarder 14 = .ok (.istore_n 3, 1) := by decide +kernel
theorem dX7_isHarder_15 : decode cX7_isHarder 15 = .ok (.aload_n 0, 1) := by decide +kernel
theorem dX7_isHarder_16 : decode cX7_isHarder 16 = .ok (.getfield 35, 3) := by decide +kernel
theorem dX7_isHarder_19 : decode cX7_isHarder 19 = .ok (.getfield 197, 3) := by decide +kernel
theorem dX7_isHarder_22 : decode cX7_isHarder 22 = .ok (.iload_n 2, 1) := by decide +kernel
theorem dX7_isHarder_23 : decode cX7_isHarder 23 = .ok (.invokevirtual 67, 3) := by decide +kernel
theorem dX7_isHarder_26 : decode cX7_isHarder 26 = .ok (.invokestatic 192, 3) := by decide +kernel
theorem dX7_isHarder_29 : decode cX7_isHarder 29 = .ok (.istore 4, 2) := by decide +kernel
theorem dX7_isHarder_31 : decode cX7_isHarder 31 = .ok (.iload_n 3, 1) := by decide +kernel
theorem dX7_isHarder_32 : decode cX7_isHarder 32 = .ok (.iload 4, 2) := by decide +kernel
theorem dX7_isHarder_34 : decode cX7_isHarder 34 = .ok (.if_icmp .eq 15, 3) := by decide +kernel
theorem dX7_isHarder_37 : decode cX7_isHarder 37 = .ok (.iload_n 3, 1) := by decide +kernel
theorem dX7_isHarder_38 : decode cX7_isHarder 38 = .ok (.iload 4, 2) := by decide +kernel
theorem dX7_isHarder_40 : decode cX7_isHarder 40 = .ok (.if_icmp .ge 7, 3) := by decide +kernel
theorem dX7_isHarder_43 : decode cX7_isHarder 43 = .ok (.iconst 1, 1) := by decide +kernel
theorem dX7_isHarder_44 : decode cX7_isHarder 44 = .ok (.goto 4, 3) := by decide +kernel
theorem dX7_isHarder_47 : decode cX7_isHarder 47 = .ok (.iconst 0, 1) := by decide +kernel
theorem dX7_isHarder_48 : decode cX7_isHarder 48 = .ok (.ireturn, 1) := by decide +kernel
theorem dX7_isHarder_49 : decode cX7_isHarder 49 = .ok (.aload_n 0, 1) := by decide +kernel
theorem dX7_isHarder_50 : decode cX7_isHarder 50 = .ok (.getfield 19, 3) := by decide +kernel
theorem dX7_isHarder_53 : decode cX7_isHarder 53 = .ok (.getfield 186, 3) := by decide +kernel
theorem dX7_isHarder_56 : decode cX7_isHarder 56 = .ok (.iload_n 1, 1) := by decide +kernel
theorem dX7_isHarder_57 : decode cX7_isHarder 57 = .ok (.invokevirtual 67, 3) := by decide +kernel
theorem dX7_isHarder_60 : decode cX7_isHarder 60 = .ok (.invokestatic 192, 3) := by decide +kernel
theorem dX7_isHarder_63 : decode cX7_isHarder 63 = .ok (.aload_n 0, 1) := by decide +kernel
theorem dX7_isHarder_64 : decode cX7_isHarder 64 = .ok (.getfield 19, 3) := by decide +kernel
theorem dX7_isHarder_67 : decode cX7_isHarder 67 = .ok (.getfield 186, 3) := by decide +kernel
theorem dX7_isHarder_70 : decode cX7_isHarder 70 = .ok (.iload_n 2, 1) := by decide +kernel
theorem dX7_isHarder_71 : decode cX7_isHarder 71 = .ok (.invokevirtual 67, 3) := by decide +kernel
theorem dX7_isHarder_74 : decode cX7_isHarder 74 = .ok (.invokestatic 192, 3) := by decide +kernel
theorem dX7_isHarder_77 : decode cX7_isHarder 77 = .ok (.if_icmp .le 7, 3) := by decide +kernel
theorem dX7_isHarder_80 : decode cX7_isHarder 80 = .ok (.iconst 1, 1) := by decide +kernel
theorem dX7_isHarder_81 : decode cX7_isHarder 81 = .ok (.goto 4, 3) := by decide +kernel
theorem dX7_isHarder_84 : decode cX7_isHarder 84 = .ok (.iconst 0, 1) := by decide +kernel
theorem dX7_isHarder_85 : decode cX7_isHarder 85 = .ok (.ireturn, 1) := by decide +kernel
theorem dX7_knottedSlots_0 : decode cX7_knottedSlots 0 = .ok (.aload_n 0, 1) := by decide +kernel
theorem dX7_knottedSlots_1 : decode cX7_knottedSlots 1 = .ok (.getfield 19, 3) := by decide +kernel
theorem dX7_knottedSlots_4 : decode cX7_knottedSlots 4 = .ok (.getfield 82, 3) := by decide +kernel
theorem dX7_knottedSlots_7 : decode cX7_knottedSlots 7 = .ok (.istore_n 1, 1) := by decide +kernel
theorem dX7_knottedSlots_8 : decode cX7_knottedSlots 8 = .ok (.iload_n 1, 1) := by decide +kernel
theorem dX7_knottedSlots_9 : decode cX7_knottedSlots 9 = .ok (.bipush 6, 2) := by decide +kernel
theorem dX7_knottedSlots_11 : decode cX7_knottedSlots 11 = .ok (.if_icmp .le 5, 3) := by decide +kernel
theorem dX7_knottedSlots_14 : decode cX7_knottedSlots 14 = .ok (.iconst (-1), 1) := by decide +kernel
theorem dX7_knottedSlots_15 : decode cX7_knottedSlots 15 = .ok (.ireturn, 1) := by decide +kernel
theorem dX7_knottedSlots_16 : decode cX7_knottedSlots 16 = .ok (.aload_n 0, 1) := by decide +kernel
theorem dX7_knottedSlots_17 : decode cX7_knottedSlots 17 = .ok (.getfield 44, 3) := by decide +kernel
theorem dX7_knottedSlots_20 : decode cX7_knottedSlots 20 = .ok (.iconst 1, 1) := by decide +kernel
theorem dX7_knottedSlots_21 : decode cX7_knottedSlots 21 = .ok (.invokevirtual 162, 3) := by decide +kernel
theorem dX7_knottedSlots_24 : decode cX7_knottedSlots 24 = .ok (.ifCond .le 5, 3) := by decide +kernel
theorem dX7_knottedSlots_27 : decode cX7_knottedSlots 27 = .ok (.iconst 0, 1) := by decide +kernel
theorem dX7_knottedSlots_28 : decode cX7_knottedSlots 28 = .ok (.ireturn, 1) := by decide +kernel
theorem dX7_knottedSlots_29 : decode cX7_knottedSlots 29 = .ok (.iconst 1, 1) := by decide +kernel
theorem dX7_knottedSlots_30 : decode cX7_knottedSlots 30 = .ok (.istore_n 2, 1) := by decide +kernel
theorem dX7_knottedSlots_31 : decode cX7_knottedSlots 31 = .ok (.iload_n 2, 1) := by decide +kernel
theorem dX7_knottedSlots_32 : decode cX7_knottedSlots 32 = .ok (.iload_n 1, 1) := by decide +kernel
theorem dX7_knottedSlots_33 : decode cX7_knottedSlots 33 = .ok (.if_icmp .gt 45, 3) := by decide +kernel
theorem dX7_knottedSlots_36 : decode cX7_knottedSlots 36 = .ok (.iconst 1, 1) := by decide +kernel
theorem dX7_knottedSlots_37 : decode cX7_knottedSlots 37 = .ok (.istore_n 3, 1) := by decide +kernel
theorem dX7_knottedSlots_38 : decode cX7_knottedSlots 38 = .ok (.iload_n 3, 1) := by decide +kernel
theorem dX7_knottedSlots_39 : decode cX7_knottedSlots 39 = .ok (.iconst 1, 1) := by decide +kernel
theorem dX7_knottedSlots_40 : decode cX7_knottedSlots 40 = .ok (.iload_n 1, 1) := by decide +kernel
theorem dX7_knottedSlots_41 : decode cX7_knottedSlots 41 = .ok (.ishl, 1) := by decide +kernel
theorem dX7_knottedSlots_42 : decode cX7_knottedSlots 42 = .ok (.if_icmp .ge 30, 3) := by decide +kernel
theorem dX7_knottedSlots_45 : decode cX7_knottedSlots 45 = .ok (.iload_n 3, 1) := by decide +kernel
theorem dX7_knottedSlots_46 : decode cX7_knottedSlots 46 = .ok (.invokestatic 192, 3) := by decide +kernel
theorem dX7_knottedSlots_49 : decode cX7_knottedSlots 49 = .ok (.iload_n 2, 1) := by decide +kernel
theorem dX7_knottedSlots_50 : decode cX7_knottedSlots 50 = .ok (.if_icmp .ne 16, 3) := by decide +kernel
theorem dX7_knottedSlots_53 : decode cX7_knottedSlots 53 = .ok (.aload_n 0, 1) := by decide +kernel
theorem dX7_knottedSlots_54 : decode cX7_knottedSlots 54 = .ok (.getfield 44, 3) := by decide +kernel
theorem dX7_knottedSlots_57 : decode cX7_knottedSlots 57 = .ok (.iload_n 3, 1) := by decide +kernel
theorem dX7_knottedSlots_58 : decode cX7_knottedSlots 58 = .ok (.invokevirtual 263, 3) := by decide +kernel
theorem dX7_knottedSlots_61 : decode cX7_knottedSlots 61 = .ok (.ifCond .ne 5, 3) := by decide +kernel
theorem dX7_knottedSlots_64 : decode cX7_knottedSlots 64 = .ok (.iload_n 3, 1) := by decide +kernel
theorem dX7_knottedSlots_65 : decode cX7_knottedSlots 65 = .ok (.ireturn, 1) := by decide +kernel
theorem dX7_knottedSlots_66 : decode cX7_knottedSlots 66 = .ok (.iinc 3 1, 3) := by decide +kernel
theorem dX7_knottedSlots_69 : decode cX7_knottedSlots 69 = .ok (.goto (-31), 3) := by decide +kernel
theorem dX7_knottedSlots_72 : decode cX7_knottedSlots 72 = .ok (.iinc 2 1, 3) := by decide +kernel
theorem dX7_knottedSlots_75 : decode cX7_knottedSlots 75 = .ok (.goto (-44), 3) := by decide +kernel
theorem dX7_knottedSlots_78 : decode cX7_knottedSlots 78 = .ok (.iconst 0, 1) := by decide +kernel
theorem dX7_knottedSlots_79 : decode cX7_knottedSlots 79 = .ok (.ireturn, 1) := by decide +kernel
theorem dX7_emptySlots_0 : decode cX7_emptySlots 0 = .ok (.iconst 0, 1) := by decide +kernel
theorem dX7_emptySlots_1 : decode cX7_emptySlots 1 = .ok (.istore_n 1, 1) := by decide +kernel
theorem dX7_emptySlots_2 : decode cX7_emptySlots 2 = .ok (.iconst 0, 1) := by decide +kernel
theorem dX7_emptySlots_3 : decode cX7_emptySlots 3 = .ok (.istore_n 2, 1) := by decide +kernel
theorem dX7_emptySlots_4 : decode cX7_emptySlots 4 = .ok (.iload_n 2, 1) := by decide +kernel
theorem dX7_emptySlots_5 : decode cX7_emptySlots 5 = .ok (.aload_n 0, 1) := by decide +kernel
theorem dX7_emptySlots_6 : decode cX7_emptySlots 6 = .ok (.getfield 19, 3) := by decide +kernel
theorem dX7_emptySlots_9 : decode cX7_emptySlots 9 = .ok (.getfield 82, 3) := by decide +kernel
theorem dX7_emptySlots_12 : decode cX7_emptySlots 12 = .ok (.if_icmp .ge 29, 3) := by decide +kernel
theorem dX7_emptySlots_15 : decode cX7_emptySlots 15 = .ok (.aload_n 0, 1) := by decide +kernel
theorem dX7_emptySlots_16 : decode cX7_emptySlots 16 = .ok (.getfield 35, 3) := by decide +kernel
theorem dX7_emptySlots_19 : decode cX7_emptySlots 19 = .ok (.getfield 197, 3) := by decide +kernel
theorem dX7_emptySlots_22 : decode cX7_emptySlots 22 = .ok (.iload_n 2, 1) := by decide +kernel
theorem dX7_emptySlots_23 : decode cX7_emptySlots 23 = .ok (.invokevirtual 67, 3) := by decide +kernel
theorem dX7_emptySlots_26 : decode cX7_emptySlots 26 = .ok (.ifCond .ne 9, 3) := by decide +kernel
theorem dX7_emptySlots_29 : decode cX7_emptySlots 29 = .ok (.iload_n 1, 1) := by decide +kernel
theorem dX7_emptySlots_30 : decode cX7_emptySlots 30 = .ok (.iconst 1, 1) := by decide +kernel
theorem dX7_emptySlots_31 : decode cX7_emptySlots 31 = .ok (.iload_n 2, 1) := by decide +kernel
theorem dX7_emptySlots_32 : decode cX7_emptySlots 32 = .ok (.ishl, 1) := by decide +kernel
theorem dX7_emptySlots_33 : decode cX7_emptySlots 33 = .ok (.ior, 1) := by decide +kernel
theorem dX7_emptySlots_34 : decode cX7_emptySlots 34 = .ok (.istore_n 1, 1) := by decide +kernel
theorem dX7_emptySlots_35 : decode cX7_emptySlots 35 = .ok (.iinc 2 1, 3) := by decide +kernel
theorem dX7_emptySlots_38 : decode cX7_emptySlots 38 = .ok (.goto (-34), 3) := by decide +kernel
theorem dX7_emptySlots_41 : decode cX7_emptySlots 41 = .ok (.iload_n 1, 1) := by decide +kernel
theorem dX7_emptySlots_42 : decode cX7_emptySlots 42 = .ok (.ireturn, 1) := by decide +kernel
theorem dX7_wordInFirstFilling_0 : decode cX7_wordInFirstFilling 0 = .ok (.aload_n 0, 1) := by decide +kernel
theorem dX7_wordInFirstFilling_1 : decode cX7_wordInFirstFilling 1 = .ok (.getfield 44, 3) := by decide +kernel
theorem dX7_wordInFirstFilling_4 : decode cX7_wordInFirstFilling 4 = .ok (.iconst 1, 1) := by decide +kernel
theorem dX7_wordInFirstFilling_5 : decode cX7_wordInFirstFilling 5 = .ok (.invokevirtual 162, 3) := by decide +kernel
theorem dX7_wordInFirstFilling_8 : decode cX7_wordInFirstFilling 8 = .ok (.ifCond .ne 7, 3) := by decide +kernel
theorem dX7_wordInFirstFilling_11 : decode cX7_wordInFirstFilling 11 = .ok (.iconst (-1), 1) := by decide +kernel
theorem dX7_wordInFirstFilling_12 : decode cX7_wordInFirstFilling 12 = .ok (.goto 14, 3) := by decide +kernel
theorem dX7_wordInFirstFilling_15 : decode cX7_wordInFirstFilling 15 = .ok (.aload_n 0, 1) := by decide +kernel
theorem dX7_wordInFirstFilling_16 : decode cX7_wordInFirstFilling 16 = .ok (.getfield 44, 3) := by decide +kernel
theorem dX7_wordInFirstFilling_19 : decode cX7_wordInFirstFilling 19 = .ok (.getfield 266, 3) := by decide +kernel
theorem dX7_wordInFirstFilling_22 : decode cX7_wordInFirstFilling 22 = .ok (.iload_n 1, 1) := by decide +kernel
theorem dX7_wordInFirstFilling_23 : decode cX7_wordInFirstFilling 23 = .ok (.invokevirtual 67, 3) := by decide +kernel
theorem dX7_wordInFirstFilling_26 : decode cX7_wordInFirstFilling 26 = .ok (.ireturn, 1) := by decide +kernel
theorem dX7_lettersThatCanBe_0 : decode cX7_lettersThatCanBe 0 = .ok (.aload_n 0, 1) := by decide +kernel
theorem dX7_lettersThatCanBe_1 : decode cX7_lettersThatCanBe 1 = .ok (.getfield 10, 3) := by decide +kernel
theorem dX7_lettersThatCanBe_4 : decode cX7_lettersThatCanBe 4 = .ok (.getfield 63, 3) := by decide +kernel
theorem dX7_lettersThatCanBe_7 : decode cX7_lettersThatCanBe 7 = .ok (.iload_n 1, 1) := by decide +kernel
theorem dX7_lettersThatCanBe_8 : decode cX7_lettersThatCanBe 8 = .ok (.invokevirtual 67, 3) := by decide +kernel
theorem dX7_lettersThatCanBe_11 : decode cX7_lettersThatCanBe 11 = .ok (.istore_n 2, 1) := by decide +kernel
theorem dX7_lettersThatCanBe_12 : decode cX7_lettersThatCanBe 12 = .ok (.iload_n 2, 1) := by decide +kernel
theorem dX7_lettersThatCanBe_13 : decode cX7_lettersThatCanBe 13 = .ok (.iconst (-1), 1) := by decide +kernel
theorem dX7_lettersThatCanBe_14 : decode cX7_lettersThatCanBe 14 = .ok (.if_icmp .ne 5, 3) := by decide +kernel
theorem dX7_lettersThatCanBe_17 : decode cX7_lettersThatCanBe 17 = .ok (.iconst 0, 1) := by decide +kernel
theorem dX7_lettersThatCanBe_18 : decode cX7_lettersThatCanBe 18 = .ok (.ireturn, 1) := by decide +kernel
theorem dX7_lettersThatCanBe_19 : decode cX7_lettersThatCanBe 19 = .ok (.aload_n 0, 1) := by decide +kernel
theorem dX7_lettersThatCanBe_20 : decode cX7_lettersThatCanBe 20 = .ok (.getfield 19, 3) := by decide +kernel
theorem dX7_lettersThatCanBe_23 : decode cX7_lettersThatCanBe 23 = .ok (.getfield 171, 3) := by decide +kernel
theorem dX7_lettersThatCanBe_26 : decode cX7_lettersThatCanBe 26 = .ok (.iload_n 1, 1) := by decide +kernel
theorem dX7_lettersThatCanBe_27 : decode cX7_lettersThatCanBe 27 = .ok (.invokevirtual 67, 3) := by decide +kernel
theorem dX7_lettersThatCanBe_30 : decode cX7_lettersThatCanBe 30 = .ok (.istore_n 3, 1) := by decide +kernel
theorem dX7_lettersThatCanBe_31 : decode cX7_lettersThatCanBe 31 = .ok (.aload_n 0, 1) := by decide +kernel
theorem dX7_lettersThatCanBe_32 : decode cX7_lettersThatCanBe 32 = .ok (.getfield 19, 3) := by decide +kernel
theorem dX7_lettersThatCanBe_35 : decode cX7_lettersThatCanBe 35 = .ok (.getfield 174, 3) := by decide +kernel
theorem dX7_lettersThatCanBe_38 : decode cX7_lettersThatCanBe 38 = .ok (.iload_n 1, 1) := by decide +kernel
theorem dX7_lettersThatCanBe_39 : decode cX7_lettersThatCanBe 39 = .ok (.invokevirtual 67, 3) := by decide +kernel
theorem dX7_lettersThatCanBe_42 : decode cX7_lettersThatCanBe 42 = .ok (.istore 4, 2) := by decide +kernel
theorem dX7_lettersThatCanBe_44 : decode cX7_lettersThatCanBe 44 = .ok (.iload_n 3, 1) := by decide +kernel
theorem dX7_lettersThatCanBe_45 : decode cX7_lettersThatCanBe 45 = .ok (.iconst (-1), 1) := by decide +kernel
theorem dX7_lettersThatCanBe_46 : decode cX7_lettersThatCanBe 46 = .ok (.if_icmp .ne 25, 3) := by decide +kernel
theorem dX7_lettersThatCanBe_49 : decode cX7_lettersThatCanBe 49 = .ok (.iload 4, 2) := by decide +kernel
theorem dX7_lettersThatCanBe_51 : decode cX7_lettersThatCanBe 51 = .ok (.iconst (-1), 1) := by decide +kernel
theorem dX7_lettersThatCanBe_52 : decode cX7_lettersThatCanBe 52 = .ok (.if_icmp .ne 19, 3) := by decide +kernel
theorem dX7_lettersThatCanBe_55 : decode cX7_lettersThatCanBe 55 = .ok (.iload_n 2, 1) := by decide +kernel
theorem dX7_lettersThatCanBe_56 : decode cX7_lettersThatCanBe 56 = .ok (.ifCond .ne 8, 3) := by decide +kernel
theorem dX7_lettersThatCanBe_59 : decode cX7_lettersThatCanBe 59 = .ok (.bipush 63, 2) := by decide +kernel
theorem dX7_lettersThatCanBe_61 : decode cX7_lettersThatCanBe 61 = .ok (.goto 9, 3) := by decide +kernel
theorem dX7_lettersThatCanBe_64 : decode cX7_lettersThatCanBe 64 = .ok (.iconst 1, 1) := by decide +kernel
theorem dX7_lettersThatCanBe_65 : decode cX7_lettersThatCanBe 65 = .ok (.iload_n 2, 1) := by decide +kernel
theorem dX7_lettersThatCanBe_66 : decode cX7_lettersThatCanBe 66 = .ok (.bipush 97, 2) := by decide +kernel
theorem dX7_lettersThatCanBe_68 : decode cX7_lettersThatCanBe 68 = .ok (.isub, 1) := by decide +kernel
theorem dX7_lettersThatCanBe_69 : decode cX7_lettersThatCanBe 69 = .ok (.ishl, 1) := by decide +kernel
theorem dX7_lettersThatCanBe_70 : decode cX7_lettersThatCanBe 70 = .ok (.ireturn, 1) := by decide +kernel
theorem dX7_lettersThatCanBe_71 : decode cX7_lettersThatCanBe 71 = .ok (.aload_n 0, 1) := by decide +kernel
theorem dX7_lettersThatCanBe_72 : decode cX7_lettersThatCanBe 72 = .ok (.iload_n 3, 1) := by decide +kernel
theorem dX7_lettersThatCanBe_73 : decode cX7_lettersThatCanBe 73 = .ok (.iload_n 1, 1) := by decide +kernel
theorem dX7_lettersThatCanBe_74 : decode cX7_lettersThatCanBe 74 = .ok (.invokevirtual 269, 3) := by decide +kernel
theorem dX7_lettersThatCanBe_77 : decode cX7_lettersThatCanBe 77 = .ok (.aload_n 0, 1) := by decide +kernel
theorem dX7_lettersThatCanBe_78 : decode cX7_lettersThatCanBe 78 = .ok (.iload 4, 2) := by decide +kernel
theorem dX7_lettersThatCanBe_80 : decode cX7_lettersThatCanBe 80 = .ok (.iload_n 1, 1) := by decide +kernel
theorem dX7_lettersThatCanBe_81 : decode cX7_lettersThatCanBe 81 = .ok (.invokevirtual 269, 3) := by decide +kernel
theorem dX7_lettersThatCanBe_84 : decode cX7_lettersThatCanBe 84 = .ok (.iand, 1) := by decide +kernel
theorem dX7_lettersThatCanBe_85 : decode cX7_lettersThatCanBe 85 = .ok (.ireturn, 1) := by decide +kernel
theorem dX7_lettersLeft_0 : decode cX7_lettersLeft 0 = .ok (.iload_n 1, 1) := by decide +kernel
theorem dX7_lettersLeft_1 : decode cX7_lettersLeft 1 = .ok (.iconst (-1), 1) := by decide +kernel
theorem dX7_lettersLeft_2 : decode cX7_lettersLeft 2 = .ok (.if_icmp .ne 6, 3) := by decide +kernel
theorem dX7_lettersLeft_5 : decode cX7_lettersLeft 5 = .ok (.bipush 63, 2) := by decide +kernel
theorem dX7_lettersLeft_7 : decode cX7_lettersLeft 7 = .ok (.ireturn, 1) := by decide +kernel
theorem dX7_lettersLeft_8 : decode cX7_lettersLeft 8 = .ok (.aload_n 0, 1) := by decide +kernel
theorem dX7_lettersLeft_9 : decode cX7_lettersLeft 9 = .ok (.getfield 19, 3) := by decide +kernel
theorem dX7_lettersLeft_12 : decode cX7_lettersLeft 12 = .ok (.iload_n 2, 1) := by decide +kernel
theorem dX7_lettersLeft_13 : decode cX7_lettersLeft 13 = .ok (.iload_n 1, 1) := by decide +kernel
theorem dX7_lettersLeft_14 : decode cX7_lettersLeft 14 = .ok (.invokevirtual 272, 3) := by decide +kernel
theorem dX7_lettersLeft_17 : decode cX7_lettersLeft 17 = .ok (.istore_n 3, 1) := by decide +kernel
theorem dX7_lettersLeft_18 : decode cX7_lettersLeft 18 = .ok (.iconst 0, 1) := by decide +kernel
theorem dX7_lettersLeft_19 : decode cX7_lettersLeft 19 = .ok (.istore 4, 2) := by decide +kernel
theorem dX7_lettersLeft_21 : decode cX7_lettersLeft 21 = .ok (.iconst 0, 1) := by decide +kernel
theorem dX7_lettersLeft_22 : decode cX7_lettersLeft 22 = .ok (.istore 5, 2) := by decide +kernel
theorem dX7_lettersLeft_24 : decode cX7_lettersLeft 24 = .ok (.iload 5, 2) := by decide +kernel
theorem dX7_lettersLeft_26 : decode cX7_lettersLeft 26 = .ok (.bipush 6, 2) := by decide +kernel
theorem dX7_lettersLeft_28 : decode cX7_lettersLeft 28 = .ok (.if_icmp .ge 43, 3) := by decide +kernel
theorem dX7_lettersLeft_31 : decode cX7_lettersLeft 31 = .ok (.aload_n 0, 1) := by decide +kernel
theorem dX7_lettersLeft_32 : decode cX7_lettersLeft 32 = .ok (.getfield 35, 3) := by decide +kernel
theorem dX7_lettersLeft_35 : decode cX7_lettersLeft 35 = .ok (.getfield 197, 3) := by decide +kernel
theorem dX7_lettersLeft_38 : decode cX7_lettersLeft 38 = .ok (.iload_n 1, 1) := by decide +kernel
theorem dX7_lettersLeft_39 : decode cX7_lettersLeft 39 = .ok (.invokevirtual 67, 3) := by decide +kernel
theorem dX7_lettersLeft_42 : decode cX7_lettersLeft 42 = .ok (.aload_n 0, 1) := by decide +kernel
theorem dX7_lettersLeft_43 : decode cX7_lettersLeft 43 = .ok (.getfield 26, 3) := by decide +kernel
theorem dX7_lettersLeft_46 : decode cX7_lettersLeft 46 = .ok (.iload_n 3, 1) := by decide +kernel
theorem dX7_lettersLeft_47 : decode cX7_lettersLeft 47 = .ok (.iload 5, 2) := by decide +kernel
theorem dX7_lettersLeft_49 : decode cX7_lettersLeft 49 = .ok (.invokevirtual 275, 3) := by decide +kernel
theorem dX7_lettersLeft_52 : decode cX7_lettersLeft 52 = .ok (.iand, 1) := by decide +kernel
theorem dX7_lettersLeft_53 : decode cX7_lettersLeft 53 = .ok (.ifCond .eq 12, 3) := by decide +kernel
theorem dX7_lettersLeft_56 : decode cX7_lettersLeft 56 = .ok (.iload 4, 2) := by decide +kernel
theorem dX7_lettersLeft_58 : decode cX7_lettersLeft 58 = .ok (.iconst 1, 1) := by decide +kernel
theorem dX7_lettersLeft_59 : decode cX7_lettersLeft 59 = .ok (.iload 5, 2) := by decide +kernel
theorem dX7_lettersLeft_61 : decode cX7_lettersLeft 61 = .ok (.ishl, 1) := by decide +kernel
theorem dX7_lettersLeft_62 : decode cX7_lettersLeft 62 = .ok (.ior, 1) := by decide +kernel
theorem dX7_lettersLeft_63 : decode cX7_lettersLeft 63 = .ok (.istore 4, 2) := by decide +kernel
theorem dX7_lettersLeft_65 : decode cX7_lettersLeft 65 = .ok (.iinc 5 1, 3) := by decide +kernel
theorem dX7_lettersLeft_68 : decode cX7_lettersLeft 68 = .ok (.goto (-44), 3) := by decide +kernel
theorem dX7_lettersLeft_71 : decode cX7_lettersLeft 71 = .ok (.iload 4, 2) := by decide +kernel
theorem dX7_lettersLeft_73 : decode cX7_lettersLeft 73 = .ok (.ireturn, 1) := by decide +kernel
theorem dX8_init_0 : decode cX8_init 0 = .ok (.aload_n 0, 1) := by decide +kernel
theorem dX8_init_1 : decode cX8_init 1 = .ok (.invokespecial 1, 3) := by decide +kernel
theorem dX8_init_4 : decode cX8_init 4 = .ok (.aload_n 0, 1) := by decide +kernel
theorem dX8_init_5 : decode cX8_init 5 = .ok (.bipush 33, 2) := by decide +kernel
theorem dX8_init_7 : decode cX8_init 7 = .ok (.newarray .int, 2) := by decide +kernel
theorem dX8_init_9 : decode cX8_init 9 = .ok (.putfield 7, 3) := by decide +kernel
theorem dX8_init_12 : decode cX8_init 12 = .ok (.aload_n 0, 1) := by decide +kernel
theorem dX8_init_13 : decode cX8_init 13 = .ok (.sipush 330, 3) := by decide +kernel
theorem dX8_init_16 : decode cX8_init 16 = .ok (.newarray .int, 2) := by decide +kernel
theorem dX8_init_18 : decode cX8_init 18 = .ok (.putfield 13, 3) := by decide +kernel
theorem dX8_init_21 : decode cX8_init 21 = .ok (.aload_n 0, 1) := by decide +kernel
theorem dX8_init_22 : decode cX8_init 22 = .ok (.iconst 2, 1) := by decide +kernel
theorem dX8_init_23 : decode cX8_init 23 = .ok (.newarray .boolean, 2) := by decide +kernel
theorem dX8_init_25 : decode cX8_init 25 = .ok (.putfield 16, 3) := by decide +kernel
theorem dX8_init_28 : decode cX8_init 28 = .ok (.aload_n 0, 1) := by decide +kernel
theorem dX8_init_29 : decode cX8_init 29 = .ok (.bipush 66, 2) := by decide +kernel
theorem dX8_init_31 : decode cX8_init 31 = .ok (.newarray .int, 2) := by decide +kernel
theorem dX8_init_33 : decode cX8_init 33 = .ok (.putfield 20, 3) := by decide +kernel
theorem dX8_init_36 : decode cX8_init 36 = .ok (.aload_n 0, 1) := by decide +kernel
theorem dX8_init_37 : decode cX8_init 37 = .ok (.bipush 8, 2) := by decide +kernel
theorem dX8_init_39 : decode cX8_init 39 = .ok (.newarray .int, 2) := by decide +kernel
theorem dX8_init_41 : decode cX8_init 41 = .ok (.putfield 23, 3) := by decide +kernel
theorem dX8_init_44 : decode cX8_init 44 = .ok (.aload_n 0, 1) := by decide +kernel
theorem dX8_init_45 : decode cX8_init 45 = .ok (.bipush 8, 2) := by decide +kernel
theorem dX8_init_47 : decode cX8_init 47 = .ok (.newarray .int, 2) := by decide +kernel
theorem dX8_init_49 : decode cX8_init 49 = .ok (.putfield 26, 3) := by decide +kernel
theorem dX8_init_52 : decode cX8_init 52 = .ok (.aload_n 0, 1) := by decide +kernel
theorem dX8_init_53 : decode cX8_init 53 = .ok (.bipush 8, 2) := by decide +kernel
theorem dX8_init_55 : decode cX8_init 55 = .ok (.newarray .int, 2) := by decide +kernel
theorem dX8_init_57 : decode cX8_init 57 = .ok (.putfield 29, 3) := by decide +kernel
theorem dX8_init_60 : decode cX8_init 60 = .ok (.aload_n 0, 1) := by decide +kernel
theorem dX8_init_61 : decode cX8_init 61 = .ok (.bipush 8, 2) := by decide +kernel
theorem dX8_init_63 : decode cX8_init 63 = .ok (.newarray .int, 2) := by decide +kernel
theorem dX8_init_65 : decode cX8_init 65 = .ok (.putfield 32, 3) := by decide +kernel
theorem dX8_init_68 : decode cX8_init 68 = .ok (.aload_n 0, 1) := by decide +kernel
theorem dX8_init_69 : decode cX8_init 69 = .ok (.bipush 8, 2) := by decide +kernel
theorem dX8_init_71 : decode cX8_init 71 = .ok (.newarray .int, 2) := by decide +kernel
theorem dX8_init_73 : decode cX8_init 73 = .ok (.putfield 35, 3) := by decide +kernel
theorem dX8_init_76 : decode cX8_init 76 = .ok (.return_, 1) := by decide +kernel
theorem dX8_in_0 : decode cX8_in 0 = .ok (.iload_n 0, 1) := by decide +kernel
theorem dX8_in_1 : decode cX8_in 1 = .ok (.iload_n 1, 1) := by decide +kernel
theorem dX8_in_2 : decode cX8_in 2 = .ok (.if_icmp .lt 12, 3) := by decide +kernel
theorem dX8_in_5 : decode cX8_in 5 = .ok (.iload_n 0, 1) := by decide +kernel
theorem dX8_in_6 : decode cX8_in 6 = .ok (.iload_n 2, 1) := by decide +kernel
theorem dX8_in_7 : decode cX8_in 7 = .ok (.if_icmp .gt 7, 3) := by decide +kernel
theorem dX8_in_10 : decode cX8_in 10 = .ok (.iconst 1, 1) := by decide +kernel
theorem dX8_in_11 : decode cX8_in 11 = .ok (.goto 4, 3) := by decide +kernel
theorem dX8_in_14 : decode cX8_in 14 = .ok (.iconst 0, 1) := by decide +kernel
theorem dX8_in_15 : decode cX8_in 15 = .ok (.ireturn, 1) := by decide +kernel
theorem dX8_has_0 : decode cX8_has 0 = .ok (.iload_n 0, 1) := by decide +kernel
theorem dX8_has_1 : decode cX8_has 1 = .ok (.iload_n 1, 1) := by decide +kernel
theorem dX8_has_2 : decode cX8_has 2 = .ok (.ishr, 1) := by decide +kernel
theorem dX8_has_3 : decode cX8_has 3 = .ok (.iconst 1, 1) := by decide +kernel
theorem dX8_has_4 : decode cX8_has 4 = .ok (.iand, 1) := by decide +kernel
theorem dX8_has_5 : decode cX8_has 5 = .ok (.iconst 1, 1) := by decide +kernel
theorem dX8_has_6 : decode cX8_has 6 = .ok (.if_icmp .ne 7, 3) := by decide +kernel
theorem dX8_has_9 : decode cX8_has 9 = .ok (.iconst 1, 1) := by decide +kernel
theorem dX8_has_10 : decode cX8_has 10 = .ok (.goto 4, 3) := by decide +kernel
theorem dX8_has_13 : decode cX8_has 13 = .ok (.iconst 0, 1) := by decide +kernel
theorem dX8_has_14 : decode cX8_has 14 = .ok (.ireturn, 1) := by decide +kernel
theorem dX8_bits_0 : decode cX8_bits 0 = .ok (.iconst 0, 1) := by decide +kernel
theorem dX8_bits_1 : decode cX8_bits 1 = .ok (.istore_n 1, 1) := by decide +kernel
theorem dX8_bits_2 : decode cX8_bits 2 = .ok (.iload_n 0, 1) := by decide +kernel
theorem dX8_bits_3 : decode cX8_bits 3 = .ok (.istore_n 2, 1) := by decide +kernel
theorem dX8_bits_4 : decode cX8_bits 4 = .ok (.iload_n 2, 1) := by decide +kernel
theorem dX8_bits_5 : decode cX8_bits 5 = .ok (.ifCond .eq 15, 3) := by decide +kernel
theorem dX8_bits_8 : decode cX8_bits 8 = .ok (.iinc 1 1, 3) := by decide +kernel
theorem dX8_bits_11 : decode cX8_bits 11 = .ok (.iload_n 2, 1) := by decide +kernel
theorem dX8_bits_12 : decode cX8_bits 12 = .ok (.iload_n 2, 1) := by decide +kernel
theorem dX8_bits_13 : decode cX8_bits 13 = .ok (.iconst 1, 1) := by decide +kernel
theorem dX8_bits_14 : decode cX8_bits 14 = .ok (.isub, 1) := by decide +kernel
theorem dX8_bits_15 : decode cX8_bits 15 = .ok (.iand, 1) := by decide +kernel
theorem dX8_bits_16 : decode cX8_bits 16 = .ok (.istore_n 2, 1) := by decide +kernel
theorem dX8_bits_17 : decode cX8_bits 17 = .ok (.goto (-13), 3) := by decide +kernel
theorem dX8_bits_20 : decode cX8_bits 20 = .ok (.iload_n 1, 1) := by decide +kernel
theorem dX8_bits_21 : decode cX8_bits 21 = .ok (.ireturn, 1) := by decide +kernel
theorem dX8_remember_0 : decode cX8_remember 0 = .ok (.iconst 0, 1) := by decide +kernel
theorem dX8_remember_1 : decode cX8_remember 1 = .ok (.istore_n 1, 1) := by decide +kernel
theorem dX8_remember_2 : decode cX8_remember 2 = .ok (.iload_n 1, 1) := by decide +kernel
theorem dX8_remember_3 : decode cX8_remember 3 = .ok (.bipush 33, 2) := by decide +kernel
theorem dX8_remember_5 : decode cX8_remember 5 = .ok (.if_icmp .ge 29, 3) := by decide +kernel
theorem dX8_remember_8 : decode cX8_remember 8 = .ok (.aload_n 0, 1) := by decide +kernel
theorem dX8_remember_9 : decode cX8_remember 9 = .ok (.getfield 13, 3) := by decide +kernel
theorem dX8_remember_12 : decode cX8_remember 12 = .ok (.bipush 33, 2) := by decide +kernel
theorem dX8_remember_14 : decode cX8_remember 14 = .ok (.aload_n 0, 1) := by decide +kernel
theorem dX8_remember_15 : decode cX8_remember 15 = .ok (.getfield 38, 3) := by decide +kernel
theorem dX8_remember_18 : decode cX8_remember 18 = .ok (.imul, 1) := by decide +kernel
theorem dX8_remember_19 : decode cX8_remember 19 = .ok (.iload_n 1, 1) := by decide +kernel
theorem dX8_remember_20 : decode cX8_remember 20 = .ok (.iadd, 1) := by decide +kernel
theorem dX8_remember_21 : decode cX8_remember 21 = .ok (.aload_n 0, 1) := by decide +kernel
theorem dX8_remember_22 : decode cX8_remember 22 = .ok (.getfield 7, 3) := by decide +kernel
theorem dX8_remember_25 : decode cX8_remember 25 = .ok (.iload_n 1, 1) := by decide +kernel
theorem dX8_remember_26 : decode cX8_remember 26 = .ok (.iaload, 1) := by decide +kernel
theorem dX8_remember_27 : decode cX8_remember 27 = .ok (.iastore, 1) := by decide +kernel
theorem dX8_remember_28 : decode cX8_remember 28 = .ok (.iinc 1 1, 3) := by decide +kernel
theorem dX8_remember_31 : decode cX8_remember 31 = .ok (.goto (-29), 3) := by decide +kernel
theorem dX8_remember_34 : decode cX8_remember 34 = .ok (.aload_n 0, 1) := by decide +kernel
theorem dX8_remember_35 : decode cX8_remember 35 = .ok (.aload_n 0, 1) := by decide +kernel
theorem dX8_remember_36 : decode cX8_remember 36 = .ok (.getfield 38, 3) := by decide +kernel
theorem dX8_remember_39 : decode cX8_remember 39 = .ok (.iconst 1, 1) := by decide +kernel
theorem dX8_remember_40 : decode cX8_remember 40 = .ok (.iadd, 1) := by decide +kernel
theorem dX8_remember_41 : decode cX8_remember 41 = .ok (.bipush 10, 2) := by decide +kernel
theorem dX8_remember_43 : decode cX8_remember 43 = .ok (.irem, 1) := by decide +kernel
theorem dX8_remember_44 : decode cX8_remember 44 = .ok (.putfield 38, 3) := by decide +kernel
theorem dX8_remember_47 : decode cX8_remember 47 = .ok (.aload_n 0, 1) := by decide +kernel
theorem dX8_remember_48 : decode cX8_remember 48 = .ok (.dup, 1) := by decide +kernel
theorem dX8_remember_49 : decode cX8_remember 49 = .ok (.getfield 42, 3) := by decide +kernel
theorem dX8_remember_52 : decode cX8_remember 52 = .ok (.aload_n 0, 1) := by decide +kernel
theorem dX8_remember_53 : decode cX8_remember 53 = .ok (.getfield 42, 3) := by decide +kernel
theorem dX8_remember_56 : decode cX8_remember 56 = .ok (.bipush 10, 2) := by decide +kernel
theorem dX8_remember_58 : decode cX8_remember 58 = .ok (.if_icmp .ge 7, 3) := by decide +kernel
theorem dX8_remember_61 : decode cX8_remember 61 = .ok (.iconst 1, 1) := by decide +kernel
theorem dX8_remember_62 : decode cX8_remember 62 = .ok (.goto 4, 3) := by decide +kernel
theorem dX8_remember_65 : decode cX8_remember 65 = .ok (.iconst 0, 1) := by decide +kernel
theorem dX8_remember_66 : decode cX8_remember 66 = .ok (.iadd, 1) := by decide +kernel
theorem dX8_remember_67 : decode cX8_remember 67 = .ok (.putfield 42, 3) := by decide +kernel
theorem dX8_remember_70 : decode cX8_remember 70 = .ok (.return_, 1) := by decide +kernel
theorem dX8_layLine_0 : decode cX8_layLine 0 = .ok (.iconst 0, 1) := by decide +kernel
theorem dX8_layLine_1 : decode cX8_layLine 1 = .ok (.istore_n 3, 1) := by decide +kernel
theorem dX8_layLine_2 : decode cX8_layLine 2 = .ok (.iconst 0, 1) := by decide +kernel
theorem dX8_layLine_3 : decode cX8_layLine 3 = .ok (.istore 4, 2) := by decide +kernel
theorem dX8_layLine_5 : decode cX8_layLine 5 = .ok (.iload 4, 2) := by decide +kernel
theorem dX8_layLine_7 : decode cX8_layLine 7 = .ok (.iconst 4, 1) := by decide +kernel
theorem dX8_layLine_8 : decode cX8_layLine 8 = .ok (.if_icmp .gt 107, 3) := by decide +kernel
theorem dX8_layLine_11 : decode cX8_layLine 11 = .ok (.iload 4, 2) := by decide +kernel
theorem dX8_layLine_13 : decode cX8_layLine 13 = .ok (.iconst 4, 1) := by decide +kernel
theorem dX8_layLine_14 : decode cX8_layLine 14 = .ok (.if_icmp .ge 22, 3) := by decide +kernel
theorem dX8_layLine_17 : decode cX8_layLine 17 = .ok (.aload_n 0, 1) := by decide +kernel
theorem dX8_layLine_18 : decode cX8_layLine 18 = .ok (.getfield 7, 3) := by decide +kernel
theorem dX8_layLine_21 : decode cX8_layLine 21 = .ok (.iload_n 1, 1) := by decide +kernel
theorem dX8_layLine_22 : decode cX8_layLine 22 = .ok (.iload_n 2, 1) := by decide +kernel
theorem dX8_layLine_23 : decode cX8_layLine 23 = .ok (.iload 4, 2) := by decide +kernel
theorem dX8_layLine_25 : decode cX8_layLine 25 = .ok (.imul, 1) := by decide +kernel
theorem dX8_layLine_26 : decode cX8_layLine 26 = .ok (.iadd, 1) := by decide +kernel
theorem dX8_layLine_27 : decode cX8_layLine 27 = .ok (.iaload, 1) := by decide +kernel
theorem dX8_layLine_28 : decode cX8_layLine 28 = .ok (.iconst (-1), 1) := by decide +kernel
theorem dX8_layLine_29 : decode cX8_layLine 29 = .ok (.if_icmp .eq 7, 3) := by decide +kernel
theorem dX8_layLine_32 : decode cX8_layLine 32 = .ok (.iconst 1, 1) := by decide +kernel
theorem dX8_layLine_33 : decode cX8_layLine 33 = .ok (.goto 4, 3) := by decide +kernel
theorem dX8_layLine_36 : decode cX8_layLine 36 = .ok (.iconst 0, 1) := by decide +kernel
theorem dX8_layLine_37 : decode cX8_layLine 37 = .ok (.istore 5, 2) := by decide +kernel
theorem dX8_layLine_39 : decode cX8_layLine 39 = .ok (.iload 5, 2) := by decide +kernel
theorem dX8_layLine_41 : decode cX8_layLine 41 = .ok (.ifCond .ne 55, 3) := by decide +kernel
theorem dX8_layLine_44 : decode cX8_layLine 44 = .ok (.iload_n 3, 1) := by decide +kernel
theorem dX8_layLine_45 : decode cX8_layLine 45 = .ok (.iconst 1, 1) := by decide +kernel
theorem dX8_layLine_46 : decode cX8_layLine 46 = .ok (.if_icmp .le 50, 3) := by decide +kernel
theorem dX8_layLine_49 : decode cX8_layLine 49 = .ok (.aload_n 0, 1) := by decide +kernel
theorem dX8_layLine_50 : decode cX8_layLine 50 = .ok (.getfield 23, 3) := by decide +kernel
theorem dX8_layLine_53 : decode cX8_layLine 53 = .ok (.aload_n 0, 1) := by decide +kernel
theorem dX8_layLine_54 : decode cX8_layLine 54 = .ok (.getfield 45, 3) := by decide +kernel
theorem dX8_layLine_57 : decode cX8_layLine 57 = .ok (.iload_n 1, 1) := by decide +kernel
theorem dX8_layLine_58 : decode cX8_layLine 58 = .ok (.iload_n 2, 1) := by decide +kernel
theorem dX8_layLine_59 : decode cX8_layLine 59 = .ok (.iload 4, 2) := by decide +kernel
theorem dX8_layLine_61 : decode cX8_layLine 61 = .ok (.iload_n 3, 1) := by decide +kernel
theorem dX8_layLine_62 : decode cX8_layLine 62 = .ok (.isub, 1) := by decide +kernel
theorem dX8_layLine_63 : decode cX8_layLine 63 = .ok (.imul, 1) := by decide +kernel
theorem dX8_layLine_64 : decode cX8_layLine 64 = .ok (.iadd, 1) := by decide +kernel
theorem dX8_layLine_65 : decode cX8_layLine 65 = .ok (.iastore, 1) := by decide +kernel
theorem dX8_layLine_66 : decode cX8_layLine 66 = .ok (.aload_n 0, 1) := by decide +kernel
theorem dX8_layLine_67 : decode cX8_layLine 67 = .ok (.getfield 26, 3) := by decide +kernel
theorem dX8_layLine_70 : decode cX8_layLine 70 = .ok (.aload_n 0, 1) := by decide +kernel
theorem dX8_layLine_71 : decode cX8_layLine 71 = .ok (.getfield 45, 3) := by decide +kernel
theorem dX8_layLine_74 : decode cX8_layLine 74 = .ok (.iload_n 3, 1) := by decide +kernel
theorem dX8_layLine_75 : decode cX8_layLine 75 = .ok (.iastore, 1) := by decide +kernel
theorem dX8_layLine_76 : decode cX8_layLine 76 = .ok (.aload_n 0, 1) := by decide +kernel
theorem dX8_layLine_77 : decode cX8_layLine 77 = .ok (.getfield 29, 3) := by decide +kernel
theorem dX8_layLine_80 : decode cX8_layLine 80 = .ok (.aload_n 0, 1) := by decide +kernel
theorem dX8_layLine_81 : decode cX8_layLine 81 = .ok (.getfield 45, 3) := by decide +kernel
theorem dX8_layLine_84 : decode cX8_layLine 84 = .ok (.iload_n 2, 1) := by decide +kernel
theorem dX8_layLine_85 : decode cX8_layLine 85 = .ok (.iastore, 1) := by decide +kernel
theorem dX8_layLine_86 : decode cX8_layLine 86 = .ok (.aload_n 0, 1) := by decide +kernel
theorem dX8_layLine_87 : decode cX8_layLine 87 = .ok (.dup, 1) := by decide +kernel
theorem dX8_layLine_88 : decode cX8_layLine 88 = .ok (.getfield 45, 3) := by decide +kernel
theorem dX8_layLine_91 : decode cX8_layLine 91 = .ok (.iconst 1, 1) := by decide +kernel
theorem dX8_layLine_92 : decode cX8_layLine 92 = .ok (.iadd, 1) := by decide +kernel
theorem dX8_layLine_93 : decode cX8_layLine 93 = .ok (.putfield 45, 3) := by decide +kernel
theorem dX8_layLine_96 : decode cX8_layLine 96 = .ok (.iload 5, 2) := by decide +kernel
theorem dX8_layLine_98 : decode cX8_layLine 98 = .ok (.ifCond .eq 9, 3) := by decide +kernel
theorem dX8_layLine_101 : decode cX8_layLine 101 = .ok (.iload_n 3, 1) := by decide +kernel
theorem dX8_layLine_102 : decode cX8_layLine 102 = .ok (.iconst 1, 1) := by decide +kernel
theorem dX8_layLine_103 : decode cX8_layLine 103 = .ok (.iadd, 1) := by decide +kernel
theorem dX8_layLine_104 : decode cX8_layLine 104 = .ok (.goto 4, 3) := by decide +kernel
theorem dX8_layLine_107 : decode cX8_layLine 107 = .ok (.iconst 0, 1) := by decide +kernel
theorem dX8_layLine_108 : decode cX8_layLine 108 = .ok (.istore_n 3, 1) := by decide +kernel
theorem dX8_layLine_109 : decode cX8_layLine 109 = .ok (.iinc 4 1, 3) := by decide +kernel
theorem dX8_layLine_112 : decode cX8_layLine 112 = .ok (.goto (-107), 3) := by decide +kernel
theorem dX8_layLine_115 : decode cX8_layLine 115 = .ok (.return_, 1) := by decide +kernel
theorem dX8_laySlots_0 : decode cX8_laySlots 0 = .ok (.aload_n 0, 1) := by decide +kernel
theorem dX8_laySlots_1 : decode cX8_laySlots 1 = .ok (.iconst 0, 1) := by decide +kernel
theorem dX8_laySlots_2 : decode cX8_laySlots 2 = .ok (.putfield 45, 3) := by decide +kernel
theorem dX8_laySlots_5 : decode cX8_laySlots 5 = .ok (.iconst 0, 1) := by decide +kernel
theorem dX8_laySlots_6 : decode cX8_laySlots 6 = .ok (.istore_n 1, 1) := by decide +kernel
theorem dX8_laySlots_7 : decode cX8_laySlots 7 = .ok (.iload_n 1, 1) := by decide +kernel
theorem dX8_laySlots_8 : decode cX8_laySlots 8 = .ok (.iconst 4, 1) := by decide +kernel
theorem dX8_laySlots_9 : decode cX8_laySlots 9 = .ok (.if_icmp .ge 17, 3) := by decide +kernel
theorem dX8_laySlots_12 : decode cX8_laySlots 12 = .ok (.aload_n 0, 1) := by decide +kernel
theorem dX8_laySlots_13 : decode cX8_laySlots 13 = .ok (.iconst 4, 1) := by decide +kernel
theorem dX8_laySlots_14 : decode cX8_laySlots 14 = .ok (.iload_n 1, 1) := by decide +kernel
theorem dX8_laySlots_15 : decode cX8_laySlots 15 = .ok (.imul, 1) := by decide +kernel
theorem dX8_laySlots_16 : decode cX8_laySlots 16 = .ok (.iconst 1, 1) := by decide +kernel
theorem dX8_laySlots_17 : decode cX8_laySlots 17 = .ok (.invokevirtual 48, 3) := by decide +kernel
theorem dX8_laySlots_20 : decode cX8_laySlots 20 = .ok (.iinc 1 1, 3) := by decide +kernel
theorem dX8_laySlots_23 : decode cX8_laySlots 23 = .ok (.goto (-16), 3) := by decide +kernel
theorem dX8_laySlots_26 : decode cX8_laySlots 26 = .ok (.iconst 0, 1) := by decide +kernel
theorem dX8_laySlots_27 : decode cX8_laySlots 27 = .ok (.istore_n 1, 1) := by decide +kernel
theorem dX8_laySlots_28 : decode cX8_laySlots 28 = .ok (.iload_n 1, 1) := by decide +kernel
theorem dX8_laySlots_29 : decode cX8_laySlots 29 = .ok (.iconst 4, 1) := by decide +kernel
theorem dX8_laySlots_30 : decode cX8_laySlots 30 = .ok (.if_icmp .ge 15, 3) := by decide +kernel
theorem dX8_laySlots_33 : decode cX8_laySlots 33 = .ok (.aload_n 0, 1) := by decide +kernel
theorem dX8_laySlots_34 : decode cX8_laySlots 34 = .ok (.iload_n 1, 1) := by decide +kernel
theorem dX8_laySlots_35 : decode cX8_laySlots 35 = .ok (.iconst 4, 1) := by decide +kernel
theorem dX8_laySlots_36 : decode cX8_laySlots 36 = .ok (.invokevirtual 48, 3) := by decide +kernel
theorem dX8_laySlots_39 : decode cX8_laySlots 39 = .ok (.iinc 1 1, 3) := by decide +kernel
theorem dX8_laySlots_42 : decode cX8_laySlots 42 = .ok (.goto (-14), 3) := by decide +kernel
theorem dX8_laySlots_45 : decode cX8_laySlots 45 = .ok (.return_, 1) := by decide +kernel
theorem dX8_cellOf_0 : decode cX8_cellOf 0 = .ok (.aload_n 0, 1) := by decide +kernel
theorem dX8_cellOf_1 : decode cX8_cellOf 1 = .ok (.getfield 23, 3) := by decide +kernel
theorem dX8_cellOf_4 : decode cX8_cellOf 4 = .ok (.iload_n 1, 1) := by decide +kernel
theorem dX8_cellOf_5 : decode cX8_cellOf 5 = .ok (.iaload, 1) := by decide +kernel
theorem dX8_cellOf_6 : decode cX8_cellOf 6 = .ok (.aload_n 0, 1) := by decide +kernel
theorem dX8_cellOf_7 : decode cX8_cellOf 7 = .ok (.getfield 29, 3) := by decide +kernel
theorem dX8_cellOf_10 : decode cX8_cellOf 10 = .ok (.iload_n 1, 1) := by decide +kernel
theorem dX8_cellOf_11 : decode cX8_cellOf 11 = .ok (.iaload, 1) := by decide +kernel
theorem dX8_cellOf_12 : decode cX8_cellOf 12 = .ok (.iload_n 2, 1) := by decide +kernel
theorem dX8_cellOf_13 : decode cX8_cellOf 13 = .ok (.imul, 1) := by decide +kernel
theorem dX8_cellOf_14 : decode cX8_cellOf 14 = .ok (.iadd, 1) := by decide +kernel
theorem dX8_cellOf_15 : decode cX8_cellOf 15 = .ok (.ireturn, 1) := by decide +kernel
theorem dX8_placeIn_0 : decode cX8_placeIn 0 = .ok (.iconst 0, 1) := by decide +kernel
theorem dX8_placeIn_1 : decode cX8_placeIn 1 = .ok (.istore_n 3, 1) := by decide +kernel
theorem dX8_placeIn_2 : decode cX8_placeIn 2 = .ok (.iload_n 3, 1) := by decide +kernel
theorem dX8_placeIn_3 : decode cX8_placeIn 3 = .ok (.aload_n 0, 1) := by decide +kernel
theorem dX8_placeIn_4 : decode cX8_placeIn 4 = .ok (.getfield 26, 3) := by decide +kernel
theorem dX8_placeIn_7 : decode cX8_placeIn 7 = .ok (.iload_n 1, 1) := by decide +kernel
theorem dX8_placeIn_8 : decode cX8_placeIn 8 = .ok (.iaload, 1) := by decide +kernel
theorem dX8_placeIn_9 : decode cX8_placeIn 9 = .ok (.if_icmp .ge 21, 3) := by decide +kernel
theorem dX8_placeIn_12 : decode cX8_placeIn 12 = .ok (.aload_n 0, 1) := by decide +kernel
theorem dX8_placeIn_13 : decode cX8_placeIn 13 = .ok (.iload_n 1, 1) := by decide +kernel
theorem dX8_placeIn_14 : decode cX8_placeIn 14 = .ok (.iload_n 3, 1) := by decide +kernel
theorem dX8_placeIn_15 : decode cX8_placeIn 15 = .ok (.invokevirtual 52, 3) := by decide +kernel
theorem dX8_placeIn_18 : decode cX8_placeIn 18 = .ok (.iload_n 2, 1) := by decide +kernel
theorem dX8_placeIn_19 : decode cX8_placeIn 19 = .ok (.if_icmp .ne 5, 3) := by decide +kernel
theorem dX8_placeIn_22 : decode cX8_placeIn 22 = .ok (.iload_n 3, 1) := by decide +kernel
theorem dX8_placeIn_23 : decode cX8_placeIn 23 = .ok (.ireturn, 1) := by decide +kernel
theorem dX8_placeIn_24 : decode cX8_placeIn 24 = .ok (.iinc 3 1, 3) := by decide +kernel
theorem dX8_placeIn_27 : decode cX8_placeIn 27 = .ok (.goto (-25), 3) := by decide +kernel
theorem dX8_placeIn_30 : decode cX8_placeIn 30 = .ok (.iconst (-1), 1) := by decide +kernel
theorem dX8_placeIn_31 : decode cX8_placeIn 31 = .ok (.ireturn, 1) := by decide +kernel
theorem dX8_common_0 : decode cX8_common 0 = .ok (.iconst 0, 1) := by decide +kernel
theorem dX8_common_1 : decode cX8_common 1 = .ok (.istore_n 3, 1) := by decide +kernel
theorem dX8_common_2 : decode cX8_common 2 = .ok (.iload_n 3, 1) := by decide +kernel
theorem dX8_common_3 : decode cX8_common 3 = .ok (.aload_n 0, 1) := by decide +kernel
theorem dX8_common_4 : decode cX8_common 4 = .ok (.getfield 26, 3) := by decide +kernel
theorem dX8_common_7 : decode cX8_common 7 = .ok (.iload_n 1, 1) := by decide +kernel
theorem dX8_common_8 : decode cX8_common 8 = .ok (.iaload, 1) := by decide +kernel
theorem dX8_common_9 : decode cX8_common 9 = .ok (.if_icmp .ge 36, 3) := by decide +kernel
theorem dX8_common_12 : decode cX8_common 12 = .ok (.iload_n 1, 1) := by decide +kernel
theorem dX8_common_13 : decode cX8_common 13 = .ok (.iload_n 2, 1) := by decide +kernel
theorem dX8_common_14 : decode cX8_common 14 = .ok (.if_icmp .eq 31, 3) := by decide +kernel
theorem dX8_common_17 : decode cX8_common 17 = .ok (.aload_n 0, 1) := by decide +kernel
theorem dX8_common_18 : decode cX8_common 18 = .ok (.iload_n 2, 1) := by decide +kernel
theorem dX8_common_19 : decode cX8_common 19 = .ok (.aload_n 0, 1) := by decide +kernel
theorem dX8_common_20 : decode cX8_common 20 = .ok (.iload_n 1, 1) := by decide +kernel
theorem dX8_common_21 : decode cX8_common 21 = .ok (.iload_n 3, 1) := by decide +kernel
theorem dX8_common_22 : decode cX8_common 22 = .ok (.invokevirtual 52, 3) := by decide +kernel
theorem dX8_common_25 : decode cX8_common 25 = .ok (.invokevirtual 56, 3) := by decide +kernel
theorem dX8_common_28 : decode cX8_common 28 = .ok (.iconst (-1), 1) := by decide +kernel
theorem dX8_common_29 : decode cX8_common 29 = .ok (.if_icmp .eq 10, 3) := by decide +kernel
theorem dX8_common_32 : decode cX8_common 32 = .ok (.aload_n 0, 1) := by decide +kernel
theorem dX8_common_33 : decode cX8_common 33 = .ok (.iload_n 1, 1) := by decide +kernel
theorem dX8_common_34 : decode cX8_common 34 = .ok (.iload_n 3, 1) := by decide +kernel
theorem dX8_common_35 : decode cX8_common 35 = .ok (.invokevirtual 52, 3) := by decide +kernel
theorem dX8_common_38 : decode cX8_common 38 = .ok (.ireturn, 1) := by decide +kernel
theorem dX8_common_39 : decode cX8_common 39 = .ok (.iinc 3 1, 3) := by decide +kernel
theorem dX8_common_42 : decode cX8_common 42 = .ok (.goto (-40), 3) := by decide +kernel
theorem dX8_common_45 : decode cX8_common 45 = .ok (.iconst (-1), 1) := by decide +kernel
theorem dX8_common_46 : decode cX8_common 46 = .ok (.ireturn, 1) := by decide +kernel
theorem dX8_crossed_0 : decode cX8_crossed 0 = .ok (.iconst 0, 1) := by decide +kernel
theorem dX8_crossed_1 : decode cX8_crossed 1 = .ok (.istore_n 2, 1) := by decide +kernel
theorem dX8_crossed_2 : decode cX8_crossed 2 = .ok (.iconst 0, 1) := by decide +kernel
theorem dX8_crossed_3 : decode cX8_crossed 3 = .ok (.istore_n 3, 1) := by decide +kernel
theorem dX8_crossed_4 : decode cX8_crossed 4 = .ok (.iload_n 3, 1) := by decide +kernel
theorem dX8_crossed_5 : decode cX8_crossed 5 = .ok (.aload_n 0, 1) := by decide +kernel
theorem dX8_crossed_6 : decode cX8_crossed 6 = .ok (.getfield 45, 3) := by decide +kernel
theorem dX8_crossed_9 : decode cX8_crossed 9 = .ok (.if_icmp .ge 29, 3) := by decide +kernel
theorem dX8_crossed_12 : decode cX8_crossed 12 = .ok (.iload_n 2, 1) := by decide +kernel
theorem dX8_crossed_13 : decode cX8_crossed 13 = .ok (.aload_n 0, 1) := by decide +kernel
theorem dX8_crossed_14 : decode cX8_crossed 14 = .ok (.iload_n 1, 1) := by decide +kernel
theorem dX8_crossed_15 : decode cX8_crossed 15 = .ok (.iload_n 3, 1) := by decide +kernel
theorem dX8_crossed_16 : decode cX8_crossed 16 = .ok (.invokevirtual 59, 3) := by decide +kernel
theorem dX8_crossed_19 : decode cX8_crossed 19 = .ok (.iconst (-1), 1) := by decide +kernel
theorem dX8_crossed_20 : decode cX8_crossed 20 = .ok (.if_icmp .eq 9, 3) := by decide +kernel
theorem dX8_crossed_23 : decode cX8_crossed 23 = .ok (.iconst 1, 1) := by decide +kernel
theorem dX8_crossed_24 : decode cX8_crossed 24 = .ok (.iload_n 3, 1) := by decide +kernel
theorem dX8_crossed_25 : decode cX8_crossed 25 = .ok (.ishl, 1) := by decide +kernel
theorem dX8_crossed_26 : decode cX8_crossed 26 = .ok (.goto 4, 3) := by decide +kernel
theorem dX8_crossed_29 : decode cX8_crossed 29 = .ok (.iconst 0, 1) := by decide +kernel
theorem dX8_crossed_30 : decode cX8_crossed 30 = .ok (.ior, 1) := by decide +kernel
theorem dX8_crossed_31 : decode cX8_crossed 31 = .ok (.istore_n 2, 1) := by decide +kernel
theorem dX8_crossed_32 : decode cX8_crossed 32 = .ok (.iinc 3 1, 3) := by decide +kernel
theorem dX8_crossed_35 : decode cX8_crossed 35 = .ok (.goto (-31), 3) := by decide +kernel
theorem dX8_crossed_38 : decode cX8_crossed 38 = .ok (.iload_n 2, 1) := by decide +kernel
theorem dX8_crossed_39 : decode cX8_crossed 39 = .ok (.ireturn, 1) := by decide +kernel
theorem dX8_isSlot_0 : decode cX8_isSlot 0 = .ok (.aload_n 0, 1) := by decide +kernel
theorem dX8_isSlot_1 : decode cX8_isSlot 1 = .ok (.invokevirtual 62, 3) := by decide +kernel
theorem dX8_isSlot_4 : decode cX8_isSlot 4 = .ok (.iload_n 1, 1) := by decide +kernel
theorem dX8_isSlot_5 : decode cX8_isSlot 5 = .ok (.iconst 0, 1) := by decide +kernel
theorem dX8_isSlot_6 : decode cX8_isSlot 6 = .ok (.aload_n 0, 1) := by decide +kernel
theorem dX8_isSlot_7 : decode cX8_isSlot 7 = .ok (.getfield 45, 3) := by decide +kernel
theorem dX8_isSlot_10 : decode cX8_isSlot 10 = .ok (.iconst 1, 1) := by decide +kernel
theorem dX8_isSlot_11 : decode cX8_isSlot 11 = .ok (.isub, 1) := by decide +kernel
theorem dX8_isSlot_12 : decode cX8_isSlot 12 = .ok (.invokestatic 65, 3) := by decide +kernel
theorem dX8_isSlot_15 : decode cX8_isSlot 15 = .ok (.ireturn, 1) := by decide +kernel
theorem dX8_isWord_0 : decode cX8_isWord 0 = .ok (.iload_n 1, 1) := by decide +kernel
theorem dX8_isWord_1 : decode cX8_isWord 1 = .ok (.iconst 0, 1) := by decide +kernel
theorem dX8_isWord_2 : decode cX8_isWord 2 = .ok (.aload_n 0, 1) := by decide +kernel
theorem dX8_isWord_3 : decode cX8_isWord 3 = .ok (.getfield 7, 3) := by decide +kernel
theorem dX8_isWord_6 : decode cX8_isWord 6 = .ok (.bipush 16, 2) := by decide +kernel
theorem dX8_isWord_8 : decode cX8_isWord 8 = .ok (.iaload, 1) := by decide +kernel
theorem dX8_isWord_9 : decode cX8_isWord 9 = .ok (.iconst 1, 1) := by decide +kernel
theorem dX8_isWord_10 : decode cX8_isWord 10 = .ok (.isub, 1) := by decide +kernel
theorem dX8_isWord_11 : decode cX8_isWord 11 = .ok (.invokestatic 65, 3) := by decide +kernel
theorem dX8_isWord_14 : decode cX8_isWord 14 = .ok (.ireturn, 1) := by decide +kernel
theorem dX8_lengthOf_0 : decode cX8_lengthOf 0 = .ok (.iload_n 0, 1) := by decide +kernel
theorem dX8_lengthOf_1 : decode cX8_lengthOf 1 = .ok (.bipush 49, 2) := by decide +kernel
theorem dX8_lengthOf_3 : decode cX8_lengthOf 3 = .ok (.if_icmp .ge 7, 3) := by decide +kernel
theorem dX8_lengthOf_6 : decode cX8_lengthOf 6 = .ok (.iconst 2, 1) := by decide +kernel
theorem dX8_lengthOf_7 : decode cX8_lengthOf 7 = .ok (.goto 15, 3) := by decide +kernel
theorem dX8_lengthOf_10 : decode cX8_lengthOf 10 = .ok (.iload_n 0, 1) := by decide +kernel
theorem dX8_lengthOf_11 : decode cX8_lengthOf 11 = .ok (.sipush 343, 3) := by decide +kernel
theorem dX8_lengthOf_14 : decode cX8_lengthOf 14 = .ok (.if_icmp .ge 7, 3) := by decide +kernel
theorem dX8_lengthOf_17 : decode cX8_lengthOf 17 = .ok (.iconst 3, 1) := by decide +kernel
theorem dX8_lengthOf_18 : decode cX8_lengthOf 18 = .ok (.goto 4, 3) := by decide +kernel
theorem dX8_lengthOf_21 : decode cX8_lengthOf 21 = .ok (.iconst 4, 1) := by decide +kernel
theorem dX8_lengthOf_22 : decode cX8_lengthOf 22 = .ok (.ireturn, 1) := by decide +kernel
theorem dX8_letterOf_0 : decode cX8_letterOf 0 = .ok (.iconst 1, 1) := by decide +kernel
theorem dX8_letterOf_1 : decode cX8_letterOf 1 = .ok (.istore_n 2, 1) := by decide +kernel
theorem dX8_letterOf_2 : decode cX8_letterOf 2 = .ok (.iload_n 1, 1) := by decide +kernel
theorem dX8_letterOf_3 : decode cX8_letterOf 3 = .ok (.iconst 1, 1) := by decide +kernel
theorem dX8_letterOf_4 : decode cX8_letterOf 4 = .ok (.iadd, 1) := by decide +kernel
theorem dX8_letterOf_5 : decode cX8_letterOf 5 = .ok (.istore_n 3, 1) := by decide +kernel
theorem dX8_letterOf_6 : decode cX8_letterOf 6 = .ok (.iload_n 3, 1) := by decide +kernel
theorem dX8_letterOf_7 : decode cX8_letterOf 7 = .ok (.iload_n 0, 1) := by decide +kernel
theorem dX8_letterOf_8 : decode cX8_letterOf 8 = .ok (.invokestatic 69, 3) := by decide +kernel
theorem dX8_letterOf_11 : decode cX8_letterOf 11 = .ok (.if_icmp .ge 14, 3) := by decide +kernel
theorem dX8_letterOf_14 : decode cX8_letterOf 14 = .ok (.iload_n 2, 1) := by decide +kernel
theorem dX8_letterOf_15 : decode cX8_letterOf 15 = .ok (.bipush 7, 2) := by decide +kernel
theorem dX8_letterOf_17 : decode cX8_letterOf 17 = .ok (.imul, 1) := by decide +kernel
theorem dX8_letterOf_18 : decode cX8_letterOf 18 = .ok (.istore_n 2, 1) := by decide +kernel
theorem dX8_letterOf_19 : decode cX8_letterOf 19 = .ok (.iinc 3 1, 3) := by decide +kernel
theorem dX8_letterOf_22 : decode cX8_letterOf 22 = .ok (.goto (-16), 3) := by decide +kernel
theorem dX8_letterOf_25 : decode cX8_letterOf 25 = .ok (.iload_n 0, 1) := by decide +kernel
theorem dX8_letterOf_26 : decode cX8_letterOf 26 = .ok (.iload_n 2, 1) := by decide +kernel
theorem dX8_letterOf_27 : decode cX8_letterOf 27 = .ok (.idiv, 1) := by decide +kernel
theorem dX8_letterOf_28 : decode cX8_letterOf 28 = .ok (.bipush 7, 2) := by decide +kernel
theorem dX8_letterOf_30 : decode cX8_letterOf 30 = .ok (.irem, 1) := by decide +kernel
theorem dX8_letterOf_31 : decode cX8_letterOf 31 = .ok (.ireturn, 1) := by decide +kernel
theorem dX8_isCode_0 : decode cX8_isCode 0 = .ok (.iload_n 0, 1) := by decide +kernel
theorem dX8_isCode_1 : decode cX8_isCode 1 = .ok (.bipush 8, 2) := by decide +kernel
theorem dX8_isCode_3 : decode cX8_isCode 3 = .ok (.sipush 2400, 3) := by decide +kernel
theorem dX8_isCode_6 : decode cX8_isCode 6 = .ok (.invokestatic 65, 3) := by decide +kernel
theorem dX8_isCode_9 : decode cX8_isCode 9 = .ok (.istore_n 1, 1) := by decide +kernel
theorem dX8_isCode_10 : decode cX8_isCode 10 = .ok (.iconst 0, 1) := by decide +kernel
theorem dX8_isCode_11 : decode cX8_isCode 11 = .ok (.istore_n 2, 1) := by decide +kernel
theorem dX8_isCode_12 : decode cX8_isCode 12 = .ok (.iload_n 1, 1) := by decide +kernel
theorem dX8_isCode_13 : decode cX8_isCode 13 = .ok (.ifCond .eq 31, 3) := by decide +kernel
theorem dX8_isCode_16 : decode cX8_isCode 16 = .ok (.iload_n 2, 1) := by decide +kernel
theorem dX8_isCode_17 : decode cX8_isCode 17 = .ok (.iload_n 0, 1) := by decide +kernel
theorem dX8_isCode_18 : decode cX8_isCode 18 = .ok (.invokestatic 69, 3) := by decide +kernel
theorem dX8_isCode_21 : decode cX8_isCode 21 = .ok (.if_icmp .ge 23, 3) := by decide +kernel
theorem dX8_isCode_24 : decode cX8_isCode 24 = .ok (.iload_n 0, 1) := by decide +kernel
theorem dX8_isCode_25 : decode cX8_isCode 25 = .ok (.iload_n 2, 1) := by decide +kernel
theorem dX8_isCode_26 : decode cX8_isCode 26 = .ok (.invokestatic 73, 3) := by decide +kernel
theorem dX8_isCode_29 : decode cX8_isCode 29 = .ok (.ifCond .le 7, 3) := by decide +kernel
theorem dX8_isCode_32 : decode cX8_isCode 32 = .ok (.iconst 1, 1) := by decide +kernel
theorem dX8_isCode_33 : decode cX8_isCode 33 = .ok (.goto 4, 3) := by decide +kernel
theorem dX8_isCode_36 : decode cX8_isCode 36 = .ok (.iconst 0, 1) := by decide +kernel
theorem dX8_isCode_37 : decode cX8_isCode 37 = .ok (.istore_n 1, 1) := by decide +kernel
theorem dX8_isCode_38 : decode cX8_isCode 38 = .ok (.iinc 2 1, 3) := by decide +kernel
theorem dX8_isCode_41 : decode cX8_isCode 41 = .ok (.goto (-29), 3) := by decide +kernel
theorem dX8_isCode_44 : decode cX8_isCode 44 = .ok (.iload_n 1, 1) := by decide +kernel
theorem dX8_isCode_45 : decode cX8_isCode 45 = .ok (.ireturn, 1) := by decide +kernel
theorem dX8_codeAt_0 : decode cX8_codeAt 0 = .ok (.aload_n 0, 1) := by decide +kernel
theorem dX8_codeAt_1 : decode cX8_codeAt 1 = .ok (.getfield 7, 3) := by decide +kernel
theorem dX8_codeAt_4 : decode cX8_codeAt 4 = .ok (.bipush 17, 2) := by decide +kernel
theorem dX8_codeAt_6 : decode cX8_codeAt 6 = .ok (.iload_n 1, 1) := by decide +kernel
theorem dX8_codeAt_7 : decode cX8_codeAt 7 = .ok (.iadd, 1) := by decide +kernel
theorem dX8_codeAt_8 : decode cX8_codeAt 8 = .ok (.iaload, 1) := by decide +kernel
theorem dX8_codeAt_9 : decode cX8_codeAt 9 = .ok (.ireturn, 1) := by decide +kernel
theorem dX8_findCode_0 : decode cX8_findCode 0 = .ok (.iconst 0, 1) := by decide +kernel
theorem dX8_findCode_1 : decode cX8_findCode 1 = .ok (.istore_n 2, 1) := by decide +kernel
theorem dX8_findCode_2 : decode cX8_findCode 2 = .ok (.iload_n 2, 1) := by decide +kernel
theorem dX8_findCode_3 : decode cX8_findCode 3 = .ok (.aload_n 0, 1) := by decide +kernel
theorem dX8_findCode_4 : decode cX8_findCode 4 = .ok (.getfield 7, 3) := by decide +kernel
theorem dX8_findCode_7 : decode cX8_findCode 7 = .ok (.bipush 16, 2) := by decide +kernel
theorem dX8_findCode_9 : decode cX8_findCode 9 = .ok (.iaload, 1) := by decide +kernel
theorem dX8_findCode_10 : decode cX8_findCode 10 = .ok (.if_icmp .ge 20, 3) := by decide +kernel
theorem dX8_findCode_13 : decode cX8_findCode 13 = .ok (.aload_n 0, 1) := by decide +kernel
theorem dX8_findCode_14 : decode cX8_findCode 14 = .ok (.iload_n 2, 1) := by decide +kernel
theorem dX8_findCode_15 : decode cX8_findCode 15 = .ok (.invokevirtual 76, 3) := by decide +kernel
theorem dX8_findCode_18 : decode cX8_findCode 18 = .ok (.iload_n 1, 1) := by decide +kernel
theorem dX8_findCode_19 : decode cX8_findCode 19 = .ok (.if_icmp .ne 5, 3) := by decide +kernel
theorem dX8_findCode_22 : decode cX8_findCode 22 = .ok (.iload_n 2, 1) := by decide +kernel
theorem dX8_findCode_23 : decode cX8_findCode 23 = .ok (.ireturn, 1) := by decide +kernel
theorem dX8_findCode_24 : decode cX8_findCode 24 = .ok (.iinc 2 1, 3) := by decide +kernel
theorem dX8_findCode_27 : decode cX8_findCode 27 = .ok (.goto (-25), 3) := by decide +kernel
theorem dX8_findCode_30 : decode cX8_findCode 30 = .ok (.iconst (-1), 1) := by decide +kernel
theorem dX8_findCode_31 : decode cX8_findCode 31 = .ok (.ireturn, 1) := by decide +kernel
theorem dX8_fits_0 : decode cX8_fits 0 = .ok (.aload_n 0, 1) := by decide +kernel
theorem dX8_fits_1 : decode cX8_fits 1 = .ok (.iload_n 1, 1) := by decide +kernel
theorem dX8_fits_2 : decode cX8_fits 2 = .ok (.invokevirtual 76, 3) := by decide +kernel
theorem dX8_fits_5 : decode cX8_fits 5 = .ok (.istore_n 3, 1) := by decide +kernel
theorem dX8_fits_6 : decode cX8_fits 6 = .ok (.iload_n 3, 1) := by decide +kernel
theorem dX8_fits_7 : decode cX8_fits 7 = .ok (.invokestatic 69, 3) := by decide +kernel
theorem dX8_fits_10 : decode cX8_fits 10 = .ok (.aload_n 0, 1) := by decide +kernel
theorem dX8_fits_11 : decode cX8_fits 11 = .ok (.getfield 26, 3) := by decide +kernel
theorem dX8_fits_14 : decode cX8_fits 14 = .ok (.iload_n 2, 1) := by decide +kernel
theorem dX8_fits_15 : decode cX8_fits 15 = .ok (.iaload, 1) := by decide +kernel
theorem dX8_fits_16 : decode cX8_fits 16 = .ok (.if_icmp .ne 7, 3) := by decide +kernel
theorem dX8_fits_19 : decode cX8_fits 19 = .ok (.iconst 1, 1) := by decide +kernel
theorem dX8_fits_20 : decode cX8_fits 20 = .ok (.goto 4, 3) := by decide +kernel
theorem dX8_fits_23 : decode cX8_fits 23 = .ok (.iconst 0, 1) := by decide +kernel
theorem dX8_fits_24 : decode cX8_fits 24 = .ok (.istore 4, 2) := by decide +kernel
theorem dX8_fits_26 : decode cX8_fits 26 = .ok (.iconst 0, 1) := by decide +kernel
theorem dX8_fits_27 : decode cX8_fits 27 = .ok (.istore 5, 2) := by decide +kernel
theorem dX8_fits_29 : decode cX8_fits 29 = .ok (.iload 4, 2) := by decide +kernel
theorem dX8_fits_31 : decode cX8_fits 31 = .ok (.ifCond .eq 57, 3) := by decide +kernel
theorem dX8_fits_34 : decode cX8_fits 34 = .ok (.iload 5, 2) := by decide +kernel
theorem dX8_fits_36 : decode cX8_fits 36 = .ok (.aload_n 0, 1) := by decide +kernel
theorem dX8_fits_37 : decode cX8_fits 37 = .ok (.getfield 26, 3) := by decide +kernel
theorem dX8_fits_40 : decode cX8_fits 40 = .ok (.iload_n 2, 1) := by decide +kernel
theorem dX8_fits_41 : decode cX8_fits 41 = .ok (.iaload, 1) := by decide +kernel
theorem dX8_fits_42 : decode cX8_fits 42 = .ok (.if_icmp .ge 46, 3) := by decide +kernel
theorem dX8_fits_45 : decode cX8_fits 45 = .ok (.aload_n 0, 1) := by decide +kernel
theorem dX8_fits_46 : decode cX8_fits 46 = .ok (.getfield 7, 3) := by decide +kernel
theorem dX8_fits_49 : decode cX8_fits 49 = .ok (.aload_n 0, 1) := by decide +kernel
theorem dX8_fits_50 : decode cX8_fits 50 = .ok (.iload_n 2, 1) := by decide +kernel
theorem dX8_fits_51 : decode cX8_fits 51 = .ok (.iload 5, 2) := by decide +kernel
theorem dX8_fits_53 : decode cX8_fits 53 = .ok (.invokevirtual 52, 3) := by decide +kernel
theorem dX8_fits_56 : decode cX8_fits 56 = .ok (.iaload, 1) := by decide +kernel
theorem dX8_fits_57 : decode cX8_fits 57 = .ok (.istore 6, 2) := by decide +kernel
theorem dX8_fits_59 : decode cX8_fits 59 = .ok (.iload 6, 2) := by decide +kernel
theorem dX8_fits_61 : decode cX8_fits 61 = .ok (.ifCond .eq 14, 3) := by decide +kernel
theorem dX8_fits_64 : decode cX8_fits 64 = .ok (.iload 6, 2) := by decide +kernel
theorem dX8_fits_66 : decode cX8_fits 66 = .ok (.iload_n 3, 1) := by decide +kernel
theorem dX8_fits_67 : decode cX8_fits 67 = .ok (.iload 5, 2) := by decide +kernel
theorem dX8_fits_69 : decode cX8_fits 69 = .ok (.invokestatic 73, 3) := by decide +kernel
theorem dX8_fits_72 : decode cX8_fits 72 = .ok (.if_icmp .ne 7, 3) := by decide +kernel
theorem dX8_fits_75 : decode cX8_fits 75 = .ok (.iconst 1, 1) := by decide +kernel
theorem dX8_fits_76 : decode cX8_fits 76 = .ok (.goto 4, 3) := by decide +kernel
theorem dX8_fits_79 : decode cX8_fits 79 = .ok (.iconst 0, 1) := by decide +kernel
theorem dX8_fits_80 : decode cX8_fits 80 = .ok (.istore 4, 2) := by decide +kernel
theorem dX8_fits_82 : decode cX8_fits 82 = .ok (.iinc 5 1, 3) := by decide +kernel
theorem dX8_fits_85 : decode cX8_fits 85 = .ok (.goto (-56), 3) := by decide +kernel
theorem dX8_fits_88 : decode cX8_fits 88 = .ok (.iload 4, 2) := by decide +kernel
theorem dX8_fits_90 : decode cX8_fits 90 = .ok (.ireturn, 1) := by decide +kernel
theorem dX8_letterIn_0 : decode cX8_letterIn 0 = .ok (.aload_n 0, 1) := by decide +kernel
theorem dX8_letterIn_1 : decode cX8_letterIn 1 = .ok (.iload_n 1, 1) := by decide +kernel
theorem dX8_letterIn_2 : decode cX8_letterIn 2 = .ok (.invokevirtual 76, 3) := by decide +kernel
theorem dX8_letterIn_5 : decode cX8_letterIn 5 = .ok (.aload_n 0, 1) := by decide +kernel
theorem dX8_letterIn_6 : decode cX8_letterIn 6 = .ok (.iload_n 2, 1) := by decide +kernel
theorem dX8_letterIn_7 : decode cX8_letterIn 7 = .ok (.iload_n 3, 1) := by decide +kernel
theorem dX8_letterIn_8 : decode cX8_letterIn 8 = .ok (.invokevirtual 56, 3) := by decide +kernel
theorem dX8_letterIn_11 : decode cX8_letterIn 11 = .ok (.invokestatic 73, 3) := by decide +kernel
theorem dX8_letterIn_14 : decode cX8_letterIn 14 = .ok (.ireturn, 1) := by decide +kernel
theorem dX8_isFull_0 : decode cX8_isFull 0 = .ok (.iconst 1, 1) := by decide +kernel
theorem dX8_isFull_1 : decode cX8_isFull 1 = .ok (.istore_n 2, 1) := by decide +kernel
theorem dX8_isFull_2 : decode cX8_isFull 2 = .ok (.iconst 0, 1) := by decide +kernel
theorem dX8_isFull_3 : decode cX8_isFull 3 = .ok (.istore_n 3, 1) := by decide +kernel
theorem dX8_isFull_4 : decode cX8_isFull 4 = .ok (.iload_n 3, 1) := by decide +kernel
theorem dX8_isFull_5 : decode cX8_isFull 5 = .ok (.aload_n 0, 1) := by decide +kernel
theorem dX8_isFull_6 : decode cX8_isFull 6 = .ok (.getfield 26, 3) := by decide +kernel
theorem dX8_isFull_9 : decode cX8_isFull 9 = .ok (.iload_n 1, 1) := by decide +kernel
theorem dX8_isFull_10 : decode cX8_isFull 10 = .ok (.iaload, 1) := by decide +kernel
theorem dX8_isFull_11 : decode cX8_isFull 11 = .ok (.if_icmp .ge 33, 3) := by decide +kernel
theorem dX8_isFull_14 : decode cX8_isFull 14 = .ok (.iload_n 2, 1) := by decide +kernel
theorem dX8_isFull_15 : decode cX8_isFull 15 = .ok (.ifCond .eq 21, 3) := by decide +kernel
theorem dX8_isFull_18 : decode cX8_isFull 18 = .ok (.aload_n 0, 1) := by decide +kernel
theorem dX8_isFull_19 : decode cX8_isFull 19 = .ok (.getfield 7, 3) := by decide +kernel
theorem dX8_isFull_22 : decode cX8_isFull 22 = .ok (.aload_n 0, 1) := by decide +kernel
theorem dX8_isFull_23 : decode cX8_isFull 23 = .ok (.iload_n 1, 1) := by decide +kernel
theorem dX8_isFull_24 : decode cX8_isFull 24 = .ok (.iload_n 3, 1) := by decide +kernel
theorem dX8_isFull_25 : decode cX8_isFull 25 = .ok (.invokevirtual 52, 3) := by decide +kernel
theorem dX8_isFull_28 : decode cX8_isFull 28 = .ok (.iaload, 1) := by decide +kernel
theorem dX8_isFull_29 : decode cX8_isFull 29 = .ok (.ifCond .le 7, 3) := by decide +kernel
theorem dX8_isFull_32 : decode cX8_isFull 32 = .ok (.iconst 1, 1) := by decide +kernel
theorem dX8_isFull_33 : decode cX8_isFull 33 = .ok (.goto 4, 3) := by decide +kernel
theorem dX8_isFull_36 : decode cX8_isFull 36 = .ok (.iconst 0, 1) := by decide +kernel
theorem dX8_isFull_37 : decode cX8_isFull 37 = .ok (.istore_n 2, 1) := by decide +kernel
theorem dX8_isFull_38 : decode cX8_isFull 38 = .ok (.iinc 3 1, 3) := by decide +kernel
theorem dX8_isFull_41 : decode cX8_isFull 41 = .ok (.goto (-37), 3) := by decide +kernel
theorem dX8_isFull_44 : decode cX8_isFull 44 = .ok (.iload_n 2, 1) := by decide +kernel
theorem dX8_isFull_45 : decode cX8_isFull 45 = .ok (.ireturn, 1) := by decide +kernel
theorem dX8_lettersOf_0 : decode cX8_lettersOf 0 = .ok (.iconst 0, 1) := by decide +kernel
theorem dX8_lettersOf_1 : decode cX8_lettersOf 1 = .ok (.istore_n 2, 1) := by decide +kernel
theorem dX8_lettersOf_2 : decode cX8_lettersOf 2 = .ok (.iconst 0, 1) := by decide +kernel
theorem dX8_lettersOf_3 : decode cX8_lettersOf 3 = .ok (.istore_n 3, 1) := by decide +kernel
theorem dX8_lettersOf_4 : decode cX8_lettersOf 4 = .ok (.iload_n 3, 1) := by decide +kernel
theorem dX8_lettersOf_5 : decode cX8_lettersOf 5 = .ok (.aload_n 0, 1) := by decide +kernel
theorem dX8_lettersOf_6 : decode cX8_lettersOf 6 = .ok (.getfield 26, 3) := by decide +kernel
theorem dX8_lettersOf_9 : decode cX8_lettersOf 9 = .ok (.iload_n 1, 1) := by decide +kernel
theorem dX8_lettersOf_10 : decode cX8_lettersOf 10 = .ok (.iaload, 1) := by decide +kernel
theorem dX8_lettersOf_11 : decode cX8_lettersOf 11 = .ok (.if_icmp .ge 26, 3) := by decide +kernel
theorem dX8_lettersOf_14 : decode cX8_lettersOf 14 = .ok (.bipush 7, 2) := by decide +kernel
theorem dX8_lettersOf_16 : decode cX8_lettersOf 16 = .ok (.iload_n 2, 1) := by decide +kernel
theorem dX8_lettersOf_17 : decode cX8_lettersOf 17 = .ok (.imul, 1) := by decide +kernel
theorem dX8_lettersOf_18 : decode cX8_lettersOf 18 = .ok (.aload_n 0, 1) := by decide +kernel
theorem dX8_lettersOf_19 : decode cX8_lettersOf 19 = .ok (.getfield 7, 3) := by decide +kernel
theorem dX8_lettersOf_22 : decode cX8_lettersOf 22 = .ok (.aload_n 0, 1) := by decide +kernel
theorem dX8_lettersOf_23 : decode cX8_lettersOf 23 = .ok (.iload_n 1, 1) := by decide +kernel
theorem dX8_lettersOf_24 : decode cX8_lettersOf 24 = .ok (.iload_n 3, 1) := by decide +kernel
theorem dX8_lettersOf_25 : decode cX8_lettersOf 25 = .ok (.invokevirtual 52, 3) := by decide +kernel
theorem dX8_lettersOf_28 : decode cX8_lettersOf 28 = .ok (.iaload, 1) := by decide +kernel
theorem dX8_lettersOf_29 : decode cX8_lettersOf 29 = .ok (.iadd, 1) := by decide +kernel
theorem dX8_lettersOf_30 : decode cX8_lettersOf 30 = .ok (.istore_n 2, 1) := by decide +kernel
theorem dX8_lettersOf_31 : decode cX8_lettersOf 31 = .ok (.iinc 3 1, 3) := by decide +kernel
theorem dX8_lettersOf_34 : decode cX8_lettersOf 34 = .ok (.goto (-30), 3) := by decide +kernel
theorem dX8_lettersOf_37 : decode cX8_lettersOf 37 = .ok (.iload_n 2, 1) := by decide +kernel
theorem dX8_lettersOf_38 : decode cX8_lettersOf 38 = .ok (.ireturn, 1) := by decide +kernel
theorem dX8_changed_0 : decode cX8_changed 0 = .ok (.aload_n 0, 1) := by decide +kernel
theorem dX8_changed_1 : decode cX8_changed 1 = .ok (.invokevirtual 62, 3) := by decide +kernel
theorem dX8_changed_4 : decode cX8_changed 4 = .ok (.aload_n 0, 1) := by decide +kernel
theorem dX8_changed_5 : decode cX8_changed 5 = .ok (.getfield 45, 3) := by decide +kernel
theorem dX8_changed_8 : decode cX8_changed 8 = .ok (.ireturn, 1) := by decide +kernel
theorem dX8_block_0 : decode cX8_block 0 = .ok (.iload_n 1, 1) := by decide +kernel
theorem dX8_block_1 : decode cX8_block 1 = .ok (.iconst 0, 1) := by decide +kernel
theorem dX8_block_2 : decode cX8_block 2 = .ok (.bipush 15, 2) := by decide +kernel
theorem dX8_block_4 : decode cX8_block 4 = .ok (.invokestatic 65, 3) := by decide +kernel
theorem dX8_block_7 : decode cX8_block 7 = .ok (.ifCond .ne 6, 3) := by decide +kernel
theorem dX8_block_10 : decode cX8_block 10 = .ok (.ldc 79, 2) := by decide +kernel
theorem dX8_block_12 : decode cX8_block 12 = .ok (.ireturn, 1) := by decide +kernel
theorem dX8_block_13 : decode cX8_block 13 = .ok (.aload_n 0, 1) := by decide +kernel
theorem dX8_block_14 : decode cX8_block 14 = .ok (.getfield 7, 3) := by decide +kernel
theorem dX8_block_17 : decode cX8_block 17 = .ok (.iload_n 1, 1) := by decide +kernel
theorem dX8_block_18 : decode cX8_block 18 = .ok (.iaload, 1) := by decide +kernel
theorem dX8_block_19 : decode cX8_block 19 = .ok (.iconst (-1), 1) := by decide +kernel
theorem dX8_block_20 : decode cX8_block 20 = .ok (.if_icmp .ne 6, 3) := by decide +kernel
theorem dX8_block_23 : decode cX8_block 23 = .ok (.ldc 80, 2) := by decide +kernel
theorem dX8_block_25 : decode cX8_block 25 = .ok (.ireturn, 1) := by decide +kernel
theorem dX8_block_26 : decode cX8_block 26 = .ok (.aload_n 0, 1) := by decide +kernel
theorem dX8_block_27 : decode cX8_block 27 = .ok (.invokevirtual 81, 3) := by decide +kernel
theorem dX8_block_30 : decode cX8_block 30 = .ok (.aload_n 0, 1) := by decide +kernel
theorem dX8_block_31 : decode cX8_block 31 = .ok (.getfield 7, 3) := by decide +kernel
theorem dX8_block_34 : decode cX8_block 34 = .ok (.iload_n 1, 1) := by decide +kernel
theorem dX8_block_35 : decode cX8_block 35 = .ok (.iconst (-1), 1) := by decide +kernel
theorem dX8_block_36 : decode cX8_block 36 = .ok (.iastore, 1) := by decide +kernel
theorem dX8_block_37 : decode cX8_block 37 = .ok (.aload_n 0, 1) := by decide +kernel
theorem dX8_block_38 : decode cX8_block 38 = .ok (.invokevirtual 84, 3) := by decide +kernel
theorem dX8_block_41 : decode cX8_block 41 = .ok (.ireturn, 1) := by decide +kernel
theorem dX8_open_0 : decode cX8_open 0 = .ok (.iload_n 1, 1) := by decide +kernel
theorem dX8_open_1 : decode cX8_open 1 = .ok (.iconst 0, 1) := by decide +kernel
theorem dX8_open_2 : decode cX8_open 2 = .ok (.bipush 15, 2) := by decide +kernel
theorem dX8_open_4 : decode cX8_open 4 = .ok (.invokestatic 65, 3) := by decide +kernel
theorem dX8_open_7 : decode cX8_open 7 = .ok (.ifCond .ne 6, 3) := by decide +kernel
theorem dX8_open_10 : decode cX8_open 10 = .ok (.ldc 79, 2) := by decide +kernel
theorem dX8_open_12 : decode cX8_open 12 = .ok (.ireturn, 1) := by decide +kernel
theorem dX8_open_13 : decode cX8_open 13 = .ok (.aload_n 0, 1) := by decide +kernel
theorem dX8_open_14 : decode cX8_open 14 = .ok (.getfield 7, 3) := by decide +kernel
theorem dX8_open_17 : decode cX8_open 17 = .ok (.iload_n 1, 1) := by decide +kernel
theorem dX8_open_18 : decode cX8_open 18 = .ok (.iaload, 1) := by decide +kernel
theorem dX8_open_19 : decode cX8_open 19 = .ok (.iconst (-1), 1) := by decide +kernel
theorem dX8_open_20 : decode cX8_open 20 = .ok (.if_icmp .eq 6, 3) := by decide +kernel
theorem dX8_open_23 : decode cX8_open 23 = .ok (.ldc 80, 2) := by decide +kernel
theorem dX8_open_25 : decode cX8_open 25 = .ok (.ireturn, 1) := by decide +kernel
theorem dX8_open_26 : decode cX8_open 26 = .ok (.aload_n 0, 1) := by decide +kernel
theorem dX8_open_27 : decode cX8_open 27 = .ok (.invokevirtual 81, 3) := by decide +kernel
theorem dX8_open_30 : decode cX8_open 30 = .ok (.aload_n 0, 1) := by decide +kernel
theorem dX8_open_31 : decode cX8_open 31 = .ok (.getfield 7, 3) := by decide +kernel
theorem dX8_open_34 : decode cX8_open 34 = .ok (.iload_n 1, 1) := by decide +kernel
theorem dX8_open_35 : decode cX8_open 35 = .ok (.iconst 0, 1) := by decide +kernel
theorem dX8_open_36 : decode cX8_open 36 = .ok (.iastore, 1) := by decide +kernel
theorem dX8_open_37 : decode cX8_open 37 = .ok (.aload_n 0, 1) := by decide +kernel
theorem dX8_open_38 : decode cX8_open 38 = .ok (.invokevirtual 84, 3) := by decide +kernel
theorem dX8_open_41 : decode cX8_open 41 = .ok (.ireturn, 1) := by decide +kernel
theorem dX8_letter_0 : decode cX8_letter 0 = .ok (.iload_n 1, 1) := by decide +kernel
theorem dX8_letter_1 : decode cX8_letter 1 = .ok (.iconst 0, 1) := by decide +kernel
theorem dX8_letter_2 : decode cX8_letter 2 = .ok (.bipush 15, 2) := by decide +kernel
theorem dX8_letter_4 : decode cX8_letter 4 = .ok (.invokestatic 65, 3) := by decide +kernel
theorem dX8_letter_7 : decode cX8_letter 7 = .ok (.ifCond .ne 6, 3) := by decide +kernel
theorem dX8_letter_10 : decode cX8_letter 10 = .ok (.ldc 79, 2) := by decide +kernel
theorem dX8_letter_12 : decode cX8_letter 12 = .ok (.ireturn, 1) := by decide +kernel
theorem dX8_letter_13 : decode cX8_letter 13 = .ok (.iload_n 2, 1) := by decide +kernel
theorem dX8_letter_14 : decode cX8_letter 14 = .ok (.iconst (-1), 1) := by decide +kernel
theorem dX8_letter_15 : decode cX8_letter 15 = .ok (.if_icmp .eq 17, 3) := by decide +kernel
theorem dX8_letter_18 : decode cX8_letter 18 = .ok (.iload_n 2, 1) := by decide +kernel
theorem dX8_letter_19 : decode cX8_letter 19 = .ok (.bipush 97, 2) := by decide +kernel
theorem dX8_letter_21 : decode cX8_letter 21 = .ok (.bipush 102, 2) := by decide +kernel
theorem dX8_letter_23 : decode cX8_letter 23 = .ok (.invokestatic 65, 3) := by decide +kernel
theorem dX8_letter_26 : decode cX8_letter 26 = .ok (.ifCond .ne 6, 3) := by decide +kernel
theorem dX8_letter_29 : decode cX8_letter 29 = .ok (.ldc 88, 2) := by decide +kernel
theorem dX8_letter_31 : decode cX8_letter 31 = .ok (.ireturn, 1) := by decide +kernel
theorem dX8_letter_32 : decode cX8_letter 32 = .ok (.iload_n 2, 1) := by decide +kernel
theorem dX8_letter_33 : decode cX8_letter 33 = .ok (.iconst (-1), 1) := by decide +kernel
theorem dX8_letter_34 : decode cX8_letter 34 = .ok (.if_icmp .ne 7, 3) := by decide +kernel
theorem dX8_letter_37 : decode cX8_letter 37 = .ok (.iconst 0, 1) := by decide +kernel
theorem dX8_letter_38 : decode cX8_letter 38 = .ok (.goto 7, 3) := by decide +kernel
theorem dX8_letter_41 : decode cX8_letter 41 = .ok (.iload_n 2, 1) := by decide +kernel
theorem dX8_letter_42 : decode cX8_letter 42 = .ok (.bipush 96, 2) := by decide +kernel
theorem dX8_letter_44 : decode cX8_letter 44 = .ok (.isub, 1) := by decide +kernel
theorem dX8_letter_45 : decode cX8_letter 45 = .ok (.istore_n 3, 1) := by decide +kernel
theorem dX8_letter_46 : decode cX8_letter 46 = .ok (.aload_n 0, 1) := by decide +kernel
theorem dX8_letter_47 : decode cX8_letter 47 = .ok (.getfield 7, 3) := by decide +kernel
theorem dX8_letter_50 : decode cX8_letter 50 = .ok (.iload_n 1, 1) := by decide +kernel
theorem dX8_letter_51 : decode cX8_letter 51 = .ok (.iaload, 1) := by decide +kernel
theorem dX8_letter_52 : decode cX8_letter 52 = .ok (.istore 4, 2) := by decide +kernel
theorem dX8_letter_54 : decode cX8_letter 54 = .ok (.iload 4, 2) := by decide +kernel
theorem dX8_letter_56 : decode cX8_letter 56 = .ok (.iconst (-1), 1) := by decide +kernel
theorem dX8_letter_57 : decode cX8_letter 57 = .ok (.if_icmp .eq 9, 3) := by decide +kernel
theorem dX8_letter_60 : decode cX8_letter 60 = .ok (.iload 4, 2) := by decide +kernel
theorem dX8_letter_62 : decode cX8_letter 62 = .ok (.iload_n 3, 1) := by decide +kernel
theorem dX8_letter_63 : decode cX8_letter 63 = .ok (.if_icmp .ne 6, 3) := by decide +kernel
theorem dX8_letter_66 : decode cX8_letter 66 = .ok (.ldc 80, 2) := by decide +kernel
theorem dX8_letter_68 : decode cX8_letter 68 = .ok (.ireturn, 1) := by decide +kernel
theorem dX8_letter_69 : decode cX8_letter 69 = .ok (.aload_n 0, 1) := by decide +kernel
theorem dX8_letter_70 : decode cX8_letter 70 = .ok (.invokevirtual 81, 3) := by decide +kernel
theorem dX8_letter_73 : decode cX8_letter 73 = .ok (.aload_n 0, 1) := by decide +kernel
theorem dX8_letter_74 : decode cX8_letter 74 = .ok (.getfield 7, 3) := by decide +kernel
theorem dX8_letter_77 : decode cX8_letter 77 = .ok (.iload_n 1, 1) := by decide +kernel
theorem dX8_letter_78 : decode cX8_letter 78 = .ok (.iload_n 3, 1) := by decide +kernel
theorem dX8_letter_79 : decode cX8_letter 79 = .ok (.iastore, 1) := by decide +kernel
theorem dX8_letter_80 : decode cX8_letter 80 = .ok (.iload 4, 2) := by decide +kernel
theorem dX8_letter_82 : decode cX8_letter 82 = .ok (.ifCond .ne 7, 3) := by decide +kernel
theorem dX8_letter_85 : decode cX8_letter 85 = .ok (.iconst (-1), 1) := by decide +kernel
theorem dX8_letter_86 : decode cX8_letter 86 = .ok (.goto 8, 3) := by decide +kernel
theorem dX8_letter_89 : decode cX8_letter 89 = .ok (.iload 4, 2) := by decide +kernel
theorem dX8_letter_91 : decode cX8_letter 91 = .ok (.bipush 96, 2) := by decide +kernel
theorem dX8_letter_93 : decode cX8_letter 93 = .ok (.iadd, 1) := by decide +kernel
theorem dX8_letter_94 : decode cX8_letter 94 = .ok (.ireturn, 1) := by decide +kernel
theorem dX8_put_0 : decode cX8_put 0 = .ok (.aload_n 0, 1) := by decide +kernel
theorem dX8_put_1 : decode cX8_put 1 = .ok (.iload_n 1, 1) := by decide +kernel
theorem dX8_put_2 : decode cX8_put 2 = .ok (.invokevirtual 89, 3) := by decide +kernel
theorem dX8_put_5 : decode cX8_put 5 = .ok (.ifCond .eq 11, 3) := by decide +kernel
theorem dX8_put_8 : decode cX8_put 8 = .ok (.aload_n 0, 1) := by decide +kernel
theorem dX8_put_9 : decode cX8_put 9 = .ok (.iload_n 2, 1) := by decide +kernel
theorem dX8_put_10 : decode cX8_put 10 = .ok (.invokevirtual 93, 3) := by decide +kernel
theorem dX8_put_13 : decode cX8_put 13 = .ok (.ifCond .ne 6, 3) := by decide +kernel
theorem dX8_put_16 : decode cX8_put 16 = .ok (.ldc 79, 2) := by decide +kernel
theorem dX8_put_18 : decode cX8_put 18 = .ok (.ireturn, 1) := by decide +kernel
theorem dX8_put_19 : decode cX8_put 19 = .ok (.aload_n 0, 1) := by decide +kernel
theorem dX8_put_20 : decode cX8_put 20 = .ok (.iload_n 2, 1) := by decide +kernel
theorem dX8_put_21 : decode cX8_put 21 = .ok (.invokevirtual 76, 3) := by decide +kernel
theorem dX8_put_24 : decode cX8_put 24 = .ok (.istore_n 3, 1) := by decide +kernel
theorem dX8_put_25 : decode cX8_put 25 = .ok (.iload_n 3, 1) := by decide +kernel
theorem dX8_put_26 : decode cX8_put 26 = .ok (.invokestatic 69, 3) := by decide +kernel
theorem dX8_put_29 : decode cX8_put 29 = .ok (.aload_n 0, 1) := by decide +kernel
theorem dX8_put_30 : decode cX8_put 30 = .ok (.getfield 26, 3) := by decide +kernel
theorem dX8_put_33 : decode cX8_put 33 = .ok (.iload_n 1, 1) := by decide +kernel
theorem dX8_put_34 : decode cX8_put 34 = .ok (.iaload, 1) := by decide +kernel
theorem dX8_put_35 : decode cX8_put 35 = .ok (.if_icmp .eq 6, 3) := by decide +kernel
theorem dX8_put_38 : decode cX8_put 38 = .ok (.ldc 80, 2) := by decide +kernel
theorem dX8_put_40 : decode cX8_put 40 = .ok (.ireturn, 1) := by decide +kernel
theorem dX8_put_41 : decode cX8_put 41 = .ok (.aload_n 0, 1) := by decide +kernel
theorem dX8_put_42 : decode cX8_put 42 = .ok (.invokevirtual 81, 3) := by decide +kernel
theorem dX8_put_45 : decode cX8_put 45 = .ok (.iconst 0, 1) := by decide +kernel
theorem dX8_put_46 : decode cX8_put 46 = .ok (.istore 4, 2) := by decide +kernel
theorem dX8_put_48 : decode cX8_put 48 = .ok (.iconst 0, 1) := by decide +kernel
theorem dX8_put_49 : decode cX8_put 49 = .ok (.istore 5, 2) := by decide +kernel
theorem dX8_put_51 : decode cX8_put 51 = .ok (.iload 5, 2) := by decide +kernel
theorem dX8_put_53 : decode cX8_put 53 = .ok (.aload_n 0, 1) := by decide +kernel
theorem dX8_put_54 : decode cX8_put 54 = .ok (.getfield 26, 3) := by decide +kernel
theorem dX8_put_57 : decode cX8_put 57 = .ok (.iload_n 1, 1) := by decide +kernel
theorem dX8_put_58 : decode cX8_put 58 = .ok (.iaload, 1) := by decide +kernel
theorem dX8_put_59 : decode cX8_put 59 = .ok (.if_icmp .ge 57, 3) := by decide +kernel
theorem dX8_put_62 : decode cX8_put 62 = .ok (.aload_n 0, 1) := by decide +kernel
theorem dX8_put_63 : decode cX8_put 63 = .ok (.iload_n 1, 1) := by decide +kernel
theorem dX8_put_64 : decode cX8_put 64 = .ok (.iload 5, 2) := by decide +kernel
theorem dX8_put_66 : decode cX8_put 66 = .ok (.invokevirtual 52, 3) := by decide +kernel
theorem dX8_put_69 : decode cX8_put 69 = .ok (.istore 6, 2) := by decide +kernel
theorem dX8_put_71 : decode cX8_put 71 = .ok (.iload 4, 2) := by decide +kernel
theorem dX8_put_73 : decode cX8_put 73 = .ok (.aload_n 0, 1) := by decide +kernel
theorem dX8_put_74 : decode cX8_put 74 = .ok (.getfield 7, 3) := by decide +kernel
theorem dX8_put_77 : decode cX8_put 77 = .ok (.iload 6, 2) := by decide +kernel
theorem dX8_put_79 : decode cX8_put 79 = .ok (.iaload, 1) := by decide +kernel
theorem dX8_put_80 : decode cX8_put 80 = .ok (.iload_n 3, 1) := by decide +kernel
theorem dX8_put_81 : decode cX8_put 81 = .ok (.iload 5, 2) := by decide +kernel
theorem dX8_put_83 : decode cX8_put 83 = .ok (.invokestatic 73, 3) := by decide +kernel
theorem dX8_put_86 : decode cX8_put 86 = .ok (.if_icmp .eq 7, 3) := by decide +kernel
theorem dX8_put_89 : decode cX8_put 89 = .ok (.iconst 1, 1) := by decide +kernel
theorem dX8_put_90 : decode cX8_put 90 = .ok (.goto 4, 3) := by decide +kernel
theorem dX8_put_93 : decode cX8_put 93 = .ok (.iconst 0, 1) := by decide +kernel
theorem dX8_put_94 : decode cX8_put 94 = .ok (.iadd, 1) := by decide +kernel
theorem dX8_put_95 : decode cX8_put 95 = .ok (.istore 4, 2) := by decide +kernel
theorem dX8_put_97 : decode cX8_put 97 = .ok (.aload_n 0, 1) := by decide +kernel
theorem dX8_put_98 : decode cX8_put 98 = .ok (.getfield 7, 3) := by decide +kernel
theorem dX8_put_101 : decode cX8_put 101 = .ok (.iload 6, 2) := by decide +kernel
theorem dX8_put_103 : decode cX8_put 103 = .ok (.iload_n 3, 1) := by decide +kernel
theorem dX8_put_104 : decode cX8_put 104 = .ok (.iload 5, 2) := by decide +kernel
theorem dX8_put_106 : decode cX8_put 106 = .ok (.invokestatic 73, 3) := by decide +kernel
theorem dX8_put_109 : decode cX8_put 109 = .ok (.iastore, 1) := by decide +kernel
theorem dX8_put_110 : decode cX8_put 110 = .ok (.iinc 5 1, 3) := by decide +kernel
theorem dX8_put_113 : decode cX8_put 113 = .ok (.goto (-62), 3) := by decide +kernel
theorem dX8_put_116 : decode cX8_put 116 = .ok (.iload 4, 2) := by decide +kernel
theorem dX8_put_118 : decode cX8_put 118 = .ok (.ireturn, 1) := by decide +kernel
theorem dX8_wipe_0 : decode cX8_wipe 0 = .ok (.aload_n 0, 1) := by decide +kernel
theorem dX8_wipe_1 : decode cX8_wipe 1 = .ok (.invokevirtual 81, 3) := by decide +kernel
theorem dX8_wipe_4 : decode cX8_wipe 4 = .ok (.iconst 0, 1) := by decide +kernel
theorem dX8_wipe_5 : decode cX8_wipe 5 = .ok (.istore_n 1, 1) := by decide +kernel
theorem dX8_wipe_6 : decode cX8_wipe 6 = .ok (.iconst 0, 1) := by decide +kernel
theorem dX8_wipe_7 : decode cX8_wipe 7 = .ok (.istore_n 2, 1) := by decide +kernel
theorem dX8_wipe_8 : decode cX8_wipe 8 = .ok (.iload_n 2, 1) := by decide +kernel
theorem dX8_wipe_9 : decode cX8_wipe 9 = .ok (.bipush 16, 2) := by decide +kernel
theorem dX8_wipe_11 : decode cX8_wipe 11 = .ok (.if_icmp .ge 51, 3) := by decide +kernel
theorem dX8_wipe_14 : decode cX8_wipe 14 = .ok (.iload_n 1, 1) := by decide +kernel
theorem dX8_wipe_15 : decode cX8_wipe 15 = .ok (.aload_n 0, 1) := by decide +kernel
theorem dX8_wipe_16 : decode cX8_wipe 16 = .ok (.getfield 7, 3) := by decide +kernel
theorem dX8_wipe_19 : decode cX8_wipe 19 = .ok (.iload_n 2, 1) := by decide +kernel
theorem dX8_wipe_20 : decode cX8_wipe 20 = .ok (.iaload, 1) := by decide +kernel
theorem dX8_wipe_21 : decode cX8_wipe 21 = .ok (.ifCond .le 7, 3) := by decide +kernel
theorem dX8_wipe_24 : decode cX8_wipe 24 = .ok (.iconst 1, 1) := by decide +kernel
theorem dX8_wipe_25 : decode cX8_wipe 25 = .ok (.goto 4, 3) := by decide +kernel
theorem dX8_wipe_28 : decode cX8_wipe 28 = .ok (.iconst 0, 1) := by decide +kernel
theorem dX8_wipe_29 : decode cX8_wipe 29 = .ok (.iadd, 1) := by decide +kernel
theorem dX8_wipe_30 : decode cX8_wipe 30 = .ok (.istore_n 1, 1) := by decide +kernel
theorem dX8_wipe_31 : decode cX8_wipe 31 = .ok (.aload_n 0, 1) := by decide +kernel
theorem dX8_wipe_32 : decode cX8_wipe 32 = .ok (.getfield 7, 3) := by decide +kernel
theorem dX8_wipe_35 : decode cX8_wipe 35 = .ok (.iload_n 2, 1) := by decide +kernel
theorem dX8_wipe_36 : decode cX8_wipe 36 = .ok (.aload_n 0, 1) := by decide +kernel
theorem dX8_wipe_37 : decode cX8_wipe 37 = .ok (.getfield 7, 3) := by decide +kernel
theorem dX8_wipe_40 : decode cX8_wipe 40 = .ok (.iload_n 2, 1) := by decide +kernel
theorem dX8_wipe_41 : decode cX8_wipe 41 = .ok (.iaload, 1) := by decide +kernel
theorem dX8_wipe_42 : decode cX8_wipe 42 = .ok (.ifCond .le 7, 3) := by decide +kernel
theorem dX8_wipe_45 : decode cX8_wipe 45 = .ok (.iconst 0, 1) := by decide +kernel
theorem dX8_wipe_46 : decode cX8_wipe 46 = .ok (.goto 9, 3) := by decide +kernel
theorem dX8_wipe_49 : decode cX8_wipe 49 = .ok (.aload_n 0, 1) := by decide +kernel
theorem dX8_wipe_50 : decode cX8_wipe 50 = .ok (.getfield 7, 3) := by decide +kernel
theorem dX8_wipe_53 : decode cX8_wipe 53 = .ok (.iload_n 2, 1) := by decide +kernel
theorem dX8_wipe_54 : decode cX8_wipe 54 = .ok (.iaload, 1) := by decide +kernel
theorem dX8_wipe_55 : decode cX8_wipe 55 = .ok (.iastore, 1) := by decide +kernel
theorem dX8_wipe_56 : decode cX8_wipe 56 = .ok (.iinc 2 1, 3) := by decide +kernel
theorem dX8_wipe_59 : decode cX8_wipe 59 = .ok (.goto (-51), 3) := by decide +kernel
theorem dX8_wipe_62 : decode cX8_wipe 62 = .ok (.iload_n 1, 1) := by decide +kernel
theorem dX8_wipe_63 : decode cX8_wipe 63 = .ok (.ireturn, 1) := by decide +kernel
theorem dX8_turn_0 : decode cX8_turn 0 = .ok (.aload_n 0, 1) := by decide +kernel
theorem dX8_turn_1 : decode cX8_turn 1 = .ok (.invokevirtual 81, 3) := by decide +kernel
theorem dX8_turn_4 : decode cX8_turn 4 = .ok (.iconst 0, 1) := by decide +kernel
theorem dX8_turn_5 : decode cX8_turn 5 = .ok (.istore_n 1, 1) := by decide +kernel
theorem dX8_turn_6 : decode cX8_turn 6 = .ok (.iload_n 1, 1) := by decide +kernel
theorem dX8_turn_7 : decode cX8_turn 7 = .ok (.iconst 4, 1) := by decide +kernel
theorem dX8_turn_8 : decode cX8_turn 8 = .ok (.if_icmp .ge 64, 3) := by decide +kernel
theorem dX8_turn_11 : decode cX8_turn 11 = .ok (.iconst 0, 1) := by decide +kernel
theorem dX8_turn_12 : decode cX8_turn 12 = .ok (.istore_n 2, 1) := by decide +kernel
theorem dX8_turn_13 : decode cX8_turn 13 = .ok (.iload_n 2, 1) := by decide +kernel
theorem dX8_turn_14 : decode cX8_turn 14 = .ok (.iload_n 1, 1) := by decide +kernel
theorem dX8_turn_15 : decode cX8_turn 15 = .ok (.if_icmp .ge 51, 3) := by decide +kernel
theorem dX8_turn_18 : decode cX8_turn 18 = .ok (.aload_n 0, 1) := by decide +kernel
theorem dX8_turn_19 : decode cX8_turn 19 = .ok (.getfield 7, 3) := by decide +kernel
theorem dX8_turn_22 : decode cX8_turn 22 = .ok (.iconst 4, 1) := by decide +kernel
theorem dX8_turn_23 : decode cX8_turn 23 = .ok (.iload_n 1, 1) := by decide +kernel
theorem dX8_turn_24 : decode cX8_turn 24 = .ok (.imul, 1) := by decide +kernel
theorem dX8_turn_25 : decode cX8_turn 25 = .ok (.iload_n 2, 1) := by decide +kernel
theorem dX8_turn_26 : decode cX8_turn 26 = .ok (.iadd, 1) := by decide +kernel
theorem dX8_turn_27 : decode cX8_turn 27 = .ok (.iaload, 1) := by decide +kernel
theorem dX8_turn_28 : decode cX8_turn 28 = .ok (.istore_n 3, 1) := by decide +kernel
theorem dX8_turn_29 : decode cX8_turn 29 = .ok (.aload_n 0, 1) := by decide +kernel
theorem dX8_turn_30 : decode cX8_turn 30 = .ok (.getfield 7, 3) := by decide +kernel
theorem dX8_turn_33 : decode cX8_turn 33 = .ok (.iconst 4, 1) := by decide +kernel
theorem dX8_turn_34 : decode cX8_turn 34 = .ok (.iload_n 1, 1) := by decide +kernel
theorem dX8_turn_35 : decode cX8_turn 35 = .ok (.imul, 1) := by decide +kernel
theorem dX8_turn_36 : decode cX8_turn 36 = .ok (.iload_n 2, 1) := by decide +kernel
theorem dX8_turn_37 : decode cX8_turn 37 = .ok (.iadd, 1) := by decide +kernel
theorem dX8_turn_38 : decode cX8_turn 38 = .ok (.aload_n 0, 1) := by decide +kernel
theorem dX8_turn_39 : decode cX8_turn 39 = .ok (.getfield 7, 3) := by decide +kernel
theorem dX8_turn_42 : decode cX8_turn 42 = .ok (.iconst 4, 1) := by decide +kernel
theorem dX8_turn_43 : decode cX8_turn 43 = .ok (.iload_n 2, 1) := by decide +kernel
theorem dX8_turn_44 : decode cX8_turn 44 = .ok (.imul, 1) := by decide +kernel
theorem dX8_turn_45 : decode cX8_turn 45 = .ok (.iload_n 1, 1) := by decide +kernel
theorem dX8_turn_46 : decode cX8_turn 46 = .ok (.iadd, 1) := by decide +kernel
theorem dX8_turn_47 : decode cX8_turn 47 = .ok (.iaload, 1) := by decide +kernel
theorem dX8_turn_48 : decode cX8_turn 48 = .ok (.iastore, 1) := by decide +kernel
theorem dX8_turn_49 : decode cX8_turn 49 = .ok (.aload_n 0, 1) := by decide +kernel
theorem dX8_turn_50 : decode cX8_turn 50 = .ok (.getfield 7, 3) := by decide +kernel
theorem dX8_turn_53 : decode cX8_turn 53 = .ok (.iconst 4, 1) := by decide +kernel
theorem dX8_turn_54 : decode cX8_turn 54 = .ok (.iload_n 2, 1) := by decide +kernel
theorem dX8_turn_55 : decode cX8_turn 55 = .ok (.imul, 1) := by decide +kernel
theorem dX8_turn_56 : decode cX8_turn 56 = .ok (.iload_n 1, 1) := by decide +kernel
theorem dX8_turn_57 : decode cX8_turn 57 = .ok (.iadd, 1) := by decide +kernel
theorem dX8_turn_58 : decode cX8_turn 58 = .ok (.iload_n 3, 1) := by decide +kernel
theorem dX8_turn_59 : decode cX8_turn 59 = .ok (.iastore, 1) := by decide +kernel
theorem dX8_turn_60 : decode cX8_turn 60 = .ok (.iinc 2 1, 3) := by decide +kernel
theorem dX8_turn_63 : decode cX8_turn 63 = .ok (.goto (-50), 3) := by decide +kernel
theorem dX8_turn_66 : decode cX8_turn 66 = .ok (.iinc 1 1, 3) := by decide +kernel
theorem dX8_turn_69 : decode cX8_turn 69 = .ok (.goto (-63), 3) := by decide +kernel
theorem dX8_turn_72 : decode cX8_turn 72 = .ok (.aload_n 0, 1) := by decide +kernel
theorem dX8_turn_73 : decode cX8_turn 73 = .ok (.invokevirtual 84, 3) := by decide +kernel
theorem dX8_turn_76 : decode cX8_turn 76 = .ok (.ireturn, 1) := by decide +kernel
theorem dX8_add_0 : decode cX8_add 0 = .ok (.iload_n 1, 1) := by decide +kernel
theorem dX8_add_1 : decode cX8_add 1 = .ok (.invokestatic 96, 3) := by decide +kernel
theorem dX8_add_4 : decode cX8_add 4 = .ok (.ifCond .ne 6, 3) := by decide +kernel
theorem dX8_add_7 : decode cX8_add 7 = .ok (.ldc 88, 2) := by decide +kernel
theorem dX8_add_9 : decode cX8_add 9 = .ok (.ireturn, 1) := by decide +kernel
theorem dX8_add_10 : decode cX8_add 10 = .ok (.aload_n 0, 1) := by decide +kernel
theorem dX8_add_11 : decode cX8_add 11 = .ok (.iload_n 1, 1) := by decide +kernel
theorem dX8_add_12 : decode cX8_add 12 = .ok (.invokevirtual 99, 3) := by decide +kernel
theorem dX8_add_15 : decode cX8_add 15 = .ok (.iconst (-1), 1) := by decide +kernel
theorem dX8_add_16 : decode cX8_add 16 = .ok (.if_icmp .eq 6, 3) := by decide +kernel
theorem dX8_add_19 : decode cX8_add 19 = .ok (.ldc 80, 2) := by decide +kernel
theorem dX8_add_21 : decode cX8_add 21 = .ok (.ireturn, 1) := by decide +kernel
theorem dX8_add_22 : decode cX8_add 22 = .ok (.aload_n 0, 1) := by decide +kernel
theorem dX8_add_23 : decode cX8_add 23 = .ok (.getfield 7, 3) := by decide +kernel
theorem dX8_add_26 : decode cX8_add 26 = .ok (.bipush 16, 2) := by decide +kernel
theorem dX8_add_28 : decode cX8_add 28 = .ok (.iaload, 1) := by decide +kernel
theorem dX8_add_29 : decode cX8_add 29 = .ok (.bipush 16, 2) := by decide +kernel
theorem dX8_add_31 : decode cX8_add 31 = .ok (.if_icmp .ne 6, 3) := by decide +kernel
theorem dX8_add_34 : decode cX8_add 34 = .ok (.ldc 102, 2) := by decide +kernel
theorem dX8_add_36 : decode cX8_add 36 = .ok (.ireturn, 1) := by decide +kernel
theorem dX8_add_37 : decode cX8_add 37 = .ok (.aload_n 0, 1) := by decide +kernel
theorem dX8_add_38 : decode cX8_add 38 = .ok (.invokevirtual 81, 3) := by decide +kernel
theorem dX8_add_41 : decode cX8_add 41 = .ok (.aload_n 0, 1) := by decide +kernel
theorem dX8_add_42 : decode cX8_add 42 = .ok (.getfield 7, 3) := by decide +kernel
theorem dX8_add_45 : decode cX8_add 45 = .ok (.bipush 17, 2) := by decide +kernel
theorem dX8_add_47 : decode cX8_add 47 = .ok (.aload_n 0, 1) := by decide +kernel
theorem dX8_add_48 : decode cX8_add 48 = .ok (.getfield 7, 3) := by decide +kernel
theorem dX8_add_51 : decode cX8_add 51 = .ok (.bipush 16, 2) := by decide +kernel
theorem dX8_add_53 : decode cX8_add 53 = .ok (.iaload, 1) := by decide +kernel
theorem dX8_add_54 : decode cX8_add 54 = .ok (.iadd, 1) := by decide +kernel
theorem dX8_add_55 : decode cX8_add 55 = .ok (.iload_n 1, 1) := by decide +kernel
theorem dX8_add_56 : decode cX8_add 56 = .ok (.iastore, 1) := by decide +kernel
theorem dX8_add_57 : decode cX8_add 57 = .ok (.aload_n 0, 1) := by decide +kernel
theorem dX8_add_58 : decode cX8_add 58 = .ok (.getfield 7, 3) := by decide +kernel
theorem dX8_add_61 : decode cX8_add 61 = .ok (.bipush 16, 2) := by decide +kernel
theorem dX8_add_63 : decode cX8_add 63 = .ok (.dup2, 1) := by decide +kernel
theorem dX8_add_64 : decode cX8_add 64 = .ok (.iaload, 1) := by decide +kernel
theorem dX8_add_65 : decode cX8_add 65 = .ok (.iconst 1, 1) := by decide +kernel
theorem dX8_add_66 : decode cX8_add 66 = .ok (.iadd, 1) := by decide +kernel
theorem dX8_add_67 : decode cX8_add 67 = .ok (.iastore, 1) := by decide +kernel
theorem dX8_add_68 : decode cX8_add 68 = .ok (.aload_n 0, 1) := by decide +kernel
theorem dX8_add_69 : decode cX8_add 69 = .ok (.getfield 7, 3) := by decide +kernel
theorem dX8_add_72 : decode cX8_add 72 = .ok (.bipush 16, 2) := by decide +kernel
theorem dX8_add_74 : decode cX8_add 74 = .ok (.iaload, 1) := by decide +kernel
theorem dX8_add_75 : decode cX8_add 75 = .ok (.iconst 1, 1) := by decide +kernel
theorem dX8_add_76 : decode cX8_add 76 = .ok (.isub, 1) := by decide +kernel
theorem dX8_add_77 : decode cX8_add 77 = .ok (.ireturn, 1) := by decide +kernel
theorem dX8_strike_0 : decode cX8_strike 0 = .ok (.aload_n 0, 1) := by decide +kernel
theorem dX8_strike_1 : decode cX8_strike 1 = .ok (.iload_n 1, 1) := by decide +kernel
theorem dX8_strike_2 : decode cX8_strike 2 = .ok (.invokevirtual 93, 3) := by decide +kernel
theorem dX8_strike_5 : decode cX8_strike 5 = .ok (.ifCond .ne 6, 3) := by decide +kernel
theorem dX8_strike_8 : decode cX8_strike 8 = .ok (.ldc 79, 2) := by decide +kernel
theorem dX8_strike_10 : decode cX8_strike 10 = .ok (.ireturn, 1) := by decide +kernel
theorem dX8_strike_11 : decode cX8_strike 11 = .ok (.aload_n 0, 1) := by decide +kernel
theorem dX8_strike_12 : decode cX8_strike 12 = .ok (.invokevirtual 81, 3) := by decide +kernel
theorem dX8_strike_15 : decode cX8_strike 15 = .ok (.aload_n 0, 1) := by decide +kernel
theorem dX8_strike_16 : decode cX8_strike 16 = .ok (.getfield 7, 3) := by decide +kernel
theorem dX8_strike_19 : decode cX8_strike 19 = .ok (.bipush 16, 2) := by decide +kernel
theorem dX8_strike_21 : decode cX8_strike 21 = .ok (.dup2, 1) := by decide +kernel
theorem dX8_strike_22 : decode cX8_strike 22 = .ok (.iaload, 1) := by decide +kernel
theorem dX8_strike_23 : decode cX8_strike 23 = .ok (.iconst 1, 1) := by decide +kernel
theorem dX8_strike_24 : decode cX8_strike 24 = .ok (.isub, 1) := by decide +kernel
theorem dX8_strike_25 : decode cX8_strike 25 = .ok (.iastore, 1) := by decide +kernel
theorem dX8_strike_26 : decode cX8_strike 26 = .ok (.iload_n 1, 1) := by decide +kernel
theorem dX8_strike_27 : decode cX8_strike 27 = .ok (.istore_n 2, 1) := by decide +kernel
theorem dX8_strike_28 : decode cX8_strike 28 = .ok (.iload_n 2, 1) := by decide +kernel
theorem dX8_strike_29 : decode cX8_strike 29 = .ok (.aload_n 0, 1) := by decide +kernel
theorem dX8_strike_30 : decode cX8_strike 30 = .ok (.getfield 7, 3) := by decide +kernel
theorem dX8_strike_33 : decode cX8_strike 33 = .ok (.bipush 16, 2) := by decide +kernel
theorem dX8_strike_35 : decode cX8_strike 35 = .ok (.iaload, 1) := by decide +kernel
theorem dX8_strike_36 : decode cX8_strike 36 = .ok (.if_icmp .ge 29, 3) := by decide +kernel
theorem dX8_strike_39 : decode cX8_strike 39 = .ok (.aload_n 0, 1) := by decide +kernel
theorem dX8_strike_40 : decode cX8_strike 40 = .ok (.getfield 7, 3) := by decide +kernel
theorem dX8_strike_43 : decode cX8_strike 43 = .ok (.bipush 17, 2) := by decide +kernel
theorem dX8_strike_45 : decode cX8_strike 45 = .ok (.iload_n 2, 1) := by decide +kernel
theorem dX8_strike_46 : decode cX8_strike 46 = .ok (.iadd, 1) := by decide +kernel
theorem dX8_strike_47 : decode cX8_strike 47 = .ok (.aload_n 0, 1) := by decide +kernel
theorem dX8_strike_48 : decode cX8_strike 48 = .ok (.getfield 7, 3) := by decide +kernel
theorem dX8_strike_51 : decode cX8_strike 51 = .ok (.bipush 17, 2) := by decide +kernel
theorem dX8_strike_53 : decode cX8_strike 53 = .ok (.iload_n 2, 1) := by decide +kernel
theorem dX8_strike_54 : decode cX8_strike 54 = .ok (.iadd, 1) := by decide +kernel
theorem dX8_strike_55 : decode cX8_strike 55 = .ok (.iconst 1, 1) := by decide +kernel
theorem dX8_strike_56 : decode cX8_strike 56 = .ok (.iadd, 1) := by decide +kernel
theorem dX8_strike_57 : decode cX8_strike 57 = .ok (.iaload, 1) := by decide +kernel
theorem dX8_strike_58 : decode cX8_strike 58 = .ok (.iastore, 1) := by decide +kernel
theorem dX8_strike_59 : decode cX8_strike 59 = .ok (.iinc 2 1, 3) := by decide +kernel
theorem dX8_strike_62 : decode cX8_strike 62 = .ok (.goto (-34), 3) := by decide +kernel
theorem dX8_strike_65 : decode cX8_strike 65 = .ok (.aload_n 0, 1) := by decide +kernel
theorem dX8_strike_66 : decode cX8_strike 66 = .ok (.getfield 7, 3) := by decide +kernel
theorem dX8_strike_69 : decode cX8_strike 69 = .ok (.bipush 16, 2) := by decide +kernel
theorem dX8_strike_71 : decode cX8_strike 71 = .ok (.iaload, 1) := by decide +kernel
theorem dX8_strike_72 : decode cX8_strike 72 = .ok (.ireturn, 1) := by decide +kernel
theorem dX8_lots_0 : decode cX8_lots 0 = .ok (.aload_n 0, 1) := by decide +kernel
theorem dX8_lots_1 : decode cX8_lots 1 = .ok (.aload_n 0, 1) := by decide +kernel
theorem dX8_lots_2 : decode cX8_lots 2 = .ok (.getfield 103, 3) := by decide +kernel
theorem dX8_lots_5 : decode cX8_lots 5 = .ok (.ldc2_w 107, 3) := by decide +kernel
theorem dX8_lots_8 : decode cX8_lots 8 = .ok (.lmul, 1) := by decide +kernel
theorem dX8_lots_9 : decode cX8_lots 9 = .ok (.ldc2_w 109, 3) := by decide +kernel
theorem dX8_lots_12 : decode cX8_lots 12 = .ok (.lrem, 1) := by decide +kernel
theorem dX8_lots_13 : decode cX8_lots 13 = .ok (.putfield 103, 3) := by decide +kernel
theorem dX8_lots_16 : decode cX8_lots 16 = .ok (.aload_n 0, 1) := by decide +kernel
theorem dX8_lots_17 : decode cX8_lots 17 = .ok (.getfield 103, 3) := by decide +kernel
theorem dX8_lots_20 : decode cX8_lots 20 = .ok (.iload_n 1, 1) := by decide +kernel
theorem dX8_lots_21 : decode cX8_lots 21 = .ok (.i2l, 1) := by decide +kernel
theorem dX8_lots_22 : decode cX8_lots 22 = .ok (.lrem, 1) := by decide +kernel
theorem dX8_lots_23 : decode cX8_lots 23 = .ok (.l2i, 1) := by decide +kernel
theorem dX8_lots_24 : decode cX8_lots 24 = .ok (.ireturn, 1) := by decide +kernel
theorem dX8_drift_0 : decode cX8_drift 0 = .ok (.iload_n 1, 1) := by decide +kernel
theorem dX8_drift_1 : decode cX8_drift 1 = .ok (.iconst 1, 1) := by decide +kernel
theorem dX8_drift_2 : decode cX8_drift 2 = .ok (.bipush 16, 2) := by decide +kernel
theorem dX8_drift_4 : decode cX8_drift 4 = .ok (.invokestatic 65, 3) := by decide +kernel
theorem dX8_drift_7 : decode cX8_drift 7 = .ok (.ifCond .eq 13, 3) := by decide +kernel
theorem dX8_drift_10 : decode cX8_drift 10 = .ok (.iload_n 2, 1) := by decide +kernel
theorem dX8_drift_11 : decode cX8_drift 11 = .ok (.iconst 1, 1) := by decide +kernel
theorem dX8_drift_12 : decode cX8_drift 12 = .ok (.ldc 111, 2) := by decide +kernel
theorem dX8_drift_14 : decode cX8_drift 14 = .ok (.invokestatic 65, 3) := by decide +kernel
theorem dX8_drift_17 : decode cX8_drift 17 = .ok (.ifCond .ne 6, 3) := by decide +kernel
theorem dX8_drift_20 : decode cX8_drift 20 = .ok (.ldc 88, 2) := by decide +kernel
theorem dX8_drift_22 : decode cX8_drift 22 = .ok (.ireturn, 1) := by decide +kernel
theorem dX8_drift_23 : decode cX8_drift 23 = .ok (.aload_n 0, 1) := by decide +kernel
theorem dX8_drift_24 : decode cX8_drift 24 = .ok (.invokevirtual 81, 3) := by decide +kernel
theorem dX8_drift_27 : decode cX8_drift 27 = .ok (.aload_n 0, 1) := by decide +kernel
theorem dX8_drift_28 : decode cX8_drift 28 = .ok (.iload_n 2, 1) := by decide +kernel
theorem dX8_drift_29 : decode cX8_drift 29 = .ok (.i2l, 1) := by decide +kernel
theorem dX8_drift_30 : decode cX8_drift 30 = .ok (.putfield 103, 3) := by decide +kernel
theorem dX8_drift_33 : decode cX8_drift 33 = .ok (.iconst 0, 1) := by decide +kernel
theorem dX8_drift_34 : decode cX8_drift 34 = .ok (.istore_n 3, 1) := by decide +kernel
theorem dX8_drift_35 : decode cX8_drift 35 = .ok (.iconst 0, 1) := by decide +kernel
theorem dX8_drift_36 : decode cX8_drift 36 = .ok (.istore 4, 2) := by decide +kernel
theorem dX8_drift_38 : decode cX8_drift 38 = .ok (.iload 4, 2) := by decide +kernel
theorem dX8_drift_40 : decode cX8_drift 40 = .ok (.iload_n 1, 1) := by decide +kernel
theorem dX8_drift_41 : decode cX8_drift 41 = .ok (.if_icmp .ge 106, 3) := by decide +kernel
theorem dX8_drift_44 : decode cX8_drift 44 = .ok (.iconst 2, 1) := by decide +kernel
theorem dX8_drift_45 : decode cX8_drift 45 = .ok (.aload_n 0, 1) := by decide +kernel
theorem dX8_drift_46 : decode cX8_drift 46 = .ok (.iconst 3, 1) := by decide +kernel
theorem dX8_drift_47 : decode cX8_drift 47 = .ok (.invokevirtual 112, 3) := by decide +kernel
theorem dX8_drift_50 : decode cX8_drift 50 = .ok (.iadd, 1) := by decide +kernel
theorem dX8_drift_51 : decode cX8_drift 51 = .ok (.istore 5, 2) := by decide +kernel
theorem dX8_drift_53 : decode cX8_drift 53 = .ok (.iconst 0, 1) := by decide +kernel
theorem dX8_drift_54 : decode cX8_drift 54 = .ok (.istore 6, 2) := by decide +kernel
theorem dX8_drift_56 : decode cX8_drift 56 = .ok (.iconst 0, 1) := by decide +kernel
theorem dX8_drift_57 : decode cX8_drift 57 = .ok (.istore 7, 2) := by decide +kernel
theorem dX8_drift_59 : decode cX8_drift 59 = .ok (.iload 7, 2) := by decide +kernel
theorem dX8_drift_61 : decode cX8_drift 61 = .ok (.iload 5, 2) := by decide +kernel
theorem dX8_drift_63 : decode cX8_drift 63 = .ok (.if_icmp .ge 25, 3) := by decide +kernel
theorem dX8_drift_66 : decode cX8_drift 66 = .ok (.bipush 7, 2) := by decide +kernel
theorem dX8_drift_68 : decode cX8_drift 68 = .ok (.iload 6, 2) := by decide +kernel
theorem dX8_drift_70 : decode cX8_drift 70 = .ok (.imul, 1) := by decide +kernel
theorem dX8_drift_71 : decode cX8_drift 71 = .ok (.iconst 1, 1) := by decide +kernel
theorem dX8_drift_72 : decode cX8_drift 72 = .ok (.iadd, 1) := by decide +kernel
theorem dX8_drift_73 : decode cX8_drift 73 = .ok (.aload_n 0, 1) := by decide +kernel
theorem dX8_drift_74 : decode cX8_drift 74 = .ok (.bipush 6, 2) := by decide +kernel
theorem dX8_drift_76 : decode cX8_drift 76 = .ok (.invokevirtual 112, 3) := by decide +kernel
theorem dX8_drift_79 : decode cX8_drift 79 = .ok (.iadd, 1) := by decide +kernel
theorem dX8_drift_80 : decode cX8_drift 80 = .ok (.istore 6, 2) := by decide +kernel
theorem dX8_drift_82 : decode cX8_drift 82 = .ok (.iinc 7 1, 3) := by decide +kernel
theorem dX8_drift_85 : decode cX8_drift 85 = .ok (.goto (-26), 3) := by decide +kernel
theorem dX8_drift_88 : decode cX8_drift 88 = .ok (.aload_n 0, 1) := by decide +kernel
theorem dX8_drift_89 : decode cX8_drift 89 = .ok (.iload 6, 2) := by decide +kernel
theorem dX8_drift_91 : decode cX8_drift 91 = .ok (.invokevirtual 99, 3) := by decide +kernel
theorem dX8_drift_94 : decode cX8_drift 94 = .ok (.iconst (-1), 1) := by decide +kernel
theorem dX8_drift_95 : decode cX8_drift 95 = .ok (.if_icmp .ne 46, 3) := by decide +kernel
theorem dX8_drift_98 : decode cX8_drift 98 = .ok (.aload_n 0, 1) := by decide +kernel
theorem dX8_drift_99 : decode cX8_drift 99 = .ok (.getfield 7, 3) := by decide +kernel
theorem dX8_drift_102 : decode cX8_drift 102 = .ok (.bipush 16, 2) := by decide +kernel
theorem dX8_drift_104 : decode cX8_drift 104 = .ok (.iaload, 1) := by decide +kernel
theorem dX8_drift_105 : decode cX8_drift 105 = .ok (.bipush 16, 2) := by decide +kernel
theorem dX8_drift_107 : decode cX8_drift 107 = .ok (.if_icmp .ge 34, 3) := by decide +kernel
theorem dX8_drift_110 : decode cX8_drift 110 = .ok (.aload_n 0, 1) := by decide +kernel
theorem dX8_drift_111 : decode cX8_drift 111 = .ok (.getfield 7, 3) := by decide +kernel
theorem dX8_drift_114 : decode cX8_drift 114 = .ok (.bipush 17, 2) := by decide +kernel
theorem dX8_drift_116 : decode cX8_drift 116 = .ok (.aload_n 0, 1) := by decide +kernel
theorem dX8_drift_117 : decode cX8_drift 117 = .ok (.getfield 7, 3) := by decide +kernel
theorem dX8_drift_120 : decode cX8_drift 120 = .ok (.bipush 16, 2) := by decide +kernel
theorem dX8_drift_122 : decode cX8_drift 122 = .ok (.iaload, 1) := by decide +kernel
theorem dX8_drift_123 : decode cX8_drift 123 = .ok (.iadd, 1) := by decide +kernel
theorem dX8_drift_124 : decode cX8_drift 124 = .ok (.iload 6, 2) := by decide +kernel
theorem dX8_drift_126 : decode cX8_drift 126 = .ok (.iastore, 1) := by decide +kernel
theorem dX8_drift_127 : decode cX8_drift 127 = .ok (.aload_n 0, 1) := by decide +kernel
theorem dX8_drift_128 : decode cX8_drift 128 = .ok (.getfield 7, 3) := by decide +kernel
theorem dX8_drift_131 : decode cX8_drift 131 = .ok (.bipush 16, 2) := by decide +kernel
theorem dX8_drift_133 : decode cX8_drift 133 = .ok (.dup2, 1) := by decide +kernel
theorem dX8_drift_134 : decode cX8_drift 134 = .ok (.iaload, 1) := by decide +kernel
theorem dX8_drift_135 : decode cX8_drift 135 = .ok (.iconst 1, 1) := by decide +kernel
theorem dX8_drift_136 : decode cX8_drift 136 = .ok (.iadd, 1) := by decide +kernel
theorem dX8_drift_137 : decode cX8_drift 137 = .ok (.iastore, 1) := by decide +kernel
theorem dX8_drift_138 : decode cX8_drift 138 = .ok (.iinc 3 1, 3) := by decide +kernel
theorem dX8_drift_141 : decode cX8_drift 141 = .ok (.iinc 4 1, 3) := by decide +kernel
theorem dX8_drift_144 : decode cX8_drift 144 = .ok (.goto (-106), 3) := by decide +kernel
theorem dX8_drift_147 : decode cX8_drift 147 = .ok (.iload_n 3, 1) := by decide +kernel
theorem dX8_drift_148 : decode cX8_drift 148 = .ok (.ireturn, 1) := by decide +kernel
theorem dX8_undo_0 : decode cX8_undo 0 = .ok (.aload_n 0, 1) := by decide +kernel
theorem dX8_undo_1 : decode cX8_undo 1 = .ok (.getfield 42, 3) := by decide +kernel
theorem dX8_undo_4 : decode cX8_undo 4 = .ok (.ifCond .ne 6, 3) := by decide +kernel
theorem dX8_undo_7 : decode cX8_undo 7 = .ok (.ldc 80, 2) := by decide +kernel
theorem dX8_undo_9 : decode cX8_undo 9 = .ok (.ireturn, 1) := by decide +kernel
theorem dX8_undo_10 : decode cX8_undo 10 = .ok (.aload_n 0, 1) := by decide +kernel
theorem dX8_undo_11 : decode cX8_undo 11 = .ok (.aload_n 0, 1) := by decide +kernel
theorem dX8_undo_12 : decode cX8_undo 12 = .ok (.getfield 38, 3) := by decide +kernel
theorem dX8_undo_15 : decode cX8_undo 15 = .ok (.bipush 10, 2) := by decide +kernel
theorem dX8_undo_17 : decode cX8_undo 17 = .ok (.iadd, 1) := by decide +kernel
theorem dX8_undo_18 : decode cX8_undo 18 = .ok (.iconst 1, 1) := by decide +kernel
theorem dX8_undo_19 : decode cX8_undo 19 = .ok (.isub, 1) := by decide +kernel
theorem dX8_undo_20 : decode cX8_undo 20 = .ok (.bipush 10, 2) := by decide +kernel
theorem dX8_undo_22 : decode cX8_undo 22 = .ok (.irem, 1) := by decide +kernel
theorem dX8_undo_23 : decode cX8_undo 23 = .ok (.putfield 38, 3) := by decide +kernel
theorem dX8_undo_26 : decode cX8_undo 26 = .ok (.aload_n 0, 1) := by decide +kernel
theorem dX8_undo_27 : decode cX8_undo 27 = .ok (.dup, 1) := by decide +kernel
theorem dX8_undo_28 : decode cX8_undo 28 = .ok (.getfield 42, 3) := by decide +kernel
theorem dX8_undo_31 : decode cX8_undo 31 = .ok (.iconst 1, 1) := by decide +kernel
theorem dX8_undo_32 : decode cX8_undo 32 = .ok (.isub, 1) := by decide +kernel
theorem dX8_undo_33 : decode cX8_undo 33 = .ok (.putfield 42, 3) := by decide +kernel
theorem dX8_undo_36 : decode cX8_undo 36 = .ok (.iconst 0, 1) := by decide +kernel
theorem dX8_undo_37 : decode cX8_undo 37 = .ok (.istore_n 1, 1) := by decide +kernel
theorem dX8_undo_38 : decode cX8_undo 38 = .ok (.iload_n 1, 1) := by decide +kernel
theorem dX8_undo_39 : decode cX8_undo 39 = .ok (.bipush 33, 2) := by decide +kernel
theorem dX8_undo_41 : decode cX8_undo 41 = .ok (.if_icmp .ge 29, 3) := by decide +kernel
theorem dX8_undo_44 : decode cX8_undo 44 = .ok (.aload_n 0, 1) := by decide +kernel
theorem dX8_undo_45 : decode cX8_undo 45 = .ok (.getfield 7, 3) := by decide +kernel
theorem dX8_undo_48 : decode cX8_undo 48 = .ok (.iload_n 1, 1) := by decide +kernel
theorem dX8_undo_49 : decode cX8_undo 49 = .ok (.aload_n 0, 1) := by decide +kernel
theorem dX8_undo_50 : decode cX8_undo 50 = .ok (.getfield 13, 3) := by decide +kernel
theorem dX8_undo_53 : decode cX8_undo 53 = .ok (.bipush 33, 2) := by decide +kernel
theorem dX8_undo_55 : decode cX8_undo 55 = .ok (.aload_n 0, 1) := by decide +kernel
theorem dX8_undo_56 : decode cX8_undo 56 = .ok (.getfield 38, 3) := by decide +kernel
theorem dX8_undo_59 : decode cX8_undo 59 = .ok (.imul, 1) := by decide +kernel
theorem dX8_undo_60 : decode cX8_undo 60 = .ok (.iload_n 1, 1) := by decide +kernel
theorem dX8_undo_61 : decode cX8_undo 61 = .ok (.iadd, 1) := by decide +kernel
theorem dX8_undo_62 : decode cX8_undo 62 = .ok (.iaload, 1) := by decide +kernel
theorem dX8_undo_63 : decode cX8_undo 63 = .ok (.iastore, 1) := by decide +kernel
theorem dX8_undo_64 : decode cX8_undo 64 = .ok (.iinc 1 1, 3) := by decide +kernel
theorem dX8_undo_67 : decode cX8_undo 67 = .ok (.goto (-29), 3) := by decide +kernel
theorem dX8_undo_70 : decode cX8_undo 70 = .ok (.aload_n 0, 1) := by decide +kernel
theorem dX8_undo_71 : decode cX8_undo 71 = .ok (.getfield 42, 3) := by decide +kernel
theorem dX8_undo_74 : decode cX8_undo 74 = .ok (.ireturn, 1) := by decide +kernel
theorem dX8_goesWith_0 : decode cX8_goesWith 0 = .ok (.iconst 0, 1) := by decide +kernel
theorem dX8_goesWith_1 : decode cX8_goesWith 1 = .ok (.istore 5, 2) := by decide +kernel
theorem dX8_goesWith_3 : decode cX8_goesWith 3 = .ok (.iload 5, 2) := by decide +kernel
theorem dX8_goesWith_5 : decode cX8_goesWith 5 = .ok (.aload_n 0, 1) := by decide +kernel
theorem dX8_goesWith_6 : decode cX8_goesWith 6 = .ok (.getfield 7, 3) := by decide +kernel
theorem dX8_goesWith_9 : decode cX8_goesWith 9 = .ok (.bipush 16, 2) := by decide +kernel
theorem dX8_goesWith_11 : decode cX8_goesWith 11 = .ok (.iaload, 1) := by decide +kernel
theorem dX8_goesWith_12 : decode cX8_goesWith 12 = .ok (.if_icmp .ge 44, 3) := by decide +kernel
theorem dX8_goesWith_15 : decode cX8_goesWith 15 = .ok (.iload 5, 2) := by decide +kernel
theorem dX8_goesWith_17 : decode cX8_goesWith 17 = .ok (.iload 4, 2) := by decide +kernel
theorem dX8_goesWith_19 : decode cX8_goesWith 19 = .ok (.if_icmp .eq 31, 3) := by decide +kernel
theorem dX8_goesWith_22 : decode cX8_goesWith 22 = .ok (.aload_n 0, 1) := by decide +kernel
theorem dX8_goesWith_23 : decode cX8_goesWith 23 = .ok (.getfield 32, 3) := by decide +kernel
theorem dX8_goesWith_26 : decode cX8_goesWith 26 = .ok (.iload_n 1, 1) := by decide +kernel
theorem dX8_goesWith_27 : decode cX8_goesWith 27 = .ok (.iaload, 1) := by decide +kernel
theorem dX8_goesWith_28 : decode cX8_goesWith 28 = .ok (.iload 5, 2) := by decide +kernel
theorem dX8_goesWith_30 : decode cX8_goesWith 30 = .ok (.invokestatic 115, 3) := by decide +kernel
theorem dX8_goesWith_33 : decode cX8_goesWith 33 = .ok (.ifCond .eq 17, 3) := by decide +kernel
theorem dX8_goesWith_36 : decode cX8_goesWith 36 = .ok (.aload_n 0, 1) := by decide +kernel
theorem dX8_goesWith_37 : decode cX8_goesWith 37 = .ok (.iload 5, 2) := by decide +kernel
theorem dX8_goesWith_39 : decode cX8_goesWith 39 = .ok (.iload_n 1, 1) := by decide +kernel
theorem dX8_goesWith_40 : decode cX8_goesWith 40 = .ok (.iload_n 2, 1) := by decide +kernel
theorem dX8_goesWith_41 : decode cX8_goesWith 41 = .ok (.invokevirtual 119, 3) := by decide +kernel
theorem dX8_goesWith_44 : decode cX8_goesWith 44 = .ok (.iload_n 3, 1) := by decide +kernel
theorem dX8_goesWith_45 : decode cX8_goesWith 45 = .ok (.if_icmp .ne 5, 3) := by decide +kernel
theorem dX8_goesWith_48 : decode cX8_goesWith 48 = .ok (.iconst 1, 1) := by decide +kernel
theorem dX8_goesWith_49 : decode cX8_goesWith 49 = .ok (.ireturn, 1) := by decide +kernel
theorem dX8_goesWith_50 : decode cX8_goesWith 50 = .ok (.iinc 5 1, 3) := by decide +kernel
theorem dX8_goesWith_53 : decode cX8_goesWith 53 = .ok (.goto (-50), 3) := by decide +kernel
theorem dX8_goesWith_56 : decode cX8_goesWith 56 = .ok (.iconst 0, 1) := by decide +kernel
theorem dX8_goesWith_57 : decode cX8_goesWith 57 = .ok (.ireturn, 1) := by decide +kernel
theorem dX8_stays_0 : decode cX8_stays 0 = .ok (.iconst 0, 1) := by decide +kernel
theorem dX8_stays_1 : decode cX8_stays 1 = .ok (.istore_n 3, 1) := by decide +kernel
theorem dX8_stays_2 : decode cX8_stays 2 = .ok (.iload_n 3, 1) := by decide +kernel
theorem dX8_stays_3 : decode cX8_stays 3 = .ok (.aload_n 0, 1) := by decide +kernel
theorem dX8_stays_4 : decode cX8_stays 4 = .ok (.getfield 45, 3) := by decide +kernel
theorem dX8_stays_7 : decode cX8_stays 7 = .ok (.if_icmp .ge 44, 3) := by decide +kernel
theorem dX8_stays_10 : decode cX8_stays 10 = .ok (.aload_n 0, 1) := by decide +kernel
theorem dX8_stays_11 : decode cX8_stays 11 = .ok (.iload_n 2, 1) := by decide +kernel
theorem dX8_stays_12 : decode cX8_stays 12 = .ok (.iload_n 3, 1) := by decide +kernel
theorem dX8_stays_13 : decode cX8_stays 13 = .ok (.invokevirtual 59, 3) := by decide +kernel
theorem dX8_stays_16 : decode cX8_stays 16 = .ok (.istore 4, 2) := by decide +kernel
theorem dX8_stays_18 : decode cX8_stays 18 = .ok (.iload 4, 2) := by decide +kernel
theorem dX8_stays_20 : decode cX8_stays 20 = .ok (.iconst (-1), 1) := by decide +kernel
theorem dX8_stays_21 : decode cX8_stays 21 = .ok (.if_icmp .eq 24, 3) := by decide +kernel
theorem dX8_stays_24 : decode cX8_stays 24 = .ok (.aload_n 0, 1) := by decide +kernel
theorem dX8_stays_25 : decode cX8_stays 25 = .ok (.iload_n 3, 1) := by decide +kernel
theorem dX8_stays_26 : decode cX8_stays 26 = .ok (.iload 4, 2) := by decide +kernel
theorem dX8_stays_28 : decode cX8_stays 28 = .ok (.aload_n 0, 1) := by decide +kernel
theorem dX8_stays_29 : decode cX8_stays 29 = .ok (.iload_n 1, 1) := by decide +kernel
theorem dX8_stays_30 : decode cX8_stays 30 = .ok (.iload_n 2, 1) := by decide +kernel
theorem dX8_stays_31 : decode cX8_stays 31 = .ok (.iload 4, 2) := by decide +kernel
theorem dX8_stays_33 : decode cX8_stays 33 = .ok (.invokevirtual 119, 3) := by decide +kernel
theorem dX8_stays_36 : decode cX8_stays 36 = .ok (.iload_n 1, 1) := by decide +kernel
theorem dX8_stays_37 : decode cX8_stays 37 = .ok (.invokevirtual 123, 3) := by decide +kernel
theorem dX8_stays_40 : decode cX8_stays 40 = .ok (.ifCond .ne 5, 3) := by decide +kernel
theorem dX8_stays_43 : decode cX8_stays 43 = .ok (.iconst 0, 1) := by decide +kernel
theorem dX8_stays_44 : decode cX8_stays 44 = .ok (.ireturn, 1) := by decide +kernel
theorem dX8_stays_45 : decode cX8_stays 45 = .ok (.iinc 3 1, 3) := by decide +kernel
theorem dX8_stays_48 : decode cX8_stays 48 = .ok (.goto (-46), 3) := by decide +kernel
theorem dX8_stays_51 : decode cX8_stays 51 = .ok (.iconst 1, 1) := by decide +kernel
theorem dX8_stays_52 : decode cX8_stays 52 = .ok (.ireturn, 1) := by decide +kernel
theorem dX8_layLeft_0 : decode cX8_layLeft 0 = .ok (.aload_n 0, 1) := by decide +kernel
theorem dX8_layLeft_1 : decode cX8_layLeft 1 = .ok (.invokevirtual 62, 3) := by decide +kernel
theorem dX8_layLeft_4 : decode cX8_layLeft 4 = .ok (.iconst 0, 1) := by decide +kernel
theorem dX8_layLeft_5 : decode cX8_layLeft 5 = .ok (.istore_n 1, 1) := by decide +kernel
theorem dX8_layLeft_6 : decode cX8_layLeft 6 = .ok (.iload_n 1, 1) := by decide +kernel
theorem dX8_layLeft_7 : decode cX8_layLeft 7 = .ok (.aload_n 0, 1) := by decide +kernel
theorem dX8_layLeft_8 : decode cX8_layLeft 8 = .ok (.getfield 45, 3) := by decide +kernel
theorem dX8_layLeft_11 : decode cX8_layLeft 11 = .ok (.if_icmp .ge 60, 3) := by decide +kernel
theorem dX8_layLeft_14 : decode cX8_layLeft 14 = .ok (.aload_n 0, 1) := by decide +kernel
theorem dX8_layLeft_15 : decode cX8_layLeft 15 = .ok (.getfield 32, 3) := by decide +kernel
theorem dX8_layLeft_18 : decode cX8_layLeft 18 = .ok (.iload_n 1, 1) := by decide +kernel
theorem dX8_layLeft_19 : decode cX8_layLeft 19 = .ok (.iconst 0, 1) := by decide +kernel
theorem dX8_layLeft_20 : decode cX8_layLeft 20 = .ok (.iastore, 1) := by decide +kernel
theorem dX8_layLeft_21 : decode cX8_layLeft 21 = .ok (.iconst 0, 1) := by decide +kernel
theorem dX8_layLeft_22 : decode cX8_layLeft 22 = .ok (.istore_n 2, 1) := by decide +kernel
theorem dX8_layLeft_23 : decode cX8_layLeft 23 = .ok (.iload_n 2, 1) := by decide +kernel
theorem dX8_layLeft_24 : decode cX8_layLeft 24 = .ok (.aload_n 0, 1) := by decide +kernel
theorem dX8_layLeft_25 : decode cX8_layLeft 25 = .ok (.getfield 7, 3) := by decide +kernel
theorem dX8_layLeft_28 : decode cX8_layLeft 28 = .ok (.bipush 16, 2) := by decide +kernel
theorem dX8_layLeft_30 : decode cX8_layLeft 30 = .ok (.iaload, 1) := by decide +kernel
theorem dX8_layLeft_31 : decode cX8_layLeft 31 = .ok (.if_icmp .ge 34, 3) := by decide +kernel
theorem dX8_layLeft_34 : decode cX8_layLeft 34 = .ok (.aload_n 0, 1) := by decide +kernel
theorem dX8_layLeft_35 : decode cX8_layLeft 35 = .ok (.getfield 32, 3) := by decide +kernel
theorem dX8_layLeft_38 : decode cX8_layLeft 38 = .ok (.iload_n 1, 1) := by decide +kernel
theorem dX8_layLeft_39 : decode cX8_layLeft 39 = .ok (.dup2, 1) := by decide +kernel
theorem dX8_layLeft_40 : decode cX8_layLeft 40 = .ok (.iaload, 1) := by decide +kernel
theorem dX8_layLeft_41 : decode cX8_layLeft 41 = .ok (.aload_n 0, 1) := by decide +kernel
theorem dX8_layLeft_42 : decode cX8_layLeft 42 = .ok (.iload_n 2, 1) := by decide +kernel
theorem dX8_layLeft_43 : decode cX8_layLeft 43 = .ok (.iload_n 1, 1) := by decide +kernel
theorem dX8_layLeft_44 : decode cX8_layLeft 44 = .ok (.invokevirtual 127, 3) := by decide +kernel
theorem dX8_layLeft_47 : decode cX8_layLeft 47 = .ok (.ifCond .eq 9, 3) := by decide +kernel
theorem dX8_layLeft_50 : decode cX8_layLeft 50 = .ok (.iconst 1, 1) := by decide +kernel
theorem dX8_layLeft_51 : decode cX8_layLeft 51 = .ok (.iload_n 2, 1) := by decide +kernel
theorem dX8_layLeft_52 : decode cX8_layLeft 52 = .ok (.ishl, 1) := by decide +kernel
theorem dX8_layLeft_53 : decode cX8_layLeft 53 = .ok (.goto 4, 3) := by decide +kernel
theorem dX8_layLeft_56 : decode cX8_layLeft 56 = .ok (.iconst 0, 1) := by decide +kernel
theorem dX8_layLeft_57 : decode cX8_layLeft 57 = .ok (.ior, 1) := by decide +kernel
theorem dX8_layLeft_58 : decode cX8_layLeft 58 = .ok (.iastore, 1) := by decide +kernel
theorem dX8_layLeft_59 : decode cX8_layLeft 59 = .ok (.iinc 2 1, 3) := by decide +kernel
theorem dX8_layLeft_62 : decode cX8_layLeft 62 = .ok (.goto (-39), 3) := by decide +kernel
theorem dX8_layLeft_65 : decode cX8_layLeft 65 = .ok (.iinc 1 1, 3) := by decide +kernel
theorem dX8_layLeft_68 : decode cX8_layLeft 68 = .ok (.goto (-62), 3) := by decide +kernel
theorem dX8_layLeft_71 : decode cX8_layLeft 71 = .ok (.iconst 1, 1) := by decide +kernel
theorem dX8_layLeft_72 : decode cX8_layLeft 72 = .ok (.istore_n 1, 1) := by decide +kernel
theorem dX8_layLeft_73 : decode cX8_layLeft 73 = .ok (.iload_n 1, 1) := by decide +kernel
theorem dX8_layLeft_74 : decode cX8_layLeft 74 = .ok (.ifCond .eq 81, 3) := by decide +kernel
theorem dX8_layLeft_77 : decode cX8_layLeft 77 = .ok (.iconst 0, 1) := by decide +kernel
theorem dX8_layLeft_78 : decode cX8_layLeft 78 = .ok (.istore_n 1, 1) := by decide +kernel
theorem dX8_layLeft_79 : decode cX8_layLeft 79 = .ok (.iconst 0, 1) := by decide +kernel
theorem dX8_layLeft_80 : decode cX8_layLeft 80 = .ok (.istore_n 2, 1) := by decide +kernel
theorem dX8_layLeft_81 : decode cX8_layLeft 81 = .ok (.iload_n 2, 1) := by decide +kernel
theorem dX8_layLeft_82 : decode cX8_layLeft 82 = .ok (.aload_n 0, 1) := by decide +kernel
theorem dX8_layLeft_83 : decode cX8_layLeft 83 = .ok (.getfield 45, 3) := by decide +kernel
theorem dX8_layLeft_86 : decode cX8_layLeft 86 = .ok (.if_icmp .ge 66, 3) := by decide +kernel
theorem dX8_layLeft_89 : decode cX8_layLeft 89 = .ok (.iconst 0, 1) := by decide +kernel
theorem dX8_layLeft_90 : decode cX8_layLeft 90 = .ok (.istore_n 3, 1) := by decide +kernel
theorem dX8_layLeft_91 : decode cX8_layLeft 91 = .ok (.iload_n 3, 1) := by decide +kernel
theorem dX8_layLeft_92 : decode cX8_layLeft 92 = .ok (.aload_n 0, 1) := by decide +kernel
theorem dX8_layLeft_93 : decode cX8_layLeft 93 = .ok (.getfield 7, 3) := by decide +kernel
theorem dX8_layLeft_96 : decode cX8_layLeft 96 = .ok (.bipush 16, 2) := by decide +kernel
theorem dX8_layLeft_98 : decode cX8_layLeft 98 = .ok (.iaload, 1) := by decide +kernel
theorem dX8_layLeft_99 : decode cX8_layLeft 99 = .ok (.if_icmp .ge 47, 3) := by decide +kernel
theorem dX8_layLeft_102 : decode cX8_layLeft 102 = .ok (.aload_n 0, 1) := by decide +kernel
theorem dX8_layLeft_103 : decode cX8_layLeft 103 = .ok (.getfield 32, 3) := by decide +kernel
theorem dX8_layLeft_106 : decode cX8_layLeft 106 = .ok (.iload_n 2, 1) := by decide +kernel
theorem dX8_layLeft_107 : decode cX8_layLeft 107 = .ok (.iaload, 1) := by decide +kernel
theorem dX8_layLeft_108 : decode cX8_layLeft 108 = .ok (.iload_n 3, 1) := by decide +kernel
theorem dX8_layLeft_109 : decode cX8_layLeft 109 = .ok (.invokestatic 115, 3) := by decide +kernel
theorem dX8_layLeft_112 : decode cX8_layLeft 112 = .ok (.ifCond .eq 28, 3) := by decide +kernel
theorem dX8_layLeft_115 : decode cX8_layLeft 115 = .ok (.aload_n 0, 1) := by decide +kernel
theorem dX8_layLeft_116 : decode cX8_layLeft 116 = .ok (.iload_n 3, 1) := by decide +kernel
theorem dX8_layLeft_117 : decode cX8_layLeft 117 = .ok (.iload_n 2, 1) := by decide +kernel
theorem dX8_layLeft_118 : decode cX8_layLeft 118 = .ok (.invokevirtual 130, 3) := by decide +kernel
theorem dX8_layLeft_121 : decode cX8_layLeft 121 = .ok (.ifCond .ne 19, 3) := by decide +kernel
theorem dX8_layLeft_124 : decode cX8_layLeft 124 = .ok (.aload_n 0, 1) := by decide +kernel
theorem dX8_layLeft_125 : decode cX8_layLeft 125 = .ok (.getfield 32, 3) := by decide +kernel
theorem dX8_layLeft_128 : decode cX8_layLeft 128 = .ok (.iload_n 2, 1) := by decide +kernel
theorem dX8_layLeft_129 : decode cX8_layLeft 129 = .ok (.dup2, 1) := by decide +kernel
theorem dX8_layLeft_130 : decode cX8_layLeft 130 = .ok (.iaload, 1) := by decide +kernel
theorem dX8_layLeft_131 : decode cX8_layLeft 131 = .ok (.iconst 1, 1) := by decide +kernel
theorem dX8_layLeft_132 : decode cX8_layLeft 132 = .ok (.iload_n 3, 1) := by decide +kernel
theorem dX8_layLeft_133 : decode cX8_layLeft 133 = .ok (.ishl, 1) := by decide +kernel
theorem dX8_layLeft_134 : decode cX8_layLeft 134 = .ok (.iconst (-1), 1) := by decide +kernel
theorem dX8_layLeft_135 : decode cX8_layLeft 135 = .ok (.ixor, 1) := by decide +kernel
theorem dX8_layLeft_136 : decode cX8_layLeft 136 = .ok (.iand, 1) := by decide +kernel
theorem dX8_layLeft_137 : decode cX8_layLeft 137 = .ok (.iastore, 1) := by decide +kernel
theorem dX8_layLeft_138 : decode cX8_layLeft 138 = .ok (.iconst 1, 1) := by decide +kernel
theorem dX8_layLeft_139 : decode cX8_layLeft 139 = .ok (.istore_n 1, 1) := by decide +kernel
theorem dX8_layLeft_140 : decode cX8_layLeft 140 = .ok (.iinc 3 1, 3) := by decide +kernel
theorem dX8_layLeft_143 : decode cX8_layLeft 143 = .ok (.goto (-52), 3) := by decide +kernel
theorem dX8_layLeft_146 : decode cX8_layLeft 146 = .ok (.iinc 2 1, 3) := by decide +kernel
theorem dX8_layLeft_149 : decode cX8_layLeft 149 = .ok (.goto (-68), 3) := by decide +kernel
theorem dX8_layLeft_152 : decode cX8_layLeft 152 = .ok (.goto (-79), 3) := by decide +kernel
theorem dX8_layLeft_155 : decode cX8_layLeft 155 = .ok (.return_, 1) := by decide +kernel
theorem dX8_canBe_0 : decode cX8_canBe 0 = .ok (.aload_n 0, 1) := by decide +kernel
theorem dX8_canBe_1 : decode cX8_canBe 1 = .ok (.getfield 7, 3) := by decide +kernel
theorem dX8_canBe_4 : decode cX8_canBe 4 = .ok (.iload_n 1, 1) := by decide +kernel
theorem dX8_canBe_5 : decode cX8_canBe 5 = .ok (.iaload, 1) := by decide +kernel
theorem dX8_canBe_6 : decode cX8_canBe 6 = .ok (.iconst (-1), 1) := by decide +kernel
theorem dX8_canBe_7 : decode cX8_canBe 7 = .ok (.if_icmp .ne 5, 3) := by decide +kernel
theorem dX8_canBe_10 : decode cX8_canBe 10 = .ok (.iconst 0, 1) := by decide +kernel
theorem dX8_canBe_11 : decode cX8_canBe 11 = .ok (.ireturn, 1) := by decide +kernel
theorem dX8_canBe_12 : decode cX8_canBe 12 = .ok (.aload_n 0, 1) := by decide +kernel
theorem dX8_canBe_13 : decode cX8_canBe 13 = .ok (.invokevirtual 133, 3) := by decide +kernel
theorem dX8_canBe_16 : decode cX8_canBe 16 = .ok (.bipush 63, 2) := by decide +kernel
theorem dX8_canBe_18 : decode cX8_canBe 18 = .ok (.istore_n 2, 1) := by decide +kernel
theorem dX8_canBe_19 : decode cX8_canBe 19 = .ok (.iconst 1, 1) := by decide +kernel
theorem dX8_canBe_20 : decode cX8_canBe 20 = .ok (.istore_n 3, 1) := by decide +kernel
theorem dX8_canBe_21 : decode cX8_canBe 21 = .ok (.iconst 0, 1) := by decide +kernel
theorem dX8_canBe_22 : decode cX8_canBe 22 = .ok (.istore 4, 2) := by decide +kernel
theorem dX8_canBe_24 : decode cX8_canBe 24 = .ok (.iload 4, 2) := by decide +kernel
theorem dX8_canBe_26 : decode cX8_canBe 26 = .ok (.aload_n 0, 1) := by decide +kernel
theorem dX8_canBe_27 : decode cX8_canBe 27 = .ok (.getfield 45, 3) := by decide +kernel
theorem dX8_canBe_30 : decode cX8_canBe 30 = .ok (.if_icmp .ge 88, 3) := by decide +kernel
theorem dX8_canBe_33 : decode cX8_canBe 33 = .ok (.aload_n 0, 1) := by decide +kernel
theorem dX8_canBe_34 : decode cX8_canBe 34 = .ok (.iload 4, 2) := by decide +kernel
theorem dX8_canBe_36 : decode cX8_canBe 36 = .ok (.iload_n 1, 1) := by decide +kernel
theorem dX8_canBe_37 : decode cX8_canBe 37 = .ok (.invokevirtual 56, 3) := by decide +kernel
theorem dX8_canBe_40 : decode cX8_canBe 40 = .ok (.iconst (-1), 1) := by decide +kernel
theorem dX8_canBe_41 : decode cX8_canBe 41 = .ok (.if_icmp .eq 71, 3) := by decide +kernel
theorem dX8_canBe_44 : decode cX8_canBe 44 = .ok (.iconst 0, 1) := by decide +kernel
theorem dX8_canBe_45 : decode cX8_canBe 45 = .ok (.istore 5, 2) := by decide +kernel
theorem dX8_canBe_47 : decode cX8_canBe 47 = .ok (.iconst 0, 1) := by decide +kernel
theorem dX8_canBe_48 : decode cX8_canBe 48 = .ok (.istore 6, 2) := by decide +kernel
theorem dX8_canBe_50 : decode cX8_canBe 50 = .ok (.iload 6, 2) := by decide +kernel
theorem dX8_canBe_52 : decode cX8_canBe 52 = .ok (.aload_n 0, 1) := by decide +kernel
theorem dX8_canBe_53 : decode cX8_canBe 53 = .ok (.getfield 7, 3) := by decide +kernel
theorem dX8_canBe_56 : decode cX8_canBe 56 = .ok (.bipush 16, 2) := by decide +kernel
theorem dX8_canBe_58 : decode cX8_canBe 58 = .ok (.iaload, 1) := by decide +kernel
theorem dX8_canBe_59 : decode cX8_canBe 59 = .ok (.if_icmp .ge 46, 3) := by decide +kernel
theorem dX8_canBe_62 : decode cX8_canBe 62 = .ok (.iload 5, 2) := by decide +kernel
theorem dX8_canBe_64 : decode cX8_canBe 64 = .ok (.aload_n 0, 1) := by decide +kernel
theorem dX8_canBe_65 : decode cX8_canBe 65 = .ok (.getfield 32, 3) := by decide +kernel
theorem dX8_canBe_68 : decode cX8_canBe 68 = .ok (.iload 4, 2) := by decide +kernel
theorem dX8_canBe_70 : decode cX8_canBe 70 = .ok (.iaload, 1) := by decide +kernel
theorem dX8_canBe_71 : decode cX8_canBe 71 = .ok (.iload 6, 2) := by decide +kernel
theorem dX8_canBe_73 : decode cX8_canBe 73 = .ok (.invokestatic 115, 3) := by decide +kernel
theorem dX8_canBe_76 : decode cX8_canBe 76 = .ok (.ifCond .eq 19, 3) := by decide +kernel
theorem dX8_canBe_79 : decode cX8_canBe 79 = .ok (.iconst 1, 1) := by decide +kernel
theorem dX8_canBe_80 : decode cX8_canBe 80 = .ok (.aload_n 0, 1) := by decide +kernel
theorem dX8_canBe_81 : decode cX8_canBe 81 = .ok (.iload 6, 2) := by decide +kernel
theorem dX8_canBe_83 : decode cX8_canBe 83 = .ok (.iload 4, 2) := by decide +kernel
theorem dX8_canBe_85 : decode cX8_canBe 85 = .ok (.iload_n 1, 1) := by decide +kernel
theorem dX8_canBe_86 : decode cX8_canBe 86 = .ok (.invokevirtual 119, 3) := by decide +kernel
theorem dX8_canBe_89 : decode cX8_canBe 89 = .ok (.iconst 1, 1) := by decide +kernel
theorem dX8_canBe_90 : decode cX8_canBe 90 = .ok (.isub, 1) := by decide +kernel
theorem dX8_canBe_91 : decode cX8_canBe 91 = .ok (.ishl, 1) := by decide +kernel
theorem dX8_canBe_92 : decode cX8_canBe 92 = .ok (.goto 4, 3) := by decide +kernel
theorem dX8_canBe_95 : decode cX8_canBe 95 = .ok (.iconst 0, 1) := by decide +kernel
theorem dX8_canBe_96 : decode cX8_canBe 96 = .ok (.ior, 1) := by decide +kernel
theorem dX8_canBe_97 : decode cX8_canBe 97 = .ok (.istore 5, 2) := by decide +kernel
theorem dX8_canBe_99 : decode cX8_canBe 99 = .ok (.iinc 6 1, 3) := by decide +kernel
theorem dX8_canBe_102 : decode cX8_canBe 102 = .ok (.goto (-52), 3) := by decide +kernel
theorem dX8_canBe_105 : decode cX8_canBe 105 = .ok (.iload_n 2, 1) := by decide +kernel
theorem dX8_canBe_106 : decode cX8_canBe 106 = .ok (.iload 5, 2) := by decide +kernel
theorem dX8_canBe_108 : decode cX8_canBe 108 = .ok (.iand, 1) := by decide +kernel
theorem dX8_canBe_109 : decode cX8_canBe 109 = .ok (.istore_n 2, 1) := by decide +kernel
theorem dX8_canBe_110 : decode cX8_canBe 110 = .ok (.iconst 0, 1) := by decide +kernel
theorem dX8_canBe_111 : decode cX8_canBe 111 = .ok (.istore_n 3, 1) := by decide +kernel
theorem dX8_canBe_112 : decode cX8_canBe 112 = .ok (.iinc 4 1, 3) := by decide +kernel
theorem dX8_canBe_115 : decode cX8_canBe 115 = .ok (.goto (-91), 3) := by decide +kernel
theorem dX8_canBe_118 : decode cX8_canBe 118 = .ok (.iload_n 3, 1) := by decide +kernel
theorem dX8_canBe_119 : decode cX8_canBe 119 = .ok (.ifCond .eq 25, 3) := by decide +kernel
theorem dX8_canBe_122 : decode cX8_canBe 122 = .ok (.aload_n 0, 1) := by decide +kernel
theorem dX8_canBe_123 : decode cX8_canBe 123 = .ok (.getfield 7, 3) := by decide +kernel
theorem dX8_canBe_126 : decode cX8_canBe 126 = .ok (.iload_n 1, 1) := by decide +kernel
theorem dX8_canBe_127 : decode cX8_canBe 127 = .ok (.iaload, 1) := by decide +kernel
theorem dX8_canBe_128 : decode cX8_canBe 128 = .ok (.ifCond .le 16, 3) := by decide +kernel
theorem dX8_canBe_131 : decode cX8_canBe 131 = .ok (.iconst 1, 1) := by decide +kernel
theorem dX8_canBe_132 : decode cX8_canBe 132 = .ok (.aload_n 0, 1) := by decide +kernel
theorem dX8_canBe_133 : decode cX8_canBe 133 = .ok (.getfield 7, 3) := by decide +kernel
theorem dX8_canBe_136 : decode cX8_canBe 136 = .ok (.iload_n 1, 1) := by decide +kernel
theorem dX8_canBe_137 : decode cX8_canBe 137 = .ok (.iaload, 1) := by decide +kernel
theorem dX8_canBe_138 : decode cX8_canBe 138 = .ok (.iconst 1, 1) := by decide +kernel
theorem dX8_canBe_139 : decode cX8_canBe 139 = .ok (.isub, 1) := by decide +kernel
theorem dX8_canBe_140 : decode cX8_canBe 140 = .ok (.ishl, 1) := by decide +kernel
theorem dX8_canBe_141 : decode cX8_canBe 141 = .ok (.goto 4, 3) := by decide +kernel
theorem dX8_canBe_144 : decode cX8_canBe 144 = .ok (.iload_n 2, 1) := by decide +kernel
theorem dX8_canBe_145 : decode cX8_canBe 145 = .ok (.ireturn, 1) := by decide +kernel
theorem dX8_hardest_0 : decode cX8_hardest 0 = .ok (.aload_n 0, 1) := by decide +kernel
theorem dX8_hardest_1 : decode cX8_hardest 1 = .ok (.invokevirtual 133, 3) := by decide +kernel
theorem dX8_hardest_4 : decode cX8_hardest 4 = .ok (.iconst (-1), 1) := by decide +kernel
theorem dX8_hardest_5 : decode cX8_hardest 5 = .ok (.istore_n 1, 1) := by decide +kernel
theorem dX8_hardest_6 : decode cX8_hardest 6 = .ok (.iconst 0, 1) := by decide +kernel
theorem dX8_hardest_7 : decode cX8_hardest 7 = .ok (.istore_n 2, 1) := by decide +kernel
theorem dX8_hardest_8 : decode cX8_hardest 8 = .ok (.iload_n 2, 1) := by decide +kernel
theorem dX8_hardest_9 : decode cX8_hardest 9 = .ok (.aload_n 0, 1) := by decide +kernel
theorem dX8_hardest_10 : decode cX8_hardest 10 = .ok (.getfield 45, 3) := by decide +kernel
theorem dX8_hardest_13 : decode cX8_hardest 13 = .ok (.if_icmp .ge 82, 3) := by decide +kernel
theorem dX8_hardest_16 : decode cX8_hardest 16 = .ok (.aload_n 0, 1) := by decide +kernel
theorem dX8_hardest_17 : decode cX8_hardest 17 = .ok (.iload_n 2, 1) := by decide +kernel
theorem dX8_hardest_18 : decode cX8_hardest 18 = .ok (.invokevirtual 136, 3) := by decide +kernel
theorem dX8_hardest_21 : decode cX8_hardest 21 = .ok (.ifCond .ne 68, 3) := by decide +kernel
theorem dX8_hardest_24 : decode cX8_hardest 24 = .ok (.iload_n 1, 1) := by decide +kernel
theorem dX8_hardest_25 : decode cX8_hardest 25 = .ok (.iconst (-1), 1) := by decide +kernel
theorem dX8_hardest_26 : decode cX8_hardest 26 = .ok (.if_icmp .ne 7, 3) := by decide +kernel
theorem dX8_hardest_29 : decode cX8_hardest 29 = .ok (.iconst (-1), 1) := by decide +kernel
theorem dX8_hardest_30 : decode cX8_hardest 30 = .ok (.goto 22, 3) := by decide +kernel
theorem dX8_hardest_33 : decode cX8_hardest 33 = .ok (.aload_n 0, 1) := by decide +kernel
theorem dX8_hardest_34 : decode cX8_hardest 34 = .ok (.getfield 32, 3) := by decide +kernel
theorem dX8_hardest_37 : decode cX8_hardest 37 = .ok (.iload_n 2, 1) := by decide +kernel
theorem dX8_hardest_38 : decode cX8_hardest 38 = .ok (.iaload, 1) := by decide +kernel
theorem dX8_hardest_39 : decode cX8_hardest 39 = .ok (.invokestatic 139, 3) := by decide +kernel
theorem dX8_hardest_42 : decode cX8_hardest 42 = .ok (.aload_n 0, 1) := by decide +kernel
theorem dX8_hardest_43 : decode cX8_hardest 43 = .ok (.getfield 32, 3) := by decide +kernel
theorem dX8_hardest_46 : decode cX8_hardest 46 = .ok (.iload_n 1, 1) := by decide +kernel
theorem dX8_hardest_47 : decode cX8_hardest 47 = .ok (.iaload, 1) := by decide +kernel
theorem dX8_hardest_48 : decode cX8_hardest 48 = .ok (.invokestatic 139, 3) := by decide +kernel
theorem dX8_hardest_51 : decode cX8_hardest 51 = .ok (.isub, 1) := by decide +kernel
theorem dX8_hardest_52 : decode cX8_hardest 52 = .ok (.istore_n 3, 1) := by decide +kernel
theorem dX8_hardest_53 : decode cX8_hardest 53 = .ok (.iload_n 3, 1) := by decide +kernel
theorem dX8_hardest_54 : decode cX8_hardest 54 = .ok (.ifCond .ne 23, 3) := by decide +kernel
theorem dX8_hardest_57 : decode cX8_hardest 57 = .ok (.aload_n 0, 1) := by decide +kernel
theorem dX8_hardest_58 : decode cX8_hardest 58 = .ok (.iload_n 1, 1) := by decide +kernel
theorem dX8_hardest_59 : decode cX8_hardest 59 = .ok (.invokevirtual 142, 3) := by decide +kernel
theorem dX8_hardest_62 : decode cX8_hardest 62 = .ok (.invokestatic 139, 3) := by decide +kernel
theorem dX8_hardest_65 : decode cX8_hardest 65 = .ok (.aload_n 0, 1) := by decide +kernel
theorem dX8_hardest_66 : decode cX8_hardest 66 = .ok (.iload_n 2, 1) := by decide +kernel
theorem dX8_hardest_67 : decode cX8_hardest 67 = .ok (.invokevirtual 142, 3) := by decide +kernel
theorem dX8_hardest_70 : decode cX8_hardest 70 = .ok (.invokestatic 139, 3) := by decide +kernel
theorem dX8_hardest_73 : decode cX8_hardest 73 = .ok (.isub, 1) := by decide +kernel
theorem dX8_hardest_74 : decode cX8_hardest 74 = .ok (.goto 4, 3) := by decide +kernel
theorem dX8_hardest_77 : decode cX8_hardest 77 = .ok (.iload_n 3, 1) := by decide +kernel
theorem dX8_hardest_78 : decode cX8_hardest 78 = .ok (.istore_n 3, 1) := by decide +kernel
theorem dX8_hardest_79 : decode cX8_hardest 79 = .ok (.iload_n 3, 1) := by decide +kernel
theorem dX8_hardest_80 : decode cX8_hardest 80 = .ok (.ifCond .ge 7, 3) := by decide +kernel
theorem dX8_hardest_83 : decode cX8_hardest 83 = .ok (.iload_n 2, 1) := by decide +kernel
theorem dX8_hardest_84 : decode cX8_hardest 84 = .ok (.goto 4, 3) := by decide +kernel
theorem dX8_hardest_87 : decode cX8_hardest 87 = .ok (.iload_n 1, 1) := by decide +kernel
theorem dX8_hardest_88 : decode cX8_hardest 88 = .ok (.istore_n 1, 1) := by decide +kernel
theorem dX8_hardest_89 : decode cX8_hardest 89 = .ok (.iinc 2 1, 3) := by decide +kernel
theorem dX8_hardest_92 : decode cX8_hardest 92 = .ok (.goto (-84), 3) := by decide +kernel
theorem dX8_hardest_95 : decode cX8_hardest 95 = .ok (.iload_n 1, 1) := by decide +kernel
theorem dX8_hardest_96 : decode cX8_hardest 96 = .ok (.ireturn, 1) := by decide +kernel
theorem dX8_goes_0 : decode cX8_goes 0 = .ok (.aload_n 0, 1) := by decide +kernel
theorem dX8_goes_1 : decode cX8_goes 1 = .ok (.iload_n 2, 1) := by decide +kernel
theorem dX8_goes_2 : decode cX8_goes 2 = .ok (.iload_n 1, 1) := by decide +kernel
theorem dX8_goes_3 : decode cX8_goes 3 = .ok (.invokevirtual 127, 3) := by decide +kernel
theorem dX8_goes_6 : decode cX8_goes 6 = .ok (.ifCond .ne 5, 3) := by decide +kernel
theorem dX8_goes_9 : decode cX8_goes 9 = .ok (.iconst 0, 1) := by decide +kernel
theorem dX8_goes_10 : decode cX8_goes 10 = .ok (.ireturn, 1) := by decide +kernel
theorem dX8_goes_11 : decode cX8_goes 11 = .ok (.iconst 0, 1) := by decide +kernel
theorem dX8_goes_12 : decode cX8_goes 12 = .ok (.istore 4, 2) := by decide +kernel
theorem dX8_goes_14 : decode cX8_goes 14 = .ok (.iload 4, 2) := by decide +kernel
theorem dX8_goes_16 : decode cX8_goes 16 = .ok (.iload_n 1, 1) := by decide +kernel
theorem dX8_goes_17 : decode cX8_goes 17 = .ok (.if_icmp .ge 72, 3) := by decide +kernel
theorem dX8_goes_20 : decode cX8_goes 20 = .ok (.iload_n 3, 1) := by decide +kernel
theorem dX8_goes_21 : decode cX8_goes 21 = .ok (.iload 4, 2) := by decide +kernel
theorem dX8_goes_23 : decode cX8_goes 23 = .ok (.invokestatic 115, 3) := by decide +kernel
theorem dX8_goes_26 : decode cX8_goes 26 = .ok (.ifCond .eq 57, 3) := by decide +kernel
theorem dX8_goes_29 : decode cX8_goes 29 = .ok (.aload_n 0, 1) := by decide +kernel
theorem dX8_goes_30 : decode cX8_goes 30 = .ok (.iload_n 1, 1) := by decide +kernel
theorem dX8_goes_31 : decode cX8_goes 31 = .ok (.iload 4, 2) := by decide +kernel
theorem dX8_goes_33 : decode cX8_goes 33 = .ok (.invokevirtual 59, 3) := by decide +kernel
theorem dX8_goes_36 : decode cX8_goes 36 = .ok (.istore 5, 2) := by decide +kernel
theorem dX8_goes_38 : decode cX8_goes 38 = .ok (.aload_n 0, 1) := by decide +kernel
theorem dX8_goes_39 : decode cX8_goes 39 = .ok (.getfield 35, 3) := by decide +kernel
theorem dX8_goes_42 : decode cX8_goes 42 = .ok (.iload 4, 2) := by decide +kernel
theorem dX8_goes_44 : decode cX8_goes 44 = .ok (.iaload, 1) := by decide +kernel
theorem dX8_goes_45 : decode cX8_goes 45 = .ok (.iload_n 2, 1) := by decide +kernel
theorem dX8_goes_46 : decode cX8_goes 46 = .ok (.if_icmp .eq 35, 3) := by decide +kernel
theorem dX8_goes_49 : decode cX8_goes 49 = .ok (.iload 5, 2) := by decide +kernel
theorem dX8_goes_51 : decode cX8_goes 51 = .ok (.iconst (-1), 1) := by decide +kernel
theorem dX8_goes_52 : decode cX8_goes 52 = .ok (.if_icmp .eq 31, 3) := by decide +kernel
theorem dX8_goes_55 : decode cX8_goes 55 = .ok (.aload_n 0, 1) := by decide +kernel
theorem dX8_goes_56 : decode cX8_goes 56 = .ok (.iload_n 2, 1) := by decide +kernel
theorem dX8_goes_57 : decode cX8_goes 57 = .ok (.iload_n 1, 1) := by decide +kernel
theorem dX8_goes_58 : decode cX8_goes 58 = .ok (.iload 5, 2) := by decide +kernel
theorem dX8_goes_60 : decode cX8_goes 60 = .ok (.invokevirtual 119, 3) := by decide +kernel
theorem dX8_goes_63 : decode cX8_goes 63 = .ok (.aload_n 0, 1) := by decide +kernel
theorem dX8_goes_64 : decode cX8_goes 64 = .ok (.aload_n 0, 1) := by decide +kernel
theorem dX8_goes_65 : decode cX8_goes 65 = .ok (.getfield 35, 3) := by decide +kernel
theorem dX8_goes_68 : decode cX8_goes 68 = .ok (.iload 4, 2) := by decide +kernel
theorem dX8_goes_70 : decode cX8_goes 70 = .ok (.iaload, 1) := by decide +kernel
theorem dX8_goes_71 : decode cX8_goes 71 = .ok (.iload 4, 2) := by decide +kernel
theorem dX8_goes_73 : decode cX8_goes 73 = .ok (.iload 5, 2) := by decide +kernel
theorem dX8_goes_75 : decode cX8_goes 75 = .ok (.invokevirtual 119, 3) := by decide +kernel
theorem dX8_goes_78 : decode cX8_goes 78 = .ok (.if_icmp .eq 5, 3) := by decide +kernel
theorem dX8_goes_81 : decode cX8_goes 81 = .ok (.iconst 0, 1) := by decide +kernel
theorem dX8_goes_82 : decode cX8_goes 82 = .ok (.ireturn, 1) := by decide +kernel
theorem dX8_goes_83 : decode cX8_goes 83 = .ok (.iinc 4 1, 3) := by decide +kernel
theorem dX8_goes_86 : decode cX8_goes 86 = .ok (.goto (-72), 3) := by decide +kernel
theorem dX8_goes_89 : decode cX8_goes 89 = .ok (.iconst 1, 1) := by decide +kernel
theorem dX8_goes_90 : decode cX8_goes 90 = .ok (.ireturn, 1) := by decide +kernel
theorem dX8_nextSlot_0 : decode cX8_nextSlot 0 = .ok (.iload_n 1, 1) := by decide +kernel
theorem dX8_nextSlot_1 : decode cX8_nextSlot 1 = .ok (.iload_n 3, 1) := by decide +kernel
theorem dX8_nextSlot_2 : decode cX8_nextSlot 2 = .ok (.iadd, 1) := by decide +kernel
theorem dX8_nextSlot_3 : decode cX8_nextSlot 3 = .ok (.istore 4, 2) := by decide +kernel
theorem dX8_nextSlot_5 : decode cX8_nextSlot 5 = .ok (.iload 4, 2) := by decide +kernel
theorem dX8_nextSlot_7 : decode cX8_nextSlot 7 = .ok (.ifCond .lt 30, 3) := by decide +kernel
theorem dX8_nextSlot_10 : decode cX8_nextSlot 10 = .ok (.iload 4, 2) := by decide +kernel
theorem dX8_nextSlot_12 : decode cX8_nextSlot 12 = .ok (.aload_n 0, 1) := by decide +kernel
theorem dX8_nextSlot_13 : decode cX8_nextSlot 13 = .ok (.getfield 45, 3) := by decide +kernel
theorem dX8_nextSlot_16 : decode cX8_nextSlot 16 = .ok (.if_icmp .ge 21, 3) := by decide +kernel
theorem dX8_nextSlot_19 : decode cX8_nextSlot 19 = .ok (.iload_n 2, 1) := by decide +kernel
theorem dX8_nextSlot_20 : decode cX8_nextSlot 20 = .ok (.iload 4, 2) := by decide +kernel
theorem dX8_nextSlot_22 : decode cX8_nextSlot 22 = .ok (.invokestatic 115, 3) := by decide +kernel
theorem dX8_nextSlot_25 : decode cX8_nextSlot 25 = .ok (.ifCond .ne 12, 3) := by decide +kernel
theorem dX8_nextSlot_28 : decode cX8_nextSlot 28 = .ok (.iload 4, 2) := by decide +kernel
theorem dX8_nextSlot_30 : decode cX8_nextSlot 30 = .ok (.iload_n 3, 1) := by decide +kernel
theorem dX8_nextSlot_31 : decode cX8_nextSlot 31 = .ok (.iadd, 1) := by decide +kernel
theorem dX8_nextSlot_32 : decode cX8_nextSlot 32 = .ok (.istore 4, 2) := by decide +kernel
theorem dX8_nextSlot_34 : decode cX8_nextSlot 34 = .ok (.goto (-29), 3) := by decide +kernel
theorem dX8_nextSlot_37 : decode cX8_nextSlot 37 = .ok (.iload 4, 2) := by decide +kernel
theorem dX8_nextSlot_39 : decode cX8_nextSlot 39 = .ok (.ireturn, 1) := by decide +kernel
theorem dX8_fillings_0 : decode cX8_fillings 0 = .ok (.iconst 0, 1) := by decide +kernel
theorem dX8_fillings_1 : decode cX8_fillings 1 = .ok (.istore 5, 2) := by decide +kernel
theorem dX8_fillings_3 : decode cX8_fillings 3 = .ok (.aload_n 0, 1) := by decide +kernel
theorem dX8_fillings_4 : decode cX8_fillings 4 = .ok (.iconst (-1), 1) := by decide +kernel
theorem dX8_fillings_5 : decode cX8_fillings 5 = .ok (.iload_n 1, 1) := by decide +kernel
theorem dX8_fillings_6 : decode cX8_fillings 6 = .ok (.iconst 1, 1) := by decide +kernel
theorem dX8_fillings_7 : decode cX8_fillings 7 = .ok (.invokevirtual 145, 3) := by decide +kernel
theorem dX8_fillings_10 : decode cX8_fillings 10 = .ok (.istore 6, 2) := by decide +kernel
theorem dX8_fillings_12 : decode cX8_fillings 12 = .ok (.iload 6, 2) := by decide +kernel
theorem dX8_fillings_14 : decode cX8_fillings 14 = .ok (.aload_n 0, 1) := by decide +kernel
theorem dX8_fillings_15 : decode cX8_fillings 15 = .ok (.getfield 45, 3) := by decide +kernel
theorem dX8_fillings_18 : decode cX8_fillings 18 = .ok (.if_icmp .lt 5, 3) := by decide +kernel
theorem dX8_fillings_21 : decode cX8_fillings 21 = .ok (.iconst 1, 1) := by decide +kernel
theorem dX8_fillings_22 : decode cX8_fillings 22 = .ok (.ireturn, 1) := by decide +kernel
theorem dX8_fillings_23 : decode cX8_fillings 23 = .ok (.aload_n 0, 1) := by decide +kernel
theorem dX8_fillings_24 : decode cX8_fillings 24 = .ok (.getfield 35, 3) := by decide +kernel
theorem dX8_fillings_27 : decode cX8_fillings 27 = .ok (.iload 6, 2) := by decide +kernel
theorem dX8_fillings_29 : decode cX8_fillings 29 = .ok (.iconst (-1), 1) := by decide +kernel
theorem dX8_fillings_30 : decode cX8_fillings 30 = .ok (.iastore, 1) := by decide +kernel
theorem dX8_fillings_31 : decode cX8_fillings 31 = .ok (.iload 6, 2) := by decide +kernel
theorem dX8_fillings_33 : decode cX8_fillings 33 = .ok (.ifCond .lt 125, 3) := by decide +kernel
theorem dX8_fillings_36 : decode cX8_fillings 36 = .ok (.aload_n 0, 1) := by decide +kernel
theorem dX8_fillings_37 : decode cX8_fillings 37 = .ok (.getfield 35, 3) := by decide +kernel
theorem dX8_fillings_40 : decode cX8_fillings 40 = .ok (.iload 6, 2) := by decide +kernel
theorem dX8_fillings_42 : decode cX8_fillings 42 = .ok (.dup2, 1) := by decide +kernel
theorem dX8_fillings_43 : decode cX8_fillings 43 = .ok (.iaload, 1) := by decide +kernel
theorem dX8_fillings_44 : decode cX8_fillings 44 = .ok (.iconst 1, 1) := by decide +kernel
theorem dX8_fillings_45 : decode cX8_fillings 45 = .ok (.iadd, 1) := by decide +kernel
theorem dX8_fillings_46 : decode cX8_fillings 46 = .ok (.iastore, 1) := by decide +kernel
theorem dX8_fillings_47 : decode cX8_fillings 47 = .ok (.aload_n 0, 1) := by decide +kernel
theorem dX8_fillings_48 : decode cX8_fillings 48 = .ok (.getfield 35, 3) := by decide +kernel
theorem dX8_fillings_51 : decode cX8_fillings 51 = .ok (.iload 6, 2) := by decide +kernel
theorem dX8_fillings_53 : decode cX8_fillings 53 = .ok (.iaload, 1) := by decide +kernel
theorem dX8_fillings_54 : decode cX8_fillings 54 = .ok (.aload_n 0, 1) := by decide +kernel
theorem dX8_fillings_55 : decode cX8_fillings 55 = .ok (.getfield 7, 3) := by decide +kernel
theorem dX8_fillings_58 : decode cX8_fillings 58 = .ok (.bipush 16, 2) := by decide +kernel
theorem dX8_fillings_60 : decode cX8_fillings 60 = .ok (.iaload, 1) := by decide +kernel
theorem dX8_fillings_61 : decode cX8_fillings 61 = .ok (.if_icmp .lt 16, 3) := by decide +kernel
theorem dX8_fillings_64 : decode cX8_fillings 64 = .ok (.aload_n 0, 1) := by decide +kernel
theorem dX8_fillings_65 : decode cX8_fillings 65 = .ok (.iload 6, 2) := by decide +kernel
theorem dX8_fillings_67 : decode cX8_fillings 67 = .ok (.iload_n 1, 1) := by decide +kernel
theorem dX8_fillings_68 : decode cX8_fillings 68 = .ok (.iconst (-1), 1) := by decide +kernel
theorem dX8_fillings_69 : decode cX8_fillings 69 = .ok (.invokevirtual 145, 3) := by decide +kernel
theorem dX8_fillings_72 : decode cX8_fillings 72 = .ok (.istore 6, 2) := by decide +kernel
theorem dX8_fillings_74 : decode cX8_fillings 74 = .ok (.goto (-43), 3) := by decide +kernel
theorem dX8_fillings_77 : decode cX8_fillings 77 = .ok (.iload 6, 2) := by decide +kernel
theorem dX8_fillings_79 : decode cX8_fillings 79 = .ok (.iload_n 3, 1) := by decide +kernel
theorem dX8_fillings_80 : decode cX8_fillings 80 = .ok (.if_icmp .ne 15, 3) := by decide +kernel
theorem dX8_fillings_83 : decode cX8_fillings 83 = .ok (.aload_n 0, 1) := by decide +kernel
theorem dX8_fillings_84 : decode cX8_fillings 84 = .ok (.getfield 35, 3) := by decide +kernel
theorem dX8_fillings_87 : decode cX8_fillings 87 = .ok (.iload 6, 2) := by decide +kernel
theorem dX8_fillings_89 : decode cX8_fillings 89 = .ok (.iaload, 1) := by decide +kernel
theorem dX8_fillings_90 : decode cX8_fillings 90 = .ok (.iload 4, 2) := by decide +kernel
theorem dX8_fillings_92 : decode cX8_fillings 92 = .ok (.if_icmp .ne (-61), 3) := by decide +kernel
theorem dX8_fillings_95 : decode cX8_fillings 95 = .ok (.aload_n 0, 1) := by decide +kernel
theorem dX8_fillings_96 : decode cX8_fillings 96 = .ok (.iload 6, 2) := by decide +kernel
theorem dX8_fillings_98 : decode cX8_fillings 98 = .ok (.aload_n 0, 1) := by decide +kernel
theorem dX8_fillings_99 : decode cX8_fillings 99 = .ok (.getfield 35, 3) := by decide +kernel
theorem dX8_fillings_102 : decode cX8_fillings 102 = .ok (.iload 6, 2) := by decide +kernel
theorem dX8_fillings_104 : decode cX8_fillings 104 = .ok (.iaload, 1) := by decide +kernel
theorem dX8_fillings_105 : decode cX8_fillings 105 = .ok (.iload_n 1, 1) := by decide +kernel
theorem dX8_fillings_106 : decode cX8_fillings 106 = .ok (.invokevirtual 148, 3) := by decide +kernel
theorem dX8_fillings_109 : decode cX8_fillings 109 = .ok (.ifCond .eq (-78), 3) := by decide +kernel
theorem dX8_fillings_112 : decode cX8_fillings 112 = .ok (.aload_n 0, 1) := by decide +kernel
theorem dX8_fillings_113 : decode cX8_fillings 113 = .ok (.iload 6, 2) := by decide +kernel
theorem dX8_fillings_115 : decode cX8_fillings 115 = .ok (.iload_n 1, 1) := by decide +kernel
theorem dX8_fillings_116 : decode cX8_fillings 116 = .ok (.iconst 1, 1) := by decide +kernel
theorem dX8_fillings_117 : decode cX8_fillings 117 = .ok (.invokevirtual 145, 3) := by decide +kernel
theorem dX8_fillings_120 : decode cX8_fillings 120 = .ok (.istore 7, 2) := by decide +kernel
theorem dX8_fillings_122 : decode cX8_fillings 122 = .ok (.iload 7, 2) := by decide +kernel
theorem dX8_fillings_124 : decode cX8_fillings 124 = .ok (.aload_n 0, 1) := by decide +kernel
theorem dX8_fillings_125 : decode cX8_fillings 125 = .ok (.getfield 45, 3) := by decide +kernel
theorem dX8_fillings_128 : decode cX8_fillings 128 = .ok (.if_icmp .lt 15, 3) := by decide +kernel
theorem dX8_fillings_131 : decode cX8_fillings 131 = .ok (.iinc 5 1, 3) := by decide +kernel
theorem dX8_fillings_134 : decode cX8_fillings 134 = .ok (.iload 5, 2) := by decide +kernel
theorem dX8_fillings_136 : decode cX8_fillings 136 = .ok (.iload_n 2, 1) := by decide +kernel
theorem dX8_fillings_137 : decode cX8_fillings 137 = .ok (.if_icmp .ne 18, 3) := by decide +kernel
theorem dX8_fillings_140 : decode cX8_fillings 140 = .ok (.iload 5, 2) := by decide +kernel
theorem dX8_fillings_142 : decode cX8_fillings 142 = .ok (.ireturn, 1) := by decide +kernel
theorem dX8_fillings_143 : decode cX8_fillings 143 = .ok (.iload 7, 2) := by decide +kernel
theorem dX8_fillings_145 : decode cX8_fillings 145 = .ok (.istore 6, 2) := by decide +kernel
theorem dX8_fillings_147 : decode cX8_fillings 147 = .ok (.aload_n 0, 1) := by decide +kernel
theorem dX8_fillings_148 : decode cX8_fillings 148 = .ok (.getfield 35, 3) := by decide +kernel
theorem dX8_fillings_151 : decode cX8_fillings 151 = .ok (.iload 6, 2) := by decide +kernel
theorem dX8_fillings_153 : decode cX8_fillings 153 = .ok (.iconst (-1), 1) := by decide +kernel
theorem dX8_fillings_154 : decode cX8_fillings 154 = .ok (.iastore, 1) := by decide +kernel
theorem dX8_fillings_155 : decode cX8_fillings 155 = .ok (.goto (-124), 3) := by decide +kernel
theorem dX8_fillings_158 : decode cX8_fillings 158 = .ok (.iload 5, 2) := by decide +kernel
theorem dX8_fillings_160 : decode cX8_fillings 160 = .ok (.ireturn, 1) := by decide +kernel
theorem dX8_all_0 : decode cX8_all 0 = .ok (.iconst 1, 1) := by decide +kernel
theorem dX8_all_1 : decode cX8_all 1 = .ok (.aload_n 0, 1) := by decide +kernel
theorem dX8_all_2 : decode cX8_all 2 = .ok (.getfield 45, 3) := by decide +kernel
theorem dX8_all_5 : decode cX8_all 5 = .ok (.ishl, 1) := by decide +kernel
theorem dX8_all_6 : decode cX8_all 6 = .ok (.iconst 1, 1) := by decide +kernel
theorem dX8_all_7 : decode cX8_all 7 = .ok (.isub, 1) := by decide +kernel
theorem dX8_all_8 : decode cX8_all 8 = .ok (.ireturn, 1) := by decide +kernel
theorem dX8_knot_0 : decode cX8_knot 0 = .ok (.aload_n 0, 1) := by decide +kernel
theorem dX8_knot_1 : decode cX8_knot 1 = .ok (.invokevirtual 62, 3) := by decide +kernel
theorem dX8_knot_4 : decode cX8_knot 4 = .ok (.aload_n 0, 1) := by decide +kernel
theorem dX8_knot_5 : decode cX8_knot 5 = .ok (.getfield 45, 3) := by decide +kernel
theorem dX8_knot_8 : decode cX8_knot 8 = .ok (.bipush 6, 2) := by decide +kernel
theorem dX8_knot_10 : decode cX8_knot 10 = .ok (.if_icmp .le 5, 3) := by decide +kernel
theorem dX8_knot_13 : decode cX8_knot 13 = .ok (.iconst (-1), 1) := by decide +kernel
theorem dX8_knot_14 : decode cX8_knot 14 = .ok (.ireturn, 1) := by decide +kernel
theorem dX8_knot_15 : decode cX8_knot 15 = .ok (.iconst 0, 1) := by decide +kernel
theorem dX8_knot_16 : decode cX8_knot 16 = .ok (.istore_n 1, 1) := by decide +kernel
theorem dX8_knot_17 : decode cX8_knot 17 = .ok (.iconst 1, 1) := by decide +kernel
theorem dX8_knot_18 : decode cX8_knot 18 = .ok (.istore_n 2, 1) := by decide +kernel
theorem dX8_knot_19 : decode cX8_knot 19 = .ok (.iload_n 2, 1) := by decide +kernel
theorem dX8_knot_20 : decode cX8_knot 20 = .ok (.aload_n 0, 1) := by decide +kernel
theorem dX8_knot_21 : decode cX8_knot 21 = .ok (.invokevirtual 151, 3) := by decide +kernel
theorem dX8_knot_24 : decode cX8_knot 24 = .ok (.if_icmp .gt 37, 3) := by decide +kernel
theorem dX8_knot_27 : decode cX8_knot 27 = .ok (.iload_n 1, 1) := by decide +kernel
theorem dX8_knot_28 : decode cX8_knot 28 = .ok (.ifCond .eq 14, 3) := by decide +kernel
theorem dX8_knot_31 : decode cX8_knot 31 = .ok (.iload_n 2, 1) := by decide +kernel
theorem dX8_knot_32 : decode cX8_knot 32 = .ok (.invokestatic 139, 3) := by decide +kernel
theorem dX8_knot_35 : decode cX8_knot 35 = .ok (.iload_n 1, 1) := by decide +kernel
theorem dX8_knot_36 : decode cX8_knot 36 = .ok (.invokestatic 139, 3) := by decide +kernel
theorem dX8_knot_39 : decode cX8_knot 39 = .ok (.if_icmp .ge 16, 3) := by decide +kernel
theorem dX8_knot_42 : decode cX8_knot 42 = .ok (.aload_n 0, 1) := by decide +kernel
theorem dX8_knot_43 : decode cX8_knot 43 = .ok (.iload_n 2, 1) := by decide +kernel
theorem dX8_knot_44 : decode cX8_knot 44 = .ok (.iconst 1, 1) := by decide +kernel
theorem dX8_knot_45 : decode cX8_knot 45 = .ok (.iconst (-1), 1) := by decide +kernel
theorem dX8_knot_46 : decode cX8_knot 46 = .ok (.iconst 0, 1) := by decide +kernel
theorem dX8_knot_47 : decode cX8_knot 47 = .ok (.invokevirtual 154, 3) := by decide +kernel
theorem dX8_knot_50 : decode cX8_knot 50 = .ok (.ifCond .ne 5, 3) := by decide +kernel
theorem dX8_knot_53 : decode cX8_knot 53 = .ok (.iload_n 2, 1) := by decide +kernel
theorem dX8_knot_54 : decode cX8_knot 54 = .ok (.istore_n 1, 1) := by decide +kernel
theorem dX8_knot_55 : decode cX8_knot 55 = .ok (.iinc 2 1, 3) := by decide +kernel
theorem dX8_knot_58 : decode cX8_knot 58 = .ok (.goto (-39), 3) := by decide +kernel
theorem dX8_knot_61 : decode cX8_knot 61 = .ok (.iload_n 1, 1) := by decide +kernel
theorem dX8_knot_62 : decode cX8_knot 62 = .ok (.ireturn, 1) := by decide +kernel
theorem dX8_wrong_0 : decode cX8_wrong 0 = .ok (.aload_n 0, 1) := by decide +kernel
theorem dX8_wrong_1 : decode cX8_wrong 1 = .ok (.invokevirtual 62, 3) := by decide +kernel
theorem dX8_wrong_4 : decode cX8_wrong 4 = .ok (.iconst 0, 1) := by decide +kernel
theorem dX8_wrong_5 : decode cX8_wrong 5 = .ok (.istore_n 1, 1) := by decide +kernel
theorem dX8_wrong_6 : decode cX8_wrong 6 = .ok (.iconst 0, 1) := by decide +kernel
theorem dX8_wrong_7 : decode cX8_wrong 7 = .ok (.istore_n 2, 1) := by decide +kernel
theorem dX8_wrong_8 : decode cX8_wrong 8 = .ok (.iload_n 2, 1) := by decide +kernel
theorem dX8_wrong_9 : decode cX8_wrong 9 = .ok (.aload_n 0, 1) := by decide +kernel
theorem dX8_wrong_10 : decode cX8_wrong 10 = .ok (.getfield 45, 3) := by decide +kernel
theorem dX8_wrong_13 : decode cX8_wrong 13 = .ok (.if_icmp .ge 116, 3) := by decide +kernel
theorem dX8_wrong_16 : decode cX8_wrong 16 = .ok (.aload_n 0, 1) := by decide +kernel
theorem dX8_wrong_17 : decode cX8_wrong 17 = .ok (.iload_n 2, 1) := by decide +kernel
theorem dX8_wrong_18 : decode cX8_wrong 18 = .ok (.invokevirtual 136, 3) := by decide +kernel
theorem dX8_wrong_21 : decode cX8_wrong 21 = .ok (.ifCond .eq 102, 3) := by decide +kernel
theorem dX8_wrong_24 : decode cX8_wrong 24 = .ok (.iconst 0, 1) := by decide +kernel
theorem dX8_wrong_25 : decode cX8_wrong 25 = .ok (.istore_n 3, 1) := by decide +kernel
theorem dX8_wrong_26 : decode cX8_wrong 26 = .ok (.iconst 0, 1) := by decide +kernel
theorem dX8_wrong_27 : decode cX8_wrong 27 = .ok (.istore 4, 2) := by decide +kernel
theorem dX8_wrong_29 : decode cX8_wrong 29 = .ok (.iload 4, 2) := by decide +kernel
theorem dX8_wrong_31 : decode cX8_wrong 31 = .ok (.iload_n 2, 1) := by decide +kernel
theorem dX8_wrong_32 : decode cX8_wrong 32 = .ok (.if_icmp .ge 58, 3) := by decide +kernel
theorem dX8_wrong_35 : decode cX8_wrong 35 = .ok (.iload_n 3, 1) := by decide +kernel
theorem dX8_wrong_36 : decode cX8_wrong 36 = .ok (.ifCond .ne 42, 3) := by decide +kernel
theorem dX8_wrong_39 : decode cX8_wrong 39 = .ok (.aload_n 0, 1) := by decide +kernel
theorem dX8_wrong_40 : decode cX8_wrong 40 = .ok (.iload 4, 2) := by decide +kernel
theorem dX8_wrong_42 : decode cX8_wrong 42 = .ok (.invokevirtual 136, 3) := by decide +kernel
theorem dX8_wrong_45 : decode cX8_wrong 45 = .ok (.ifCond .eq 37, 3) := by decide +kernel
theorem dX8_wrong_48 : decode cX8_wrong 48 = .ok (.aload_n 0, 1) := by decide +kernel
theorem dX8_wrong_49 : decode cX8_wrong 49 = .ok (.getfield 26, 3) := by decide +kernel
theorem dX8_wrong_52 : decode cX8_wrong 52 = .ok (.iload 4, 2) := by decide +kernel
theorem dX8_wrong_54 : decode cX8_wrong 54 = .ok (.iaload, 1) := by decide +kernel
theorem dX8_wrong_55 : decode cX8_wrong 55 = .ok (.aload_n 0, 1) := by decide +kernel
theorem dX8_wrong_56 : decode cX8_wrong 56 = .ok (.getfield 26, 3) := by decide +kernel
theorem dX8_wrong_59 : decode cX8_wrong 59 = .ok (.iload_n 2, 1) := by decide +kernel
theorem dX8_wrong_60 : decode cX8_wrong 60 = .ok (.iaload, 1) := by decide +kernel
theorem dX8_wrong_61 : decode cX8_wrong 61 = .ok (.if_icmp .ne 21, 3) := by decide +kernel
theorem dX8_wrong_64 : decode cX8_wrong 64 = .ok (.aload_n 0, 1) := by decide +kernel
theorem dX8_wrong_65 : decode cX8_wrong 65 = .ok (.iload 4, 2) := by decide +kernel
theorem dX8_wrong_67 : decode cX8_wrong 67 = .ok (.invokevirtual 158, 3) := by decide +kernel
theorem dX8_wrong_70 : decode cX8_wrong 70 = .ok (.aload_n 0, 1) := by decide +kernel
theorem dX8_wrong_71 : decode cX8_wrong 71 = .ok (.iload_n 2, 1) := by decide +kernel
theorem dX8_wrong_72 : decode cX8_wrong 72 = .ok (.invokevirtual 158, 3) := by decide +kernel
theorem dX8_wrong_75 : decode cX8_wrong 75 = .ok (.if_icmp .ne 7, 3) := by decide +kernel
theorem dX8_wrong_78 : decode cX8_wrong 78 = .ok (.iconst 1, 1) := by decide +kernel
theorem dX8_wrong_79 : decode cX8_wrong 79 = .ok (.goto 4, 3) := by decide +kernel
theorem dX8_wrong_82 : decode cX8_wrong 82 = .ok (.iconst 0, 1) := by decide +kernel
theorem dX8_wrong_83 : decode cX8_wrong 83 = .ok (.istore_n 3, 1) := by decide +kernel
theorem dX8_wrong_84 : decode cX8_wrong 84 = .ok (.iinc 4 1, 3) := by decide +kernel
theorem dX8_wrong_87 : decode cX8_wrong 87 = .ok (.goto (-58), 3) := by decide +kernel
theorem dX8_wrong_90 : decode cX8_wrong 90 = .ok (.iload_n 1, 1) := by decide +kernel
theorem dX8_wrong_91 : decode cX8_wrong 91 = .ok (.aload_n 0, 1) := by decide +kernel
theorem dX8_wrong_92 : decode cX8_wrong 92 = .ok (.aload_n 0, 1) := by decide +kernel
theorem dX8_wrong_93 : decode cX8_wrong 93 = .ok (.iload_n 2, 1) := by decide +kernel
theorem dX8_wrong_94 : decode cX8_wrong 94 = .ok (.invokevirtual 158, 3) := by decide +kernel
theorem dX8_wrong_97 : decode cX8_wrong 97 = .ok (.invokevirtual 99, 3) := by decide +kernel
theorem dX8_wrong_100 : decode cX8_wrong 100 = .ok (.iconst (-1), 1) := by decide +kernel
theorem dX8_wrong_101 : decode cX8_wrong 101 = .ok (.if_icmp .ne 7, 3) := by decide +kernel
theorem dX8_wrong_104 : decode cX8_wrong 104 = .ok (.iconst 1, 1) := by decide +kernel
theorem dX8_wrong_105 : decode cX8_wrong 105 = .ok (.goto 4, 3) := by decide +kernel
theorem dX8_wrong_108 : decode cX8_wrong 108 = .ok (.iconst 0, 1) := by decide +kernel
theorem dX8_wrong_109 : decode cX8_wrong 109 = .ok (.iadd, 1) := by decide +kernel
theorem dX8_wrong_110 : decode cX8_wrong 110 = .ok (.istore_n 1, 1) := by decide +kernel
theorem dX8_wrong_111 : decode cX8_wrong 111 = .ok (.iload_n 1, 1) := by decide +kernel
theorem dX8_wrong_112 : decode cX8_wrong 112 = .ok (.iload_n 3, 1) := by decide +kernel
theorem dX8_wrong_113 : decode cX8_wrong 113 = .ok (.ifCond .eq 7, 3) := by decide +kernel
theorem dX8_wrong_116 : decode cX8_wrong 116 = .ok (.iconst 1, 1) := by decide +kernel
theorem dX8_wrong_117 : decode cX8_wrong 117 = .ok (.goto 4, 3) := by decide +kernel
theorem dX8_wrong_120 : decode cX8_wrong 120 = .ok (.iconst 0, 1) := by decide +kernel
theorem dX8_wrong_121 : decode cX8_wrong 121 = .ok (.iadd, 1) := by decide +kernel
theorem dX8_wrong_122 : decode cX8_wrong 122 = .ok (.istore_n 1, 1) := by decide +kernel
theorem dX8_wrong_123 : decode cX8_wrong 123 = .ok (.iinc 2 1, 3) := by decide +kernel
theorem dX8_wrong_126 : decode cX8_wrong 126 = .ok (.goto (-118), 3) := by decide +kernel
theorem dX8_wrong_129 : decode cX8_wrong 129 = .ok (.iload_n 1, 1) := by decide +kernel
theorem dX8_wrong_130 : decode cX8_wrong 130 = .ok (.ireturn, 1) := by decide +kernel
theorem dX8_ofCells_0 : decode cX8_ofCells 0 = .ok (.iconst 0, 1) := by decide +kernel
theorem dX8_ofCells_1 : decode cX8_ofCells 1 = .ok (.istore_n 2, 1) := by decide +kernel
theorem dX8_ofCells_2 : decode cX8_ofCells 2 = .ok (.iconst 0, 1) := by decide +kernel
theorem dX8_ofCells_3 : decode cX8_ofCells 3 = .ok (.istore_n 3, 1) := by decide +kernel
theorem dX8_ofCells_4 : decode cX8_ofCells 4 = .ok (.iconst 0, 1) := by decide +kernel
theorem dX8_ofCells_5 : decode cX8_ofCells 5 = .ok (.istore 4, 2) := by decide +kernel
theorem dX8_ofCells_7 : decode cX8_ofCells 7 = .ok (.iload 4, 2) := by decide +kernel
theorem dX8_ofCells_9 : decode cX8_ofCells 9 = .ok (.bipush 16, 2) := by decide +kernel
theorem dX8_ofCells_11 : decode cX8_ofCells 11 = .ok (.if_icmp .ge 52, 3) := by decide +kernel
theorem dX8_ofCells_14 : decode cX8_ofCells 14 = .ok (.iload_n 3, 1) := by decide +kernel
theorem dX8_ofCells_15 : decode cX8_ofCells 15 = .ok (.aload_n 0, 1) := by decide +kernel
theorem dX8_ofCells_16 : decode cX8_ofCells 16 = .ok (.getfield 7, 3) := by decide +kernel
theorem dX8_ofCells_19 : decode cX8_ofCells 19 = .ok (.iload 4, 2) := by decide +kernel
theorem dX8_ofCells_21 : decode cX8_ofCells 21 = .ok (.iaload, 1) := by decide +kernel
theorem dX8_ofCells_22 : decode cX8_ofCells 22 = .ok (.iconst (-1), 1) := by decide +kernel
theorem dX8_ofCells_23 : decode cX8_ofCells 23 = .ok (.if_icmp .ne 10, 3) := by decide +kernel
theorem dX8_ofCells_26 : decode cX8_ofCells 26 = .ok (.iconst 1, 1) := by decide +kernel
theorem dX8_ofCells_27 : decode cX8_ofCells 27 = .ok (.iload 4, 2) := by decide +kernel
theorem dX8_ofCells_29 : decode cX8_ofCells 29 = .ok (.ishl, 1) := by decide +kernel
theorem dX8_ofCells_30 : decode cX8_ofCells 30 = .ok (.goto 4, 3) := by decide +kernel
theorem dX8_ofCells_33 : decode cX8_ofCells 33 = .ok (.iconst 0, 1) := by decide +kernel
theorem dX8_ofCells_34 : decode cX8_ofCells 34 = .ok (.ior, 1) := by decide +kernel
theorem dX8_ofCells_35 : decode cX8_ofCells 35 = .ok (.istore_n 3, 1) := by decide +kernel
theorem dX8_ofCells_36 : decode cX8_ofCells 36 = .ok (.iload_n 2, 1) := by decide +kernel
theorem dX8_ofCells_37 : decode cX8_ofCells 37 = .ok (.aload_n 0, 1) := by decide +kernel
theorem dX8_ofCells_38 : decode cX8_ofCells 38 = .ok (.getfield 7, 3) := by decide +kernel
theorem dX8_ofCells_41 : decode cX8_ofCells 41 = .ok (.iload 4, 2) := by decide +kernel
theorem dX8_ofCells_43 : decode cX8_ofCells 43 = .ok (.iaload, 1) := by decide +kernel
theorem dX8_ofCells_44 : decode cX8_ofCells 44 = .ok (.ifCond .le 10, 3) := by decide +kernel
theorem dX8_ofCells_47 : decode cX8_ofCells 47 = .ok (.iconst 1, 1) := by decide +kernel
theorem dX8_ofCells_48 : decode cX8_ofCells 48 = .ok (.iload 4, 2) := by decide +kernel
theorem dX8_ofCells_50 : decode cX8_ofCells 50 = .ok (.ishl, 1) := by decide +kernel
theorem dX8_ofCells_51 : decode cX8_ofCells 51 = .ok (.goto 4, 3) := by decide +kernel
theorem dX8_ofCells_54 : decode cX8_ofCells 54 = .ok (.iconst 0, 1) := by decide +kernel
theorem dX8_ofCells_55 : decode cX8_ofCells 55 = .ok (.ior, 1) := by decide +kernel
theorem dX8_ofCells_56 : decode cX8_ofCells 56 = .ok (.istore_n 2, 1) := by decide +kernel
theorem dX8_ofCells_57 : decode cX8_ofCells 57 = .ok (.iinc 4 1, 3) := by decide +kernel
theorem dX8_ofCells_60 : decode cX8_ofCells 60 = .ok (.goto (-53), 3) := by decide +kernel
theorem dX8_ofCells_63 : decode cX8_ofCells 63 = .ok (.iload_n 1, 1) := by decide +kernel
theorem dX8_ofCells_64 : decode cX8_ofCells 64 = .ok (.iconst 2, 1) := by decide +kernel
theorem dX8_ofCells_65 : decode cX8_ofCells 65 = .ok (.if_icmp .ne 7, 3) := by decide +kernel
theorem dX8_ofCells_68 : decode cX8_ofCells 68 = .ok (.iload_n 3, 1) := by decide +kernel
theorem dX8_ofCells_69 : decode cX8_ofCells 69 = .ok (.goto 4, 3) := by decide +kernel
theorem dX8_ofCells_72 : decode cX8_ofCells 72 = .ok (.iload_n 2, 1) := by decide +kernel
theorem dX8_ofCells_73 : decode cX8_ofCells 73 = .ok (.ireturn, 1) := by decide +kernel
theorem dX8_ofSlots_0 : decode cX8_ofSlots 0 = .ok (.aload_n 0, 1) := by decide +kernel
theorem dX8_ofSlots_1 : decode cX8_ofSlots 1 = .ok (.invokevirtual 133, 3) := by decide +kernel
theorem dX8_ofSlots_4 : decode cX8_ofSlots 4 = .ok (.iconst 0, 1) := by decide +kernel
theorem dX8_ofSlots_5 : decode cX8_ofSlots 5 = .ok (.istore_n 2, 1) := by decide +kernel
theorem dX8_ofSlots_6 : decode cX8_ofSlots 6 = .ok (.iconst 0, 1) := by decide +kernel
theorem dX8_ofSlots_7 : decode cX8_ofSlots 7 = .ok (.istore_n 3, 1) := by decide +kernel
theorem dX8_ofSlots_8 : decode cX8_ofSlots 8 = .ok (.iconst 0, 1) := by decide +kernel
theorem dX8_ofSlots_9 : decode cX8_ofSlots 9 = .ok (.istore 4, 2) := by decide +kernel
theorem dX8_ofSlots_11 : decode cX8_ofSlots 11 = .ok (.iconst 0, 1) := by decide +kernel
theorem dX8_ofSlots_12 : decode cX8_ofSlots 12 = .ok (.istore 5, 2) := by decide +kernel
theorem dX8_ofSlots_14 : decode cX8_ofSlots 14 = .ok (.iload 5, 2) := by decide +kernel
theorem dX8_ofSlots_16 : decode cX8_ofSlots 16 = .ok (.aload_n 0, 1) := by decide +kernel
theorem dX8_ofSlots_17 : decode cX8_ofSlots 17 = .ok (.getfield 45, 3) := by decide +kernel
theorem dX8_ofSlots_20 : decode cX8_ofSlots 20 = .ok (.if_icmp .ge 64, 3) := by decide +kernel
theorem dX8_ofSlots_23 : decode cX8_ofSlots 23 = .ok (.iload_n 2, 1) := by decide +kernel
theorem dX8_ofSlots_24 : decode cX8_ofSlots 24 = .ok (.aload_n 0, 1) := by decide +kernel
theorem dX8_ofSlots_25 : decode cX8_ofSlots 25 = .ok (.iload 5, 2) := by decide +kernel
theorem dX8_ofSlots_27 : decode cX8_ofSlots 27 = .ok (.invokevirtual 142, 3) := by decide +kernel
theorem dX8_ofSlots_30 : decode cX8_ofSlots 30 = .ok (.invokestatic 139, 3) := by decide +kernel
theorem dX8_ofSlots_33 : decode cX8_ofSlots 33 = .ok (.iadd, 1) := by decide +kernel
theorem dX8_ofSlots_34 : decode cX8_ofSlots 34 = .ok (.istore_n 2, 1) := by decide +kernel
theorem dX8_ofSlots_35 : decode cX8_ofSlots 35 = .ok (.iload_n 3, 1) := by decide +kernel
theorem dX8_ofSlots_36 : decode cX8_ofSlots 36 = .ok (.aload_n 0, 1) := by decide +kernel
theorem dX8_ofSlots_37 : decode cX8_ofSlots 37 = .ok (.iload 5, 2) := by decide +kernel
theorem dX8_ofSlots_39 : decode cX8_ofSlots 39 = .ok (.invokevirtual 136, 3) := by decide +kernel
theorem dX8_ofSlots_42 : decode cX8_ofSlots 42 = .ok (.ifCond .eq 10, 3) := by decide +kernel
theorem dX8_ofSlots_45 : decode cX8_ofSlots 45 = .ok (.iconst 1, 1) := by decide +kernel
theorem dX8_ofSlots_46 : decode cX8_ofSlots 46 = .ok (.iload 5, 2) := by decide +kernel
theorem dX8_ofSlots_48 : decode cX8_ofSlots 48 = .ok (.ishl, 1) := by decide +kernel
theorem dX8_ofSlots_49 : decode cX8_ofSlots 49 = .ok (.goto 4, 3) := by decide +kernel
theorem dX8_ofSlots_52 : decode cX8_ofSlots 52 = .ok (.iconst 0, 1) := by decide +kernel
theorem dX8_ofSlots_53 : decode cX8_ofSlots 53 = .ok (.ior, 1) := by decide +kernel
theorem dX8_ofSlots_54 : decode cX8_ofSlots 54 = .ok (.istore_n 3, 1) := by decide +kernel
theorem dX8_ofSlots_55 : decode cX8_ofSlots 55 = .ok (.iload 4, 2) := by decide +kernel
theorem dX8_ofSlots_57 : decode cX8_ofSlots 57 = .ok (.aload_n 0, 1) := by decide +kernel
theorem dX8_ofSlots_58 : decode cX8_ofSlots 58 = .ok (.getfield 32, 3) := by decide +kernel
theorem dX8_ofSlots_61 : decode cX8_ofSlots 61 = .ok (.iload 5, 2) := by decide +kernel
theorem dX8_ofSlots_63 : decode cX8_ofSlots 63 = .ok (.iaload, 1) := by decide +kernel
theorem dX8_ofSlots_64 : decode cX8_ofSlots 64 = .ok (.ifCond .ne 10, 3) := by decide +kernel
theorem dX8_ofSlots_67 : decode cX8_ofSlots 67 = .ok (.iconst 1, 1) := by decide +kernel
theorem dX8_ofSlots_68 : decode cX8_ofSlots 68 = .ok (.iload 5, 2) := by decide +kernel
theorem dX8_ofSlots_70 : decode cX8_ofSlots 70 = .ok (.ishl, 1) := by decide +kernel
theorem dX8_ofSlots_71 : decode cX8_ofSlots 71 = .ok (.goto 4, 3) := by decide +kernel
theorem dX8_ofSlots_74 : decode cX8_ofSlots 74 = .ok (.iconst 0, 1) := by decide +kernel
theorem dX8_ofSlots_75 : decode cX8_ofSlots 75 = .ok (.ior, 1) := by decide +kernel
theorem dX8_ofSlots_76 : decode cX8_ofSlots 76 = .ok (.istore 4, 2) := by decide +kernel
theorem dX8_ofSlots_78 : decode cX8_ofSlots 78 = .ok (.iinc 5 1, 3) := by decide +kernel
theorem dX8_ofSlots_81 : decode cX8_ofSlots 81 = .ok (.goto (-67), 3) := by decide +kernel
theorem dX8_ofSlots_84 : decode cX8_ofSlots 84 = .ok (.iload_n 1, 1) := by decide +kernel
theorem dX8_ofSlots_85 : decode cX8_ofSlots 85 = .ok (.iconst 4, 1) := by decide +kernel
theorem dX8_ofSlots_86 : decode cX8_ofSlots 86 = .ok (.if_icmp .ne 9, 3) := by decide +kernel
theorem dX8_ofSlots_89 : decode cX8_ofSlots 89 = .ok (.iload_n 2, 1) := by decide +kernel
theorem dX8_ofSlots_90 : decode cX8_ofSlots 90 = .ok (.iconst 2, 1) := by decide +kernel
theorem dX8_ofSlots_91 : decode cX8_ofSlots 91 = .ok (.idiv, 1) := by decide +kernel
theorem dX8_ofSlots_92 : decode cX8_ofSlots 92 = .ok (.goto 14, 3) := by decide +kernel
theorem dX8_ofSlots_95 : decode cX8_ofSlots 95 = .ok (.iload_n 1, 1) := by decide +kernel
theorem dX8_ofSlots_96 : decode cX8_ofSlots 96 = .ok (.iconst 5, 1) := by decide +kernel
theorem dX8_ofSlots_97 : decode cX8_ofSlots 97 = .ok (.if_icmp .ne 7, 3) := by decide +kernel
theorem dX8_ofSlots_100 : decode cX8_ofSlots 100 = .ok (.iload_n 3, 1) := by decide +kernel
theorem dX8_ofSlots_101 : decode cX8_ofSlots 101 = .ok (.goto 5, 3) := by decide +kernel
theorem dX8_ofSlots_104 : decode cX8_ofSlots 104 = .ok (.iload 4, 2) := by decide +kernel
theorem dX8_ofSlots_106 : decode cX8_ofSlots 106 = .ok (.ireturn, 1) := by decide +kernel
theorem dX8_told_0 : decode cX8_told 0 = .ok (.aload_n 0, 1) := by decide +kernel
theorem dX8_told_1 : decode cX8_told 1 = .ok (.invokevirtual 62, 3) := by decide +kernel
theorem dX8_told_4 : decode cX8_told 4 = .ok (.iload_n 1, 1) := by decide +kernel
theorem dX8_told_5 : decode cX8_told 5 = .ok (.tableswitch 122 0 11 #[63, 68, 76, 76, 82, 82, 88, 93, 98, 112, 82, 117], 63) := by decide +kernel
theorem dX8_told_68 : decode cX8_told 68 = .ok (.aload_n 0, 1) := by decide +kernel
theorem dX8_told_69 : decode cX8_told 69 = .ok (.getfield 45, 3) := by decide +kernel
theorem dX8_told_72 : decode cX8_told 72 = .ok (.ireturn, 1) := by decide +kernel
theorem dX8_told_73 : decode cX8_told 73 = .ok (.aload_n 0, 1) := by decide +kernel
theorem dX8_told_74 : decode cX8_told 74 = .ok (.getfield 7, 3) := by decide +kernel
theorem dX8_told_77 : decode cX8_told 77 = .ok (.bipush 16, 2) := by decide +kernel
theorem dX8_told_79 : decode cX8_told 79 = .ok (.iaload, 1) := by decide +kernel
theorem dX8_told_80 : decode cX8_told 80 = .ok (.ireturn, 1) := by decide +kernel
theorem dX8_told_81 : decode cX8_told 81 = .ok (.aload_n 0, 1) := by decide +kernel
theorem dX8_told_82 : decode cX8_told 82 = .ok (.iload_n 1, 1) := by decide +kernel
theorem dX8_told_83 : decode cX8_told 83 = .ok (.invokevirtual 161, 3) := by decide +kernel
theorem dX8_told_86 : decode cX8_told 86 = .ok (.ireturn, 1) := by decide +kernel
theorem dX8_told_87 : decode cX8_told 87 = .ok (.aload_n 0, 1) := by decide +kernel
theorem dX8_told_88 : decode cX8_told 88 = .ok (.iload_n 1, 1) := by decide +kernel
theorem dX8_told_89 : decode cX8_told 89 = .ok (.invokevirtual 164, 3) := by decide +kernel
theorem dX8_told_92 : decode cX8_told 92 = .ok (.ireturn, 1) := by decide +kernel
theorem dX8_told_93 : decode cX8_told 93 = .ok (.aload_n 0, 1) := by decide +kernel
theorem dX8_told_94 : decode cX8_told 94 = .ok (.invokevirtual 167, 3) := by decide +kernel
theorem dX8_told_97 : decode cX8_told 97 = .ok (.ireturn, 1) := by decide +kernel
theorem dX8_told_98 : decode cX8_told 98 = .ok (.aload_n 0, 1) := by decide +kernel
theorem dX8_told_99 : decode cX8_told 99 = .ok (.invokevirtual 170, 3) := by decide +kernel
theorem dX8_told_102 : decode cX8_told 102 = .ok (.ireturn, 1) := by decide +kernel
theorem dX8_told_103 : decode cX8_told 103 = .ok (.aload_n 0, 1) := by decide +kernel
theorem dX8_told_104 : decode cX8_told 104 = .ok (.aload_n 0, 1) := by decide +kernel
theorem dX8_told_105 : decode cX8_told 105 = .ok (.invokevirtual 151, 3) := by decide +kernel
theorem dX8_told_108 : decode cX8_told 108 = .ok (.sipush 999, 3) := by decide +kernel
theorem dX8_told_111 : decode cX8_told 111 = .ok (.iconst (-1), 1) := by decide +kernel
theorem dX8_told_112 : decode cX8_told 112 = .ok (.iconst 0, 1) := by decide +kernel
theorem dX8_told_113 : decode cX8_told 113 = .ok (.invokevirtual 154, 3) := by decide +kernel
theorem dX8_told_116 : decode cX8_told 116 = .ok (.ireturn, 1) := by decide +kernel
theorem dX8_told_117 : decode cX8_told 117 = .ok (.aload_n 0, 1) := by decide +kernel
theorem dX8_told_118 : decode cX8_told 118 = .ok (.invokevirtual 173, 3) := by decide +kernel
theorem dX8_told_121 : decode cX8_told 121 = .ok (.ireturn, 1) := by decide +kernel
theorem dX8_told_122 : decode cX8_told 122 = .ok (.aload_n 0, 1) := by decide +kernel
theorem dX8_told_123 : decode cX8_told 123 = .ok (.getfield 42, 3) := by decide +kernel
theorem dX8_told_126 : decode cX8_told 126 = .ok (.ireturn, 1) := by decide +kernel
theorem dX8_told_127 : decode cX8_told 127 = .ok (.ldc 88, 2) := by decide +kernel
theorem dX8_told_129 : decode cX8_told 129 = .ok (.ireturn, 1) := by decide +kernel
theorem dX8_cell_0 : decode cX8_cell 0 = .ok (.iload_n 1, 1) := by decide +kernel
theorem dX8_cell_1 : decode cX8_cell 1 = .ok (.iconst 0, 1) := by decide +kernel
theorem dX8_cell_2 : decode cX8_cell 2 = .ok (.bipush 15, 2) := by decide +kernel
theorem dX8_cell_4 : decode cX8_cell 4 = .ok (.invokestatic 65, 3) := by decide +kernel
theorem dX8_cell_7 : decode cX8_cell 7 = .ok (.ifCond .ne 6, 3) := by decide +kernel
theorem dX8_cell_10 : decode cX8_cell 10 = .ok (.ldc 79, 2) := by decide +kernel
theorem dX8_cell_12 : decode cX8_cell 12 = .ok (.ireturn, 1) := by decide +kernel
theorem dX8_cell_13 : decode cX8_cell 13 = .ok (.iload_n 2, 1) := by decide +kernel
theorem dX8_cell_14 : decode cX8_cell 14 = .ok (.iconst 0, 1) := by decide +kernel
theorem dX8_cell_15 : decode cX8_cell 15 = .ok (.iconst 3, 1) := by decide +kernel
theorem dX8_cell_16 : decode cX8_cell 16 = .ok (.invokestatic 65, 3) := by decide +kernel
theorem dX8_cell_19 : decode cX8_cell 19 = .ok (.ifCond .ne 6, 3) := by decide +kernel
theorem dX8_cell_22 : decode cX8_cell 22 = .ok (.ldc 88, 2) := by decide +kernel
theorem dX8_cell_24 : decode cX8_cell 24 = .ok (.ireturn, 1) := by decide +kernel
theorem dX8_cell_25 : decode cX8_cell 25 = .ok (.iload_n 2, 1) := by decide +kernel
theorem dX8_cell_26 : decode cX8_cell 26 = .ok (.ifCond .ne 31, 3) := by decide +kernel
theorem dX8_cell_29 : decode cX8_cell 29 = .ok (.aload_n 0, 1) := by decide +kernel
theorem dX8_cell_30 : decode cX8_cell 30 = .ok (.getfield 7, 3) := by decide +kernel
theorem dX8_cell_33 : decode cX8_cell 33 = .ok (.iload_n 1, 1) := by decide +kernel
theorem dX8_cell_34 : decode cX8_cell 34 = .ok (.iaload, 1) := by decide +kernel
theorem dX8_cell_35 : decode cX8_cell 35 = .ok (.ifCond .le 15, 3) := by decide +kernel
theorem dX8_cell_38 : decode cX8_cell 38 = .ok (.aload_n 0, 1) := by decide +kernel
theorem dX8_cell_39 : decode cX8_cell 39 = .ok (.getfield 7, 3) := by decide +kernel
theorem dX8_cell_42 : decode cX8_cell 42 = .ok (.iload_n 1, 1) := by decide +kernel
theorem dX8_cell_43 : decode cX8_cell 43 = .ok (.iaload, 1) := by decide +kernel
theorem dX8_cell_44 : decode cX8_cell 44 = .ok (.bipush 96, 2) := by decide +kernel
theorem dX8_cell_46 : decode cX8_cell 46 = .ok (.iadd, 1) := by decide +kernel
theorem dX8_cell_47 : decode cX8_cell 47 = .ok (.goto 9, 3) := by decide +kernel
theorem dX8_cell_50 : decode cX8_cell 50 = .ok (.aload_n 0, 1) := by decide +kernel
theorem dX8_cell_51 : decode cX8_cell 51 = .ok (.getfield 7, 3) := by decide +kernel
theorem dX8_cell_54 : decode cX8_cell 54 = .ok (.iload_n 1, 1) := by decide +kernel
theorem dX8_cell_55 : decode cX8_cell 55 = .ok (.iaload, 1) := by decide +kernel
theorem dX8_cell_56 : decode cX8_cell 56 = .ok (.ireturn, 1) := by decide +kernel
theorem dX8_cell_57 : decode cX8_cell 57 = .ok (.iload_n 2, 1) := by decide +kernel
theorem dX8_cell_58 : decode cX8_cell 58 = .ok (.iconst 3, 1) := by decide +kernel
theorem dX8_cell_59 : decode cX8_cell 59 = .ok (.if_icmp .ne 9, 3) := by decide +kernel
theorem dX8_cell_62 : decode cX8_cell 62 = .ok (.aload_n 0, 1) := by decide +kernel
theorem dX8_cell_63 : decode cX8_cell 63 = .ok (.iload_n 1, 1) := by decide +kernel
theorem dX8_cell_64 : decode cX8_cell 64 = .ok (.invokevirtual 176, 3) := by decide +kernel
theorem dX8_cell_67 : decode cX8_cell 67 = .ok (.ireturn, 1) := by decide +kernel
theorem dX8_cell_68 : decode cX8_cell 68 = .ok (.aload_n 0, 1) := by decide +kernel
theorem dX8_cell_69 : decode cX8_cell 69 = .ok (.invokevirtual 62, 3) := by decide +kernel
theorem dX8_cell_72 : decode cX8_cell 72 = .ok (.iconst 0, 1) := by decide +kernel
theorem dX8_cell_73 : decode cX8_cell 73 = .ok (.istore_n 3, 1) := by decide +kernel
theorem dX8_cell_74 : decode cX8_cell 74 = .ok (.iload_n 3, 1) := by decide +kernel
theorem dX8_cell_75 : decode cX8_cell 75 = .ok (.aload_n 0, 1) := by decide +kernel
theorem dX8_cell_76 : decode cX8_cell 76 = .ok (.getfield 45, 3) := by decide +kernel
theorem dX8_cell_79 : decode cX8_cell 79 = .ok (.if_icmp .ge 40, 3) := by decide +kernel
theorem dX8_cell_82 : decode cX8_cell 82 = .ok (.aload_n 0, 1) := by decide +kernel
theorem dX8_cell_83 : decode cX8_cell 83 = .ok (.iload_n 3, 1) := by decide +kernel
theorem dX8_cell_84 : decode cX8_cell 84 = .ok (.iload_n 1, 1) := by decide +kernel
theorem dX8_cell_85 : decode cX8_cell 85 = .ok (.invokevirtual 56, 3) := by decide +kernel
theorem dX8_cell_88 : decode cX8_cell 88 = .ok (.iconst (-1), 1) := by decide +kernel
theorem dX8_cell_89 : decode cX8_cell 89 = .ok (.if_icmp .eq 24, 3) := by decide +kernel
theorem dX8_cell_92 : decode cX8_cell 92 = .ok (.aload_n 0, 1) := by decide +kernel
theorem dX8_cell_93 : decode cX8_cell 93 = .ok (.getfield 29, 3) := by decide +kernel
theorem dX8_cell_96 : decode cX8_cell 96 = .ok (.iload_n 3, 1) := by decide +kernel
theorem dX8_cell_97 : decode cX8_cell 97 = .ok (.iaload, 1) := by decide +kernel
theorem dX8_cell_98 : decode cX8_cell 98 = .ok (.iload_n 2, 1) := by decide +kernel
theorem dX8_cell_99 : decode cX8_cell 99 = .ok (.iconst 1, 1) := by decide +kernel
theorem dX8_cell_100 : decode cX8_cell 100 = .ok (.if_icmp .ne 7, 3) := by decide +kernel
theorem dX8_cell_103 : decode cX8_cell 103 = .ok (.iconst 1, 1) := by decide +kernel
theorem dX8_cell_104 : decode cX8_cell 104 = .ok (.goto 4, 3) := by decide +kernel
theorem dX8_cell_107 : decode cX8_cell 107 = .ok (.iconst 4, 1) := by decide +kernel
theorem dX8_cell_108 : decode cX8_cell 108 = .ok (.if_icmp .ne 5, 3) := by decide +kernel
theorem dX8_cell_111 : decode cX8_cell 111 = .ok (.iload_n 3, 1) := by decide +kernel
theorem dX8_cell_112 : decode cX8_cell 112 = .ok (.ireturn, 1) := by decide +kernel
theorem dX8_cell_113 : decode cX8_cell 113 = .ok (.iinc 3 1, 3) := by decide +kernel
theorem dX8_cell_116 : decode cX8_cell 116 = .ok (.goto (-42), 3) := by decide +kernel
theorem dX8_cell_119 : decode cX8_cell 119 = .ok (.iconst (-1), 1) := by decide +kernel
theorem dX8_cell_120 : decode cX8_cell 120 = .ok (.ireturn, 1) := by decide +kernel
theorem dX8_fittingWords_0 : decode cX8_fittingWords 0 = .ok (.iconst 0, 1) := by decide +kernel
theorem dX8_fittingWords_1 : decode cX8_fittingWords 1 = .ok (.istore_n 2, 1) := by decide +kernel
theorem dX8_fittingWords_2 : decode cX8_fittingWords 2 = .ok (.iconst 0, 1) := by decide +kernel
theorem dX8_fittingWords_3 : decode cX8_fittingWords 3 = .ok (.istore_n 3, 1) := by decide +kernel
theorem dX8_fittingWords_4 : decode cX8_fittingWords 4 = .ok (.iload_n 3, 1) := by decide +kernel
theorem dX8_fittingWords_5 : decode cX8_fittingWords 5 = .ok (.aload_n 0, 1) := by decide +kernel
theorem dX8_fittingWords_6 : decode cX8_fittingWords 6 = .ok (.getfield 7, 3) := by decide +kernel
theorem dX8_fittingWords_9 : decode cX8_fittingWords 9 = .ok (.bipush 16, 2) := by decide +kernel
theorem dX8_fittingWords_11 : decode cX8_fittingWords 11 = .ok (.iaload, 1) := by decide +kernel
theorem dX8_fittingWords_12 : decode cX8_fittingWords 12 = .ok (.if_icmp .ge 26, 3) := by decide +kernel
theorem dX8_fittingWords_15 : decode cX8_fittingWords 15 = .ok (.iload_n 2, 1) := by decide +kernel
theorem dX8_fittingWords_16 : decode cX8_fittingWords 16 = .ok (.aload_n 0, 1) := by decide +kernel
theorem dX8_fittingWords_17 : decode cX8_fittingWords 17 = .ok (.iload_n 3, 1) := by decide +kernel
theorem dX8_fittingWords_18 : decode cX8_fittingWords 18 = .ok (.iload_n 1, 1) := by decide +kernel
theorem dX8_fittingWords_19 : decode cX8_fittingWords 19 = .ok (.invokevirtual 127, 3) := by decide +kernel
theorem dX8_fittingWords_22 : decode cX8_fittingWords 22 = .ok (.ifCond .eq 7, 3) := by decide +kernel
theorem dX8_fittingWords_25 : decode cX8_fittingWords 25 = .ok (.iconst 1, 1) := by decide +kernel
theorem dX8_fittingWords_26 : decode cX8_fittingWords 26 = .ok (.goto 4, 3) := by decide +kernel
theorem dX8_fittingWords_29 : decode cX8_fittingWords 29 = .ok (.iconst 0, 1) := by decide +kernel
theorem dX8_fittingWords_30 : decode cX8_fittingWords 30 = .ok (.iadd, 1) := by decide +kernel
theorem dX8_fittingWords_31 : decode cX8_fittingWords 31 = .ok (.istore_n 2, 1) := by decide +kernel
theorem dX8_fittingWords_32 : decode cX8_fittingWords 32 = .ok (.iinc 3 1, 3) := by decide +kernel
theorem dX8_fittingWords_35 : decode cX8_fittingWords 35 = .ok (.goto (-31), 3) := by decide +kernel
theorem dX8_fittingWords_38 : decode cX8_fittingWords 38 = .ok (.iload_n 2, 1) := by decide +kernel
theorem dX8_fittingWords_39 : decode cX8_fittingWords 39 = .ok (.ireturn, 1) := by decide +kernel
theorem dX8_slot_0 : decode cX8_slot 0 = .ok (.aload_n 0, 1) := by decide +kernel
theorem dX8_slot_1 : decode cX8_slot 1 = .ok (.iload_n 1, 1) := by decide +kernel
theorem dX8_slot_2 : decode cX8_slot 2 = .ok (.invokevirtual 89, 3) := by decide +kernel
theorem dX8_slot_5 : decode cX8_slot 5 = .ok (.ifCond .ne 6, 3) := by decide +kernel
theorem dX8_slot_8 : decode cX8_slot 8 = .ok (.ldc 79, 2) := by decide +kernel
theorem dX8_slot_10 : decode cX8_slot 10 = .ok (.ireturn, 1) := by decide +kernel
theorem dX8_slot_11 : decode cX8_slot 11 = .ok (.iload_n 2, 1) := by decide +kernel
theorem dX8_slot_12 : decode cX8_slot 12 = .ok (.tableswitch 148 0 7 #[48, 55, 62, 78, 84, 90, 101, 123], 48) := by decide +kernel
theorem dX8_slot_60 : decode cX8_slot 60 = .ok (.aload_n 0, 1) := by decide +kernel
theorem dX8_slot_61 : decode cX8_slot 61 = .ok (.getfield 23, 3) := by decide +kernel
theorem dX8_slot_64 : decode cX8_slot 64 = .ok (.iload_n 1, 1) := by decide +kernel
theorem dX8_slot_65 : decode cX8_slot 65 = .ok (.iaload, 1) := by decide +kernel
theorem dX8_slot_66 : decode cX8_slot 66 = .ok (.ireturn, 1) := by decide +kernel
theorem dX8_slot_67 : decode cX8_slot 67 = .ok (.aload_n 0, 1) := by decide +kernel
theorem dX8_slot_68 : decode cX8_slot 68 = .ok (.getfield 26, 3) := by decide +kernel
theorem dX8_slot_71 : decode cX8_slot 71 = .ok (.iload_n 1, 1) := by decide +kernel
theorem dX8_slot_72 : decode cX8_slot 72 = .ok (.iaload, 1) := by decide +kernel
theorem dX8_slot_73 : decode cX8_slot 73 = .ok (.ireturn, 1) := by decide +kernel
theorem dX8_slot_74 : decode cX8_slot 74 = .ok (.aload_n 0, 1) := by decide +kernel
theorem dX8_slot_75 : decode cX8_slot 75 = .ok (.getfield 29, 3) := by decide +kernel
theorem dX8_slot_78 : decode cX8_slot 78 = .ok (.iload_n 1, 1) := by decide +kernel
theorem dX8_slot_79 : decode cX8_slot 79 = .ok (.iaload, 1) := by decide +kernel
theorem dX8_slot_80 : decode cX8_slot 80 = .ok (.iconst 4, 1) := by decide +kernel
theorem dX8_slot_81 : decode cX8_slot 81 = .ok (.if_icmp .ne 7, 3) := by decide +kernel
theorem dX8_slot_84 : decode cX8_slot 84 = .ok (.iconst 1, 1) := by decide +kernel
theorem dX8_slot_85 : decode cX8_slot 85 = .ok (.goto 4, 3) := by decide +kernel
theorem dX8_slot_88 : decode cX8_slot 88 = .ok (.iconst 0, 1) := by decide +kernel
theorem dX8_slot_89 : decode cX8_slot 89 = .ok (.ireturn, 1) := by decide +kernel
theorem dX8_slot_90 : decode cX8_slot 90 = .ok (.aload_n 0, 1) := by decide +kernel
theorem dX8_slot_91 : decode cX8_slot 91 = .ok (.iload_n 1, 1) := by decide +kernel
theorem dX8_slot_92 : decode cX8_slot 92 = .ok (.invokevirtual 142, 3) := by decide +kernel
theorem dX8_slot_95 : decode cX8_slot 95 = .ok (.ireturn, 1) := by decide +kernel
theorem dX8_slot_96 : decode cX8_slot 96 = .ok (.aload_n 0, 1) := by decide +kernel
theorem dX8_slot_97 : decode cX8_slot 97 = .ok (.iload_n 1, 1) := by decide +kernel
theorem dX8_slot_98 : decode cX8_slot 98 = .ok (.invokevirtual 179, 3) := by decide +kernel
theorem dX8_slot_101 : decode cX8_slot 101 = .ok (.ireturn, 1) := by decide +kernel
theorem dX8_slot_102 : decode cX8_slot 102 = .ok (.aload_n 0, 1) := by decide +kernel
theorem dX8_slot_103 : decode cX8_slot 103 = .ok (.invokevirtual 133, 3) := by decide +kernel
theorem dX8_slot_106 : decode cX8_slot 106 = .ok (.aload_n 0, 1) := by decide +kernel
theorem dX8_slot_107 : decode cX8_slot 107 = .ok (.getfield 32, 3) := by decide +kernel
theorem dX8_slot_110 : decode cX8_slot 110 = .ok (.iload_n 1, 1) := by decide +kernel
theorem dX8_slot_111 : decode cX8_slot 111 = .ok (.iaload, 1) := by decide +kernel
theorem dX8_slot_112 : decode cX8_slot 112 = .ok (.ireturn, 1) := by decide +kernel
theorem dX8_slot_113 : decode cX8_slot 113 = .ok (.aload_n 0, 1) := by decide +kernel
theorem dX8_slot_114 : decode cX8_slot 114 = .ok (.iload_n 1, 1) := by decide +kernel
theorem dX8_slot_115 : decode cX8_slot 115 = .ok (.invokevirtual 136, 3) := by decide +kernel
theorem dX8_slot_118 : decode cX8_slot 118 = .ok (.ifCond .eq 15, 3) := by decide +kernel
theorem dX8_slot_121 : decode cX8_slot 121 = .ok (.aload_n 0, 1) := by decide +kernel
theorem dX8_slot_122 : decode cX8_slot 122 = .ok (.aload_n 0, 1) := by decide +kernel
theorem dX8_slot_123 : decode cX8_slot 123 = .ok (.iload_n 1, 1) := by decide +kernel
theorem dX8_slot_124 : decode cX8_slot 124 = .ok (.invokevirtual 158, 3) := by decide +kernel
theorem dX8_slot_127 : decode cX8_slot 127 = .ok (.invokevirtual 99, 3) := by decide +kernel
theorem dX8_slot_130 : decode cX8_slot 130 = .ok (.goto 4, 3) := by decide +kernel
theorem dX8_slot_133 : decode cX8_slot 133 = .ok (.iconst (-1), 1) := by decide +kernel
theorem dX8_slot_134 : decode cX8_slot 134 = .ok (.ireturn, 1) := by decide +kernel
theorem dX8_slot_135 : decode cX8_slot 135 = .ok (.aload_n 0, 1) := by decide +kernel
theorem dX8_slot_136 : decode cX8_slot 136 = .ok (.aload_n 0, 1) := by decide +kernel
theorem dX8_slot_137 : decode cX8_slot 137 = .ok (.invokevirtual 151, 3) := by decide +kernel
theorem dX8_slot_140 : decode cX8_slot 140 = .ok (.iconst 1, 1) := by decide +kernel
theorem dX8_slot_141 : decode cX8_slot 141 = .ok (.iconst (-1), 1) := by decide +kernel
theorem dX8_slot_142 : decode cX8_slot 142 = .ok (.iconst 0, 1) := by decide +kernel
theorem dX8_slot_143 : decode cX8_slot 143 = .ok (.invokevirtual 154, 3) := by decide +kernel
theorem dX8_slot_146 : decode cX8_slot 146 = .ok (.ifCond .le 12, 3) := by decide +kernel
theorem dX8_slot_149 : decode cX8_slot 149 = .ok (.aload_n 0, 1) := by decide +kernel
theorem dX8_slot_150 : decode cX8_slot 150 = .ok (.getfield 35, 3) := by decide +kernel
theorem dX8_slot_153 : decode cX8_slot 153 = .ok (.iload_n 1, 1) := by decide +kernel
theorem dX8_slot_154 : decode cX8_slot 154 = .ok (.iaload, 1) := by decide +kernel
theorem dX8_slot_155 : decode cX8_slot 155 = .ok (.goto 4, 3) := by decide +kernel
theorem dX8_slot_158 : decode cX8_slot 158 = .ok (.iconst (-1), 1) := by decide +kernel
theorem dX8_slot_159 : decode cX8_slot 159 = .ok (.ireturn, 1) := by decide +kernel
theorem dX8_slot_160 : decode cX8_slot 160 = .ok (.ldc 88, 2) := by decide +kernel
theorem dX8_slot_162 : decode cX8_slot 162 = .ok (.ireturn, 1) := by decide +kernel
theorem dX8_ofWord_0 : decode cX8_ofWord 0 = .ok (.aload_n 0, 1) := by decide +kernel
theorem dX8_ofWord_1 : decode cX8_ofWord 1 = .ok (.invokevirtual 133, 3) := by decide +kernel
theorem dX8_ofWord_4 : decode cX8_ofWord 4 = .ok (.iconst 0, 1) := by decide +kernel
theorem dX8_ofWord_5 : decode cX8_ofWord 5 = .ok (.istore_n 3, 1) := by decide +kernel
theorem dX8_ofWord_6 : decode cX8_ofWord 6 = .ok (.iconst 0, 1) := by decide +kernel
theorem dX8_ofWord_7 : decode cX8_ofWord 7 = .ok (.istore 4, 2) := by decide +kernel
theorem dX8_ofWord_9 : decode cX8_ofWord 9 = .ok (.iconst (-1), 1) := by decide +kernel
theorem dX8_ofWord_10 : decode cX8_ofWord 10 = .ok (.istore 5, 2) := by decide +kernel
theorem dX8_ofWord_12 : decode cX8_ofWord 12 = .ok (.aload_n 0, 1) := by decide +kernel
theorem dX8_ofWord_13 : decode cX8_ofWord 13 = .ok (.getfield 45, 3) := by decide +kernel
theorem dX8_ofWord_16 : decode cX8_ofWord 16 = .ok (.iconst 1, 1) := by decide +kernel
theorem dX8_ofWord_17 : decode cX8_ofWord 17 = .ok (.isub, 1) := by decide +kernel
theorem dX8_ofWord_18 : decode cX8_ofWord 18 = .ok (.istore 6, 2) := by decide +kernel
theorem dX8_ofWord_20 : decode cX8_ofWord 20 = .ok (.iload 6, 2) := by decide +kernel
theorem dX8_ofWord_22 : decode cX8_ofWord 22 = .ok (.ifCond .lt 86, 3) := by decide +kernel
theorem dX8_ofWord_25 : decode cX8_ofWord 25 = .ok (.iload_n 3, 1) := by decide +kernel
theorem dX8_ofWord_26 : decode cX8_ofWord 26 = .ok (.aload_n 0, 1) := by decide +kernel
theorem dX8_ofWord_27 : decode cX8_ofWord 27 = .ok (.iload_n 1, 1) := by decide +kernel
theorem dX8_ofWord_28 : decode cX8_ofWord 28 = .ok (.iload 6, 2) := by decide +kernel
theorem dX8_ofWord_30 : decode cX8_ofWord 30 = .ok (.invokevirtual 127, 3) := by decide +kernel
theorem dX8_ofWord_33 : decode cX8_ofWord 33 = .ok (.ifCond .eq 7, 3) := by decide +kernel
theorem dX8_ofWord_36 : decode cX8_ofWord 36 = .ok (.iconst 1, 1) := by decide +kernel
theorem dX8_ofWord_37 : decode cX8_ofWord 37 = .ok (.goto 4, 3) := by decide +kernel
theorem dX8_ofWord_40 : decode cX8_ofWord 40 = .ok (.iconst 0, 1) := by decide +kernel
theorem dX8_ofWord_41 : decode cX8_ofWord 41 = .ok (.iadd, 1) := by decide +kernel
theorem dX8_ofWord_42 : decode cX8_ofWord 42 = .ok (.istore_n 3, 1) := by decide +kernel
theorem dX8_ofWord_43 : decode cX8_ofWord 43 = .ok (.iload 4, 2) := by decide +kernel
theorem dX8_ofWord_45 : decode cX8_ofWord 45 = .ok (.aload_n 0, 1) := by decide +kernel
theorem dX8_ofWord_46 : decode cX8_ofWord 46 = .ok (.getfield 32, 3) := by decide +kernel
theorem dX8_ofWord_49 : decode cX8_ofWord 49 = .ok (.iload 6, 2) := by decide +kernel
theorem dX8_ofWord_51 : decode cX8_ofWord 51 = .ok (.iaload, 1) := by decide +kernel
theorem dX8_ofWord_52 : decode cX8_ofWord 52 = .ok (.iload_n 1, 1) := by decide +kernel
theorem dX8_ofWord_53 : decode cX8_ofWord 53 = .ok (.invokestatic 115, 3) := by decide +kernel
theorem dX8_ofWord_56 : decode cX8_ofWord 56 = .ok (.ifCond .eq 10, 3) := by decide +kernel
theorem dX8_ofWord_59 : decode cX8_ofWord 59 = .ok (.iconst 1, 1) := by decide +kernel
theorem dX8_ofWord_60 : decode cX8_ofWord 60 = .ok (.iload 6, 2) := by decide +kernel
theorem dX8_ofWord_62 : decode cX8_ofWord 62 = .ok (.ishl, 1) := by decide +kernel
theorem dX8_ofWord_63 : decode cX8_ofWord 63 = .ok (.goto 4, 3) := by decide +kernel
theorem dX8_ofWord_66 : decode cX8_ofWord 66 = .ok (.iconst 0, 1) := by decide +kernel
theorem dX8_ofWord_67 : decode cX8_ofWord 67 = .ok (.ior, 1) := by decide +kernel
theorem dX8_ofWord_68 : decode cX8_ofWord 68 = .ok (.istore 4, 2) := by decide +kernel
theorem dX8_ofWord_70 : decode cX8_ofWord 70 = .ok (.aload_n 0, 1) := by decide +kernel
theorem dX8_ofWord_71 : decode cX8_ofWord 71 = .ok (.iload 6, 2) := by decide +kernel
theorem dX8_ofWord_73 : decode cX8_ofWord 73 = .ok (.invokevirtual 136, 3) := by decide +kernel
theorem dX8_ofWord_76 : decode cX8_ofWord 76 = .ok (.ifCond .eq 22, 3) := by decide +kernel
theorem dX8_ofWord_79 : decode cX8_ofWord 79 = .ok (.aload_n 0, 1) := by decide +kernel
theorem dX8_ofWord_80 : decode cX8_ofWord 80 = .ok (.iload 6, 2) := by decide +kernel
theorem dX8_ofWord_82 : decode cX8_ofWord 82 = .ok (.invokevirtual 158, 3) := by decide +kernel
theorem dX8_ofWord_85 : decode cX8_ofWord 85 = .ok (.aload_n 0, 1) := by decide +kernel
theorem dX8_ofWord_86 : decode cX8_ofWord 86 = .ok (.iload_n 1, 1) := by decide +kernel
theorem dX8_ofWord_87 : decode cX8_ofWord 87 = .ok (.invokevirtual 76, 3) := by decide +kernel
theorem dX8_ofWord_90 : decode cX8_ofWord 90 = .ok (.if_icmp .ne 8, 3) := by decide +kernel
theorem dX8_ofWord_93 : decode cX8_ofWord 93 = .ok (.iload 6, 2) := by decide +kernel
theorem dX8_ofWord_95 : decode cX8_ofWord 95 = .ok (.goto 5, 3) := by decide +kernel
theorem dX8_ofWord_98 : decode cX8_ofWord 98 = .ok (.iload 5, 2) := by decide +kernel
theorem dX8_ofWord_100 : decode cX8_ofWord 100 = .ok (.istore 5, 2) := by decide +kernel
theorem dX8_ofWord_102 : decode cX8_ofWord 102 = .ok (.iinc 6 (-1), 3) := by decide +kernel
theorem dX8_ofWord_105 : decode cX8_ofWord 105 = .ok (.goto (-85), 3) := by decide +kernel
theorem dX8_ofWord_108 : decode cX8_ofWord 108 = .ok (.iload_n 2, 1) := by decide +kernel
theorem dX8_ofWord_109 : decode cX8_ofWord 109 = .ok (.iconst 2, 1) := by decide +kernel
theorem dX8_ofWord_110 : decode cX8_ofWord 110 = .ok (.if_icmp .ne 7, 3) := by decide +kernel
theorem dX8_ofWord_113 : decode cX8_ofWord 113 = .ok (.iload_n 3, 1) := by decide +kernel
theorem dX8_ofWord_114 : decode cX8_ofWord 114 = .ok (.goto 15, 3) := by decide +kernel
theorem dX8_ofWord_117 : decode cX8_ofWord 117 = .ok (.iload_n 2, 1) := by decide +kernel
theorem dX8_ofWord_118 : decode cX8_ofWord 118 = .ok (.iconst 3, 1) := by decide +kernel
theorem dX8_ofWord_119 : decode cX8_ofWord 119 = .ok (.if_icmp .ne 8, 3) := by decide +kernel
theorem dX8_ofWord_122 : decode cX8_ofWord 122 = .ok (.iload 4, 2) := by decide +kernel
theorem dX8_ofWord_124 : decode cX8_ofWord 124 = .ok (.goto 5, 3) := by decide +kernel
theorem dX8_ofWord_127 : decode cX8_ofWord 127 = .ok (.iload 5, 2) := by decide +kernel
theorem dX8_ofWord_129 : decode cX8_ofWord 129 = .ok (.ireturn, 1) := by decide +kernel
theorem dX8_word_0 : decode cX8_word 0 = .ok (.aload_n 0, 1) := by decide +kernel
theorem dX8_word_1 : decode cX8_word 1 = .ok (.iload_n 1, 1) := by decide +kernel
theorem dX8_word_2 : decode cX8_word 2 = .ok (.invokevirtual 93, 3) := by decide +kernel
theorem dX8_word_5 : decode cX8_word 5 = .ok (.ifCond .ne 6, 3) := by decide +kernel
theorem dX8_word_8 : decode cX8_word 8 = .ok (.ldc 79, 2) := by decide +kernel
theorem dX8_word_10 : decode cX8_word 10 = .ok (.ireturn, 1) := by decide +kernel
theorem dX8_word_11 : decode cX8_word 11 = .ok (.iload_n 2, 1) := by decide +kernel
theorem dX8_word_12 : decode cX8_word 12 = .ok (.iconst 0, 1) := by decide +kernel
theorem dX8_word_13 : decode cX8_word 13 = .ok (.iconst 4, 1) := by decide +kernel
theorem dX8_word_14 : decode cX8_word 14 = .ok (.invokestatic 65, 3) := by decide +kernel
theorem dX8_word_17 : decode cX8_word 17 = .ok (.ifCond .ne 6, 3) := by decide +kernel
theorem dX8_word_20 : decode cX8_word 20 = .ok (.ldc 88, 2) := by decide +kernel
theorem dX8_word_22 : decode cX8_word 22 = .ok (.ireturn, 1) := by decide +kernel
theorem dX8_word_23 : decode cX8_word 23 = .ok (.iload_n 2, 1) := by decide +kernel
theorem dX8_word_24 : decode cX8_word 24 = .ok (.ifCond .ne 11, 3) := by decide +kernel
theorem dX8_word_27 : decode cX8_word 27 = .ok (.aload_n 0, 1) := by decide +kernel
theorem dX8_word_28 : decode cX8_word 28 = .ok (.iload_n 1, 1) := by decide +kernel
theorem dX8_word_29 : decode cX8_word 29 = .ok (.invokevirtual 76, 3) := by decide +kernel
theorem dX8_word_32 : decode cX8_word 32 = .ok (.goto 25, 3) := by decide +kernel
theorem dX8_word_35 : decode cX8_word 35 = .ok (.iload_n 2, 1) := by decide +kernel
theorem dX8_word_36 : decode cX8_word 36 = .ok (.iconst 1, 1) := by decide +kernel
theorem dX8_word_37 : decode cX8_word 37 = .ok (.if_icmp .ne 14, 3) := by decide +kernel
theorem dX8_word_40 : decode cX8_word 40 = .ok (.aload_n 0, 1) := by decide +kernel
theorem dX8_word_41 : decode cX8_word 41 = .ok (.iload_n 1, 1) := by decide +kernel
theorem dX8_word_42 : decode cX8_word 42 = .ok (.invokevirtual 76, 3) := by decide +kernel
theorem dX8_word_45 : decode cX8_word 45 = .ok (.invokestatic 69, 3) := by decide +kernel
theorem dX8_word_48 : decode cX8_word 48 = .ok (.goto 9, 3) := by decide +kernel
theorem dX8_word_51 : decode cX8_word 51 = .ok (.aload_n 0, 1) := by decide +kernel
theorem dX8_word_52 : decode cX8_word 52 = .ok (.iload_n 1, 1) := by decide +kernel
theorem dX8_word_53 : decode cX8_word 53 = .ok (.iload_n 2, 1) := by decide +kernel
theorem dX8_word_54 : decode cX8_word 54 = .ok (.invokevirtual 182, 3) := by decide +kernel
theorem dX8_word_57 : decode cX8_word 57 = .ok (.ireturn, 1) := by decide +kernel
theorem dX8_find_0 : decode cX8_find 0 = .ok (.iload_n 1, 1) := by decide +kernel
theorem dX8_find_1 : decode cX8_find 1 = .ok (.invokestatic 96, 3) := by decide +kernel
theorem dX8_find_4 : decode cX8_find 4 = .ok (.ifCond .eq 11, 3) := by decide +kernel
theorem dX8_find_7 : decode cX8_find 7 = .ok (.aload_n 0, 1) := by decide +kernel
theorem dX8_find_8 : decode cX8_find 8 = .ok (.iload_n 1, 1) := by decide +kernel
theorem dX8_find_9 : decode cX8_find 9 = .ok (.invokevirtual 99, 3) := by decide +kernel
theorem dX8_find_12 : decode cX8_find 12 = .ok (.goto 5, 3) := by decide +kernel
theorem dX8_find_15 : decode cX8_find 15 = .ok (.ldc 88, 2) := by decide +kernel
theorem dX8_find_17 : decode cX8_find 17 = .ok (.ireturn, 1) := by decide +kernel
theorem dX8_odds_0 : decode cX8_odds 0 = .ok (.aload_n 0, 1) := by decide +kernel
theorem dX8_odds_1 : decode cX8_odds 1 = .ok (.iload_n 1, 1) := by decide +kernel
theorem dX8_odds_2 : decode cX8_odds 2 = .ok (.invokevirtual 89, 3) := by decide +kernel
theorem dX8_odds_5 : decode cX8_odds 5 = .ok (.ifCond .eq 33, 3) := by decide +kernel
theorem dX8_odds_8 : decode cX8_odds 8 = .ok (.aload_n 0, 1) := by decide +kernel
theorem dX8_odds_9 : decode cX8_odds 9 = .ok (.iload_n 2, 1) := by decide +kernel
theorem dX8_odds_10 : decode cX8_odds 10 = .ok (.invokevirtual 93, 3) := by decide +kernel
theorem dX8_odds_13 : decode cX8_odds 13 = .ok (.ifCond .eq 25, 3) := by decide +kernel
theorem dX8_odds_16 : decode cX8_odds 16 = .ok (.aload_n 0, 1) := by decide +kernel
theorem dX8_odds_17 : decode cX8_odds 17 = .ok (.iload_n 3, 1) := by decide +kernel
theorem dX8_odds_18 : decode cX8_odds 18 = .ok (.invokevirtual 89, 3) := by decide +kernel
theorem dX8_odds_21 : decode cX8_odds 21 = .ok (.ifCond .eq 17, 3) := by decide +kernel
theorem dX8_odds_24 : decode cX8_odds 24 = .ok (.aload_n 0, 1) := by decide +kernel
theorem dX8_odds_25 : decode cX8_odds 25 = .ok (.iload 4, 2) := by decide +kernel
theorem dX8_odds_27 : decode cX8_odds 27 = .ok (.invokevirtual 93, 3) := by decide +kernel
theorem dX8_odds_30 : decode cX8_odds 30 = .ok (.ifCond .eq 8, 3) := by decide +kernel
theorem dX8_odds_33 : decode cX8_odds 33 = .ok (.iload_n 1, 1) := by decide +kernel
theorem dX8_odds_34 : decode cX8_odds 34 = .ok (.iload_n 3, 1) := by decide +kernel
theorem dX8_odds_35 : decode cX8_odds 35 = .ok (.if_icmp .ne 6, 3) := by decide +kernel
theorem dX8_odds_38 : decode cX8_odds 38 = .ok (.ldc 79, 2) := by decide +kernel
theorem dX8_odds_40 : decode cX8_odds 40 = .ok (.ireturn, 1) := by decide +kernel
theorem dX8_odds_41 : decode cX8_odds 41 = .ok (.aload_n 0, 1) := by decide +kernel
theorem dX8_odds_42 : decode cX8_odds 42 = .ok (.iload_n 1, 1) := by decide +kernel
theorem dX8_odds_43 : decode cX8_odds 43 = .ok (.iload_n 3, 1) := by decide +kernel
theorem dX8_odds_44 : decode cX8_odds 44 = .ok (.invokevirtual 59, 3) := by decide +kernel
theorem dX8_odds_47 : decode cX8_odds 47 = .ok (.istore 5, 2) := by decide +kernel
theorem dX8_odds_49 : decode cX8_odds 49 = .ok (.iload 5, 2) := by decide +kernel
theorem dX8_odds_51 : decode cX8_odds 51 = .ok (.iconst (-1), 1) := by decide +kernel
theorem dX8_odds_52 : decode cX8_odds 52 = .ok (.if_icmp .ne 5, 3) := by decide +kernel
theorem dX8_odds_55 : decode cX8_odds 55 = .ok (.iconst (-1), 1) := by decide +kernel
theorem dX8_odds_56 : decode cX8_odds 56 = .ok (.ireturn, 1) := by decide +kernel
theorem dX8_odds_57 : decode cX8_odds 57 = .ok (.aload_n 0, 1) := by decide +kernel
theorem dX8_odds_58 : decode cX8_odds 58 = .ok (.iload_n 2, 1) := by decide +kernel
theorem dX8_odds_59 : decode cX8_odds 59 = .ok (.iload_n 1, 1) := by decide +kernel
theorem dX8_odds_60 : decode cX8_odds 60 = .ok (.invokevirtual 127, 3) := by decide +kernel
theorem dX8_odds_63 : decode cX8_odds 63 = .ok (.ifCond .eq 43, 3) := by decide +kernel
theorem dX8_odds_66 : decode cX8_odds 66 = .ok (.aload_n 0, 1) := by decide +kernel
theorem dX8_odds_67 : decode cX8_odds 67 = .ok (.iload 4, 2) := by decide +kernel
theorem dX8_odds_69 : decode cX8_odds 69 = .ok (.iload_n 3, 1) := by decide +kernel
theorem dX8_odds_70 : decode cX8_odds 70 = .ok (.invokevirtual 127, 3) := by decide +kernel
theorem dX8_odds_73 : decode cX8_odds 73 = .ok (.ifCond .eq 33, 3) := by decide +kernel
theorem dX8_odds_76 : decode cX8_odds 76 = .ok (.iload_n 2, 1) := by decide +kernel
theorem dX8_odds_77 : decode cX8_odds 77 = .ok (.iload 4, 2) := by decide +kernel
theorem dX8_odds_79 : decode cX8_odds 79 = .ok (.if_icmp .eq 27, 3) := by decide +kernel
theorem dX8_odds_82 : decode cX8_odds 82 = .ok (.aload_n 0, 1) := by decide +kernel
theorem dX8_odds_83 : decode cX8_odds 83 = .ok (.iload_n 2, 1) := by decide +kernel
theorem dX8_odds_84 : decode cX8_odds 84 = .ok (.iload_n 1, 1) := by decide +kernel
theorem dX8_odds_85 : decode cX8_odds 85 = .ok (.iload 5, 2) := by decide +kernel
theorem dX8_odds_87 : decode cX8_odds 87 = .ok (.invokevirtual 119, 3) := by decide +kernel
theorem dX8_odds_90 : decode cX8_odds 90 = .ok (.aload_n 0, 1) := by decide +kernel
theorem dX8_odds_91 : decode cX8_odds 91 = .ok (.iload 4, 2) := by decide +kernel
theorem dX8_odds_93 : decode cX8_odds 93 = .ok (.iload_n 3, 1) := by decide +kernel
theorem dX8_odds_94 : decode cX8_odds 94 = .ok (.iload 5, 2) := by decide +kernel
theorem dX8_odds_96 : decode cX8_odds 96 = .ok (.invokevirtual 119, 3) := by decide +kernel
theorem dX8_odds_99 : decode cX8_odds 99 = .ok (.if_icmp .ne 7, 3) := by decide +kernel
theorem dX8_odds_102 : decode cX8_odds 102 = .ok (.iconst 1, 1) := by decide +kernel
theorem dX8_odds_103 : decode cX8_odds 103 = .ok (.goto 4, 3) := by decide +kernel
theorem dX8_odds_106 : decode cX8_odds 106 = .ok (.iconst 0, 1) := by decide +kernel
theorem dX8_odds_107 : decode cX8_odds 107 = .ok (.istore 6, 2) := by decide +kernel
theorem dX8_odds_109 : decode cX8_odds 109 = .ok (.iload 6, 2) := by decide +kernel
theorem dX8_odds_111 : decode cX8_odds 111 = .ok (.ifCond .eq 7, 3) := by decide +kernel
theorem dX8_odds_114 : decode cX8_odds 114 = .ok (.iconst 0, 1) := by decide +kernel
theorem dX8_odds_115 : decode cX8_odds 115 = .ok (.goto 4, 3) := by decide +kernel
theorem dX8_odds_118 : decode cX8_odds 118 = .ok (.iconst 1, 1) := by decide +kernel
theorem dX8_odds_119 : decode cX8_odds 119 = .ok (.ireturn, 1) := by decide +kernel
theorem dX8_with_0 : decode cX8_with 0 = .ok (.aload_n 0, 1) := by decide +kernel
theorem dX8_with_1 : decode cX8_with 1 = .ok (.iload_n 1, 1) := by decide +kernel
theorem dX8_with_2 : decode cX8_with 2 = .ok (.invokevirtual 89, 3) := by decide +kernel
theorem dX8_with_5 : decode cX8_with 5 = .ok (.ifCond .eq 11, 3) := by decide +kernel
theorem dX8_with_8 : decode cX8_with 8 = .ok (.aload_n 0, 1) := by decide +kernel
theorem dX8_with_9 : decode cX8_with 9 = .ok (.iload_n 2, 1) := by decide +kernel
theorem dX8_with_10 : decode cX8_with 10 = .ok (.invokevirtual 93, 3) := by decide +kernel
theorem dX8_with_13 : decode cX8_with 13 = .ok (.ifCond .ne 6, 3) := by decide +kernel
theorem dX8_with_16 : decode cX8_with 16 = .ok (.ldc 79, 2) := by decide +kernel
theorem dX8_with_18 : decode cX8_with 18 = .ok (.ireturn, 1) := by decide +kernel
theorem dX8_with_19 : decode cX8_with 19 = .ok (.aload_n 0, 1) := by decide +kernel
theorem dX8_with_20 : decode cX8_with 20 = .ok (.aload_n 0, 1) := by decide +kernel
theorem dX8_with_21 : decode cX8_with 21 = .ok (.invokevirtual 151, 3) := by decide +kernel
theorem dX8_with_24 : decode cX8_with 24 = .ok (.sipush 999, 3) := by decide +kernel
theorem dX8_with_27 : decode cX8_with 27 = .ok (.iload_n 1, 1) := by decide +kernel
theorem dX8_with_28 : decode cX8_with 28 = .ok (.iload_n 2, 1) := by decide +kernel
theorem dX8_with_29 : decode cX8_with 29 = .ok (.invokevirtual 154, 3) := by decide +kernel
theorem dX8_with_32 : decode cX8_with 32 = .ok (.ireturn, 1) := by decide +kernel
theorem dX8_keep_0 : decode cX8_keep 0 = .ok (.iload_n 1, 1) := by decide +kernel
theorem dX8_keep_1 : decode cX8_keep 1 = .ok (.iconst 0, 1) := by decide +kernel
theorem dX8_keep_2 : decode cX8_keep 2 = .ok (.iconst 1, 1) := by decide +kernel
theorem dX8_keep_3 : decode cX8_keep 3 = .ok (.invokestatic 65, 3) := by decide +kernel
theorem dX8_keep_6 : decode cX8_keep 6 = .ok (.ifCond .ne 6, 3) := by decide +kernel
theorem dX8_keep_9 : decode cX8_keep 9 = .ok (.ldc 79, 2) := by decide +kernel
theorem dX8_keep_11 : decode cX8_keep 11 = .ok (.ireturn, 1) := by decide +kernel
theorem dX8_keep_12 : decode cX8_keep 12 = .ok (.aload_n 0, 1) := by decide +kernel
theorem dX8_keep_13 : decode cX8_keep 13 = .ok (.getfield 16, 3) := by decide +kernel
theorem dX8_keep_16 : decode cX8_keep 16 = .ok (.iload_n 1, 1) := by decide +kernel
theorem dX8_keep_17 : decode cX8_keep 17 = .ok (.iconst 1, 1) := by decide +kernel
theorem dX8_keep_18 : decode cX8_keep 18 = .ok (.bastore, 1) := by decide +kernel
theorem dX8_keep_19 : decode cX8_keep 19 = .ok (.iconst 0, 1) := by decide +kernel
theorem dX8_keep_20 : decode cX8_keep 20 = .ok (.istore_n 2, 1) := by decide +kernel
theorem dX8_keep_21 : decode cX8_keep 21 = .ok (.iload_n 2, 1) := by decide +kernel
theorem dX8_keep_22 : decode cX8_keep 22 = .ok (.bipush 33, 2) := by decide +kernel
theorem dX8_keep_24 : decode cX8_keep 24 = .ok (.if_icmp .ge 26, 3) := by decide +kernel
theorem dX8_keep_27 : decode cX8_keep 27 = .ok (.aload_n 0, 1) := by decide +kernel
theorem dX8_keep_28 : decode cX8_keep 28 = .ok (.getfield 20, 3) := by decide +kernel
theorem dX8_keep_31 : decode cX8_keep 31 = .ok (.bipush 33, 2) := by decide +kernel
theorem dX8_keep_33 : decode cX8_keep 33 = .ok (.iload_n 1, 1) := by decide +kernel
theorem dX8_keep_34 : decode cX8_keep 34 = .ok (.imul, 1) := by decide +kernel
theorem dX8_keep_35 : decode cX8_keep 35 = .ok (.iload_n 2, 1) := by decide +kernel
theorem dX8_keep_36 : decode cX8_keep 36 = .ok (.iadd, 1) := by decide +kernel
theorem dX8_keep_37 : decode cX8_keep 37 = .ok (.aload_n 0, 1) := by decide +kernel
theorem dX8_keep_38 : decode cX8_keep 38 = .ok (.getfield 7, 3) := by decide +kernel
theorem dX8_keep_41 : decode cX8_keep 41 = .ok (.iload_n 2, 1) := by decide +kernel
theorem dX8_keep_42 : decode cX8_keep 42 = .ok (.iaload, 1) := by decide +kernel
theorem dX8_keep_43 : decode cX8_keep 43 = .ok (.iastore, 1) := by decide +kernel
theorem dX8_keep_44 : decode cX8_keep 44 = .ok (.iinc 2 1, 3) := by decide +kernel
theorem dX8_keep_47 : decode cX8_keep 47 = .ok (.goto (-26), 3) := by decide +kernel
theorem dX8_keep_50 : decode cX8_keep 50 = .ok (.aload_n 0, 1) := by decide +kernel
theorem dX8_keep_51 : decode cX8_keep 51 = .ok (.iconst 0, 1) := by decide +kernel
theorem dX8_keep_52 : decode cX8_keep 52 = .ok (.putfield 42, 3) := by decide +kernel
theorem dX8_keep_55 : decode cX8_keep 55 = .ok (.aload_n 0, 1) := by decide +kernel
theorem dX8_keep_56 : decode cX8_keep 56 = .ok (.getfield 7, 3) := by decide +kernel
theorem dX8_keep_59 : decode cX8_keep 59 = .ok (.bipush 16, 2) := by decide +kernel
theorem dX8_keep_61 : decode cX8_keep 61 = .ok (.iaload, 1) := by decide +kernel
theorem dX8_keep_62 : decode cX8_keep 62 = .ok (.ireturn, 1) := by decide +kernel
theorem dX8_goBack_0 : decode cX8_goBack 0 = .ok (.iload_n 1, 1) := by decide +kernel
theorem dX8_goBack_1 : decode cX8_goBack 1 = .ok (.iconst 0, 1) := by decide +kernel
theorem dX8_goBack_2 : decode cX8_goBack 2 = .ok (.iconst 1, 1) := by decide +kernel
theorem dX8_goBack_3 : decode cX8_goBack 3 = .ok (.invokestatic 65, 3) := by decide +kernel
theorem dX8_goBack_6 : decode cX8_goBack 6 = .ok (.ifCond .ne 6, 3) := by decide +kernel
theorem dX8_goBack_9 : decode cX8_goBack 9 = .ok (.ldc 79, 2) := by decide +kernel
theorem dX8_goBack_11 : decode cX8_goBack 11 = .ok (.ireturn, 1) := by decide +kernel
theorem dX8_goBack_12 : decode cX8_goBack 12 = .ok (.aload_n 0, 1) := by decide +kernel
theorem dX8_goBack_13 : decode cX8_goBack 13 = .ok (.getfield 16, 3) := by decide +kernel
theorem dX8_goBack_16 : decode cX8_goBack 16 = .ok (.iload_n 1, 1) := by decide +kernel
theorem dX8_goBack_17 : decode cX8_goBack 17 = .ok (.baload, 1) := by decide +kernel
theorem dX8_goBack_18 : decode cX8_goBack 18 = .ok (.ifCond .ne 6, 3) := by decide +kernel
theorem dX8_goBack_21 : decode cX8_goBack 21 = .ok (.ldc 80, 2) := by decide +kernel
theorem dX8_goBack_23 : decode cX8_goBack 23 = .ok (.ireturn, 1) := by decide +kernel
theorem dX8_goBack_24 : decode cX8_goBack 24 = .ok (.iconst 0, 1) := by decide +kernel
theorem dX8_goBack_25 : decode cX8_goBack 25 = .ok (.istore_n 2, 1) := by decide +kernel
theorem dX8_goBack_26 : decode cX8_goBack 26 = .ok (.iload_n 2, 1) := by decide +kernel
theorem dX8_goBack_27 : decode cX8_goBack 27 = .ok (.bipush 33, 2) := by decide +kernel
theorem dX8_goBack_29 : decode cX8_goBack 29 = .ok (.if_icmp .ge 26, 3) := by decide +kernel
theorem dX8_goBack_32 : decode cX8_goBack 32 = .ok (.aload_n 0, 1) := by decide +kernel
theorem dX8_goBack_33 : decode cX8_goBack 33 = .ok (.getfield 7, 3) := by decide +kernel
theorem dX8_goBack_36 : decode cX8_goBack 36 = .ok (.iload_n 2, 1) := by decide +kernel
theorem dX8_goBack_37 : decode cX8_goBack 37 = .ok (.aload_n 0, 1) := by decide +kernel
theorem dX8_goBack_38 : decode cX8_goBack 38 = .ok (.getfield 20, 3) := by decide +kernel
theorem dX8_goBack_41 : decode cX8_goBack 41 = .ok (.bipush 33, 2) := by decide +kernel
theorem dX8_goBack_43 : decode cX8_goBack 43 = .ok (.iload_n 1, 1) := by decide +kernel
theorem dX8_goBack_44 : decode cX8_goBack 44 = .ok (.imul, 1) := by decide +kernel
theorem dX8_goBack_45 : decode cX8_goBack 45 = .ok (.iload_n 2, 1) := by decide +kernel
theorem dX8_goBack_46 : decode cX8_goBack 46 = .ok (.iadd, 1) := by decide +kernel
theorem dX8_goBack_47 : decode cX8_goBack 47 = .ok (.iaload, 1) := by decide +kernel
theorem dX8_goBack_48 : decode cX8_goBack 48 = .ok (.iastore, 1) := by decide +kernel
theorem dX8_goBack_49 : decode cX8_goBack 49 = .ok (.iinc 2 1, 3) := by decide +kernel
theorem dX8_goBack_52 : decode cX8_goBack 52 = .ok (.goto (-26), 3) := by decide +kernel
theorem dX8_goBack_55 : decode cX8_goBack 55 = .ok (.aload_n 0, 1) := by decide +kernel
theorem dX8_goBack_56 : decode cX8_goBack 56 = .ok (.iconst 0, 1) := by decide +kernel
theorem dX8_goBack_57 : decode cX8_goBack 57 = .ok (.putfield 42, 3) := by decide +kernel
theorem dX8_goBack_60 : decode cX8_goBack 60 = .ok (.aload_n 0, 1) := by decide +kernel
theorem dX8_goBack_61 : decode cX8_goBack 61 = .ok (.getfield 7, 3) := by decide +kernel
theorem dX8_goBack_64 : decode cX8_goBack 64 = .ok (.bipush 16, 2) := by decide +kernel
theorem dX8_goBack_66 : decode cX8_goBack 66 = .ok (.iaload, 1) := by decide +kernel
theorem dX8_goBack_67 : decode cX8_goBack 67 = .ok (.ireturn, 1) := by decide +kernel
theorem dJ6_bitCount_0f7a4_0 : decode cJ6_bitCount_0f7a4 0 = .ok (.iload_n 0, 1) := by decide +kernel
theorem dJ6_bitCount_0f7a4_1 : decode cJ6_bitCount_0f7a4 1 = .ok (.iload_n 0, 1) := by decide +kernel
theorem dJ6_bitCount_0f7a4_2 : decode cJ6_bitCount_0f7a4 2 = .ok (.iconst 1, 1) := by decide +kernel
theorem dJ6_bitCount_0f7a4_3 : decode cJ6_bitCount_0f7a4 3 = .ok (.iushr, 1) := by decide +kernel
theorem dJ6_bitCount_0f7a4_4 : decode cJ6_bitCount_0f7a4 4 = .ok (.ldc_w 265, 3) := by decide +kernel
theorem dJ6_bitCount_0f7a4_7 : decode cJ6_bitCount_0f7a4 7 = .ok (.iand, 1) := by decide +kernel
theorem dJ6_bitCount_0f7a4_8 : decode cJ6_bitCount_0f7a4 8 = .ok (.isub, 1) := by decide +kernel
theorem dJ6_bitCount_0f7a4_9 : decode cJ6_bitCount_0f7a4 9 = .ok (.istore_n 0, 1) := by decide +kernel
theorem dJ6_bitCount_0f7a4_10 : decode cJ6_bitCount_0f7a4 10 = .ok (.iload_n 0, 1) := by decide +kernel
theorem dJ6_bitCount_0f7a4_11 : decode cJ6_bitCount_0f7a4 11 = .ok (.ldc_w 266, 3) := by decide +kernel
theorem dJ6_bitCount_0f7a4_14 : decode cJ6_bitCount_0f7a4 14 = .ok (.iand, 1) := by decide +kernel
theorem dJ6_bitCount_0f7a4_15 : decode cJ6_bitCount_0f7a4 15 = .ok (.iload_n 0, 1) := by decide +kernel
theorem dJ6_bitCount_0f7a4_16 : decode cJ6_bitCount_0f7a4 16 = .ok (.iconst 2, 1) := by decide +kernel
theorem dJ6_bitCount_0f7a4_17 : decode cJ6_bitCount_0f7a4 17 = .ok (.iushr, 1) := by decide +kernel
theorem dJ6_bitCount_0f7a4_18 : decode cJ6_bitCount_0f7a4 18 = .ok (.ldc_w 266, 3) := by decide +kernel
theorem dJ6_bitCount_0f7a4_21 : decode cJ6_bitCount_0f7a4 21 = .ok (.iand, 1) := by decide +kernel
theorem dJ6_bitCount_0f7a4_22 : decode cJ6_bitCount_0f7a4 22 = .ok (.iadd, 1) := by decide +kernel
theorem dJ6_bitCount_0f7a4_23 : decode cJ6_bitCount_0f7a4 23 = .ok (.istore_n 0, 1) := by decide +kernel
theorem dJ6_bitCount_0f7a4_24 : decode cJ6_bitCount_0f7a4 24 = .ok (.iload_n 0, 1) := by decide +kernel
theorem dJ6_bitCount_0f7a4_25 : decode cJ6_bitCount_0f7a4 25 = .ok (.iload_n 0, 1) := by decide +kernel
theorem dJ6_bitCount_0f7a4_26 : decode cJ6_bitCount_0f7a4 26 = .ok (.iconst 4, 1) := by decide +kernel
theorem dJ6_bitCount_0f7a4_27 : decode cJ6_bitCount_0f7a4 27 = .ok (.iushr, 1) := by decide +kernel
theorem dJ6_bitCount_0f7a4_28 : decode cJ6_bitCount_0f7a4 28 = .ok (.iadd, 1) := by decide +kernel
theorem dJ6_bitCount_0f7a4_29 : decode cJ6_bitCount_0f7a4 29 = .ok (.ldc_w 267, 3) := by decide +kernel
theorem dJ6_bitCount_0f7a4_32 : decode cJ6_bitCount_0f7a4 32 = .ok (.iand, 1) := by decide +kernel
theorem dJ6_bitCount_0f7a4_33 : decode cJ6_bitCount_0f7a4 33 = .ok (.istore_n 0, 1) := by decide +kernel
theorem dJ6_bitCount_0f7a4_34 : decode cJ6_bitCount_0f7a4 34 = .ok (.iload_n 0, 1) := by decide +kernel
theorem dJ6_bitCount_0f7a4_35 : decode cJ6_bitCount_0f7a4 35 = .ok (.iload_n 0, 1) := by decide +kernel
theorem dJ6_bitCount_0f7a4_36 : decode cJ6_bitCount_0f7a4 36 = .ok (.bipush 8, 2) := by decide +kernel
theorem dJ6_bitCount_0f7a4_38 : decode cJ6_bitCount_0f7a4 38 = .ok (.iushr, 1) := by decide +kernel
theorem dJ6_bitCount_0f7a4_39 : decode cJ6_bitCount_0f7a4 39 = .ok (.iadd, 1) := by decide +kernel
theorem dJ6_bitCount_0f7a4_40 : decode cJ6_bitCount_0f7a4 40 = .ok (.istore_n 0, 1) := by decide +kernel
theorem dJ6_bitCount_0f7a4_41 : decode cJ6_bitCount_0f7a4 41 = .ok (.iload_n 0, 1) := by decide +kernel
theorem dJ6_bitCount_0f7a4_42 : decode cJ6_bitCount_0f7a4 42 = .ok (.iload_n 0, 1) := by decide +kernel
theorem dJ6_bitCount_0f7a4_43 : decode cJ6_bitCount_0f7a4 43 = .ok (.bipush 16, 2) := by decide +kernel
theorem dJ6_bitCount_0f7a4_45 : decode cJ6_bitCount_0f7a4 45 = .ok (.iushr, 1) := by decide +kernel
theorem dJ6_bitCount_0f7a4_46 : decode cJ6_bitCount_0f7a4 46 = .ok (.iadd, 1) := by decide +kernel
theorem dJ6_bitCount_0f7a4_47 : decode cJ6_bitCount_0f7a4 47 = .ok (.istore_n 0, 1) := by decide +kernel
theorem dJ6_bitCount_0f7a4_48 : decode cJ6_bitCount_0f7a4 48 = .ok (.iload_n 0, 1) := by decide +kernel
theorem dJ6_bitCount_0f7a4_49 : decode cJ6_bitCount_0f7a4 49 = .ok (.bipush 63, 2) := by decide +kernel
theorem dJ6_bitCount_0f7a4_51 : decode cJ6_bitCount_0f7a4 51 = .ok (.iand, 1) := by decide +kernel
theorem dJ6_bitCount_0f7a4_52 : decode cJ6_bitCount_0f7a4 52 = .ok (.ireturn, 1) := by decide +kernel
theorem dJ9_max_7cf53_0 : decode cJ9_max_7cf53 0 = .ok (.iload_n 0, 1) := by decide +kernel
theorem dJ9_max_7cf53_1 : decode cJ9_max_7cf53 1 = .ok (.iload_n 1, 1) := by decide +kernel
theorem dJ9_max_7cf53_2 : decode cJ9_max_7cf53 2 = .ok (.if_icmp .lt 7, 3) := by decide +kernel
theorem dJ9_max_7cf53_5 : decode cJ9_max_7cf53 5 = .ok (.iload_n 0, 1) := by decide +kernel
theorem dJ9_max_7cf53_6 : decode cJ9_max_7cf53 6 = .ok (.goto 4, 3) := by decide +kernel
theorem dJ9_max_7cf53_9 : decode cJ9_max_7cf53 9 = .ok (.iload_n 1, 1) := by decide +kernel
theorem dJ9_max_7cf53_10 : decode cJ9_max_7cf53 10 = .ok (.ireturn, 1) := by decide +kernel
theorem dJ9_min_7cf53_0 : decode cJ9_min_7cf53 0 = .ok (.iload_n 0, 1) := by decide +kernel
theorem dJ9_min_7cf53_1 : decode cJ9_min_7cf53 1 = .ok (.iload_n 1, 1) := by decide +kernel
theorem dJ9_min_7cf53_2 : decode cJ9_min_7cf53 2 = .ok (.if_icmp .gt 7, 3) := by decide +kernel
theorem dJ9_min_7cf53_5 : decode cJ9_min_7cf53 5 = .ok (.iload_n 0, 1) := by decide +kernel
theorem dJ9_min_7cf53_6 : decode cJ9_min_7cf53 6 = .ok (.goto 4, 3) := by decide +kernel
theorem dJ9_min_7cf53_9 : decode cJ9_min_7cf53 9 = .ok (.iload_n 1, 1) := by decide +kernel
theorem dJ9_min_7cf53_10 : decode cJ9_min_7cf53 10 = .ok (.ireturn, 1) := by decide +kernel
theorem dL_law_0 : decode cL_law 0 = .ok (.new 7, 3) := by decide +kernel
theorem dL_law_3 : decode cL_law 3 = .ok (.dup, 1) := by decide +kernel
theorem dL_law_4 : decode cL_law 4 = .ok (.invokespecial 9, 3) := by decide +kernel
theorem dL_law_7 : decode cL_law 7 = .ok (.astore_n 1, 1) := by decide +kernel
theorem dL_law_8 : decode cL_law 8 = .ok (.new 10, 3) := by decide +kernel
theorem dL_law_11 : decode cL_law 11 = .ok (.dup, 1) := by decide +kernel
theorem dL_law_12 : decode cL_law 12 = .ok (.invokespecial 12, 3) := by decide +kernel
theorem dL_law_15 : decode cL_law 15 = .ok (.astore_n 2, 1) := by decide +kernel
theorem dL_law_16 : decode cL_law 16 = .ok (.iconst 0, 1) := by decide +kernel
theorem dL_law_17 : decode cL_law 17 = .ok (.istore_n 3, 1) := by decide +kernel
theorem dL_law_18 : decode cL_law 18 = .ok (.iload_n 3, 1) := by decide +kernel
theorem dL_law_19 : decode cL_law 19 = .ok (.aload_n 0, 1) := by decide +kernel
theorem dL_law_20 : decode cL_law 20 = .ok (.arraylength, 1) := by decide +kernel
theorem dL_law_21 : decode cL_law 21 = .ok (.iconst 5, 1) := by decide +kernel
theorem dL_law_22 : decode cL_law 22 = .ok (.isub, 1) := by decide +kernel
theorem dL_law_23 : decode cL_law 23 = .ok (.if_icmp .gt 614, 3) := by decide +kernel
theorem dL_law_26 : decode cL_law 26 = .ok (.aload_n 0, 1) := by decide +kernel
theorem dL_law_27 : decode cL_law 27 = .ok (.iload_n 3, 1) := by decide +kernel
theorem dL_law_28 : decode cL_law 28 = .ok (.iaload, 1) := by decide +kernel
theorem dL_law_29 : decode cL_law 29 = .ok (.bipush 31, 2) := by decide +kernel
theorem dL_law_31 : decode cL_law 31 = .ok (.iand, 1) := by decide +kernel
theorem dL_law_32 : decode cL_law 32 = .ok (.tableswitch 599 0 18 #[92, 115, 138, 171, 204, 217, 230, 253, 276, 309, 322, 345, 378, 411, 444, 467, 520, 553, 576], 92) := by decide +kernel
theorem dL_law_124 : decode cL_law 124 = .ok (.aload_n 1, 1) := by decide +kernel
theorem dL_law_125 : decode cL_law 125 = .ok (.aload_n 0, 1) := by decide +kernel
theorem dL_law_126 : decode cL_law 126 = .ok (.iload_n 3, 1) := by decide +kernel
theorem dL_law_127 : decode cL_law 127 = .ok (.iconst 1, 1) := by decide +kernel
theorem dL_law_128 : decode cL_law 128 = .ok (.iadd, 1) := by decide +kernel
theorem dL_law_129 : decode cL_law 129 = .ok (.iaload, 1) := by decide +kernel
theorem dL_law_130 : decode cL_law 130 = .ok (.invokevirtual 13, 3) := by decide +kernel
theorem dL_law_133 : decode cL_law 133 = .ok (.aload_n 2, 1) := by decide +kernel
theorem dL_law_134 : decode cL_law 134 = .ok (.aload_n 0, 1) := by decide +kernel
theorem dL_law_135 : decode cL_law 135 = .ok (.iload_n 3, 1) := by decide +kernel
theorem dL_law_136 : decode cL_law 136 = .ok (.iconst 1, 1) := by decide +kernel
theorem dL_law_137 : decode cL_law 137 = .ok (.iadd, 1) := by decide +kernel
theorem dL_law_138 : decode cL_law 138 = .ok (.iaload, 1) := by decide +kernel
theorem dL_law_139 : decode cL_law 139 = .ok (.invokevirtual 17, 3) := by decide +kernel
theorem dL_law_142 : decode cL_law 142 = .ok (.if_icmp .eq 489, 3) := by decide +kernel
theorem dL_law_145 : decode cL_law 145 = .ok (.iconst 0, 1) := by decide +kernel
theorem dL_law_146 : decode cL_law 146 = .ok (.ireturn, 1) := by decide +kernel
theorem dL_law_147 : decode cL_law 147 = .ok (.aload_n 1, 1) := by decide +kernel
theorem dL_law_148 : decode cL_law 148 = .ok (.aload_n 0, 1) := by decide +kernel
theorem dL_law_149 : decode cL_law 149 = .ok (.iload_n 3, 1) := by decide +kernel
theorem dL_law_150 : decode cL_law 150 = .ok (.iconst 1, 1) := by decide +kernel
theorem dL_law_151 : decode cL_law 151 = .ok (.iadd, 1) := by decide +kernel
theorem dL_law_152 : decode cL_law 152 = .ok (.iaload, 1) := by decide +kernel
theorem dL_law_153 : decode cL_law 153 = .ok (.invokevirtual 18, 3) := by decide +kernel
theorem dL_law_156 : decode cL_law 156 = .ok (.aload_n 2, 1) := by decide +kernel
theorem dL_law_157 : decode cL_law 157 = .ok (.aload_n 0, 1) := by decide +kernel
theorem dL_law_158 : decode cL_law 158 = .ok (.iload_n 3, 1) := by decide +kernel
theorem dL_law_159 : decode cL_law 159 = .ok (.iconst 1, 1) := by decide +kernel
theorem dL_law_160 : decode cL_law 160 = .ok (.iadd, 1) := by decide +kernel
theorem dL_law_161 : decode cL_law 161 = .ok (.iaload, 1) := by decide +kernel
theorem dL_law_162 : decode cL_law 162 = .ok (.invokevirtual 21, 3) := by decide +kernel
theorem dL_law_165 : decode cL_law 165 = .ok (.if_icmp .eq 466, 3) := by decide +kernel
theorem dL_law_168 : decode cL_law 168 = .ok (.iconst 0, 1) := by decide +kernel
theorem dL_law_169 : decode cL_law 169 = .ok (.ireturn, 1) := by decide +kernel
theorem dL_law_170 : decode cL_law 170 = .ok (.aload_n 1, 1) := by decide +kernel
theorem dL_law_171 : decode cL_law 171 = .ok (.aload_n 0, 1) := by decide +kernel
theorem dL_law_172 : decode cL_law 172 = .ok (.iload_n 3, 1) := by decide +kernel
theorem dL_law_173 : decode cL_law 173 = .ok (.iconst 1, 1) := by decide +kernel
theorem dL_law_174 : decode cL_law 174 = .ok (.iadd, 1) := by decide +kernel
theorem dL_law_175 : decode cL_law 175 = .ok (.iaload, 1) := by decide +kernel
theorem dL_law_176 : decode cL_law 176 = .ok (.aload_n 0, 1) := by decide +kernel
theorem dL_law_177 : decode cL_law 177 = .ok (.iload_n 3, 1) := by decide +kernel
theorem dL_law_178 : decode cL_law 178 = .ok (.iconst 2, 1) := by decide +kernel
theorem dL_law_179 : decode cL_law 179 = .ok (.iadd, 1) := by decide +kernel
theorem dL_law_180 : decode cL_law 180 = .ok (.iaload, 1) := by decide +kernel
theorem dL_law_181 : decode cL_law 181 = .ok (.invokevirtual 22, 3) := by decide +kernel
theorem dL_law_184 : decode cL_law 184 = .ok (.aload_n 2, 1) := by decide +kernel
theorem dL_law_185 : decode cL_law 185 = .ok (.aload_n 0, 1) := by decide +kernel
theorem dL_law_186 : decode cL_law 186 = .ok (.iload_n 3, 1) := by decide +kernel
theorem dL_law_187 : decode cL_law 187 = .ok (.iconst 1, 1) := by decide +kernel
theorem dL_law_188 : decode cL_law 188 = .ok (.iadd, 1) := by decide +kernel
theorem dL_law_189 : decode cL_law 189 = .ok (.iaload, 1) := by decide +kernel
theorem dL_law_190 : decode cL_law 190 = .ok (.aload_n 0, 1) := by decide +kernel
theorem dL_law_191 : decode cL_law 191 = .ok (.iload_n 3, 1) := by decide +kernel
theorem dL_law_192 : decode cL_law 192 = .ok (.iconst 2, 1) := by decide +kernel
theorem dL_law_193 : decode cL_law 193 = .ok (.iadd, 1) := by decide +kernel
theorem dL_law_194 : decode cL_law 194 = .ok (.iaload, 1) := by decide +kernel
theorem dL_law_195 : decode cL_law 195 = .ok (.invokevirtual 26, 3) := by decide +kernel
theorem dL_law_198 : decode cL_law 198 = .ok (.if_icmp .eq 433, 3) := by decide +kernel
theorem dL_law_201 : decode cL_law 201 = .ok (.iconst 0, 1) := by decide +kernel
theorem dL_law_202 : decode cL_law 202 = .ok (.ireturn, 1) := by decide +kernel
theorem dL_law_203 : decode cL_law 203 = .ok (.aload_n 1, 1) := by decide +kernel
theorem dL_law_204 : decode cL_law 204 = .ok (.aload_n 0, 1) := by decide +kernel
theorem dL_law_205 : decode cL_law 205 = .ok (.iload_n 3, 1) := by decide +kernel
theorem dL_law_206 : decode cL_law 206 = .ok (.iconst 1, 1) := by decide +kernel
theorem dL_law_207 : decode cL_law 207 = .ok (.iadd, 1) := by decide +kernel
theorem dL_law_208 : decode cL_law 208 = .ok (.iaload, 1) := by decide +kernel
theorem dL_law_209 : decode cL_law 209 = .ok (.aload_n 0, 1) := by decide +kernel
theorem dL_law_210 : decode cL_law 210 = .ok (.iload_n 3, 1) := by decide +kernel
theorem dL_law_211 : decode cL_law 211 = .ok (.iconst 2, 1) := by decide +kernel
theorem dL_law_212 : decode cL_law 212 = .ok (.iadd, 1) := by decide +kernel
theorem dL_law_213 : decode cL_law 213 = .ok (.iaload, 1) := by decide +kernel
theorem dL_law_214 : decode cL_law 214 = .ok (.invokevirtual 27, 3) := by decide +kernel
theorem dL_law_217 : decode cL_law 217 = .ok (.aload_n 2, 1) := by decide +kernel
theorem dL_law_218 : decode cL_law 218 = .ok (.aload_n 0, 1) := by decide +kernel
theorem dL_law_219 : decode cL_law 219 = .ok (.iload_n 3, 1) := by decide +kernel
theorem dL_law_220 : decode cL_law 220 = .ok (.iconst 1, 1) := by decide +kernel
theorem dL_law_221 : decode cL_law 221 = .ok (.iadd, 1) := by decide +kernel
theorem dL_law_222 : decode cL_law 222 = .ok (.iaload, 1) := by decide +kernel
theorem dL_law_223 : decode cL_law 223 = .ok (.aload_n 0, 1) := by decide +kernel
theorem dL_law_224 : decode cL_law 224 = .ok (.iload_n 3, 1) := by decide +kernel
theorem dL_law_225 : decode cL_law 225 = .ok (.iconst 2, 1) := by decide +kernel
theorem dL_law_226 : decode cL_law 226 = .ok (.iadd, 1) := by decide +kernel
theorem dL_law_227 : decode cL_law 227 = .ok (.iaload, 1) := by decide +kernel
theorem dL_law_228 : decode cL_law 228 = .ok (.invokevirtual 30, 3) := by decide +kernel
theorem dL_law_231 : decode cL_law 231 = .ok (.if_icmp .eq 400, 3) := by decide +kernel
theorem dL_law_234 : decode cL_law 234 = .ok (.iconst 0, 1) := by decide +kernel
theorem dL_law_235 : decode cL_law 235 = .ok (.ireturn, 1) := by decide +kernel
theorem dL_law_236 : decode cL_law 236 = .ok (.aload_n 1, 1) := by decide +kernel
theorem dL_law_237 : decode cL_law 237 = .ok (.invokevirtual 31, 3) := by decide +kernel
theorem dL_law_240 : decode cL_law 240 = .ok (.aload_n 2, 1) := by decide +kernel
theorem dL_law_241 : decode cL_law 241 = .ok (.invokevirtual 35, 3) := by decide +kernel
theorem dL_law_244 : decode cL_law 244 = .ok (.if_icmp .eq 387, 3) := by decide +kernel
theorem dL_law_247 : decode cL_law 247 = .ok (.iconst 0, 1) := by decide +kernel
theorem dL_law_248 : decode cL_law 248 = .ok (.ireturn, 1) := by decide +kernel
theorem dL_law_249 : decode cL_law 249 = .ok (.aload_n 1, 1) := by decide +kernel
theorem dL_law_250 : decode cL_law 250 = .ok (.invokevirtual 36, 3) := by decide +kernel
theorem dL_law_253 : decode cL_law 253 = .ok (.aload_n 2, 1) := by decide +kernel
theorem dL_law_254 : decode cL_law 254 = .ok (.invokevirtual 39, 3) := by decide +kernel
theorem dL_law_257 : decode cL_law 257 = .ok (.if_icmp .eq 374, 3) := by decide +kernel
theorem dL_law_260 : decode cL_law 260 = .ok (.iconst 0, 1) := by decide +kernel
theorem dL_law_261 : decode cL_law 261 = .ok (.ireturn, 1) := by decide +kernel
theorem dL_law_262 : decode cL_law 262 = .ok (.aload_n 1, 1) := by decide +kernel
theorem dL_law_263 : decode cL_law 263 = .ok (.aload_n 0, 1) := by decide +kernel
theorem dL_law_264 : decode cL_law 264 = .ok (.iload_n 3, 1) := by decide +kernel
theorem dL_law_265 : decode cL_law 265 = .ok (.iconst 1, 1) := by decide +kernel
theorem dL_law_266 : decode cL_law 266 = .ok (.iadd, 1) := by decide +kernel
theorem dL_law_267 : decode cL_law 267 = .ok (.iaload, 1) := by decide +kernel
theorem dL_law_268 : decode cL_law 268 = .ok (.invokevirtual 40, 3) := by decide +kernel
theorem dL_law_271 : decode cL_law 271 = .ok (.aload_n 2, 1) := by decide +kernel
theorem dL_law_272 : decode cL_law 272 = .ok (.aload_n 0, 1) := by decide +kernel
theorem dL_law_273 : decode cL_law 273 = .ok (.iload_n 3, 1) := by decide +kernel
theorem dL_law_274 : decode cL_law 274 = .ok (.iconst 1, 1) := by decide +kernel
theorem dL_law_275 : decode cL_law 275 = .ok (.iadd, 1) := by decide +kernel
theorem dL_law_276 : decode cL_law 276 = .ok (.iaload, 1) := by decide +kernel
theorem dL_law_277 : decode cL_law 277 = .ok (.invokevirtual 43, 3) := by decide +kernel
theorem dL_law_280 : decode cL_law 280 = .ok (.if_icmp .eq 351, 3) := by decide +kernel
theorem dL_law_283 : decode cL_law 283 = .ok (.iconst 0, 1) := by decide +kernel
theorem dL_law_284 : decode cL_law 284 = .ok (.ireturn, 1) := by decide +kernel
theorem dL_law_285 : decode cL_law 285 = .ok (.aload_n 1, 1) := by decide +kernel
theorem dL_law_286 : decode cL_law 286 = .ok (.aload_n 0, 1) := by decide +kernel
theorem dL_law_287 : decode cL_law 287 = .ok (.iload_n 3, 1) := by decide +kernel
theorem dL_law_288 : decode cL_law 288 = .ok (.iconst 1, 1) := by decide +kernel
theorem dL_law_289 : decode cL_law 289 = .ok (.iadd, 1) := by decide +kernel
theorem dL_law_290 : decode cL_law 290 = .ok (.iaload, 1) := by decide +kernel
theorem dL_law_291 : decode cL_law 291 = .ok (.invokevirtual 44, 3) := by decide +kernel
theorem dL_law_294 : decode cL_law 294 = .ok (.aload_n 2, 1) := by decide +kernel
theorem dL_law_295 : decode cL_law 295 = .ok (.aload_n 0, 1) := by decide +kernel
theorem dL_law_296 : decode cL_law 296 = .ok (.iload_n 3, 1) := by decide +kernel
theorem dL_law_297 : decode cL_law 297 = .ok (.iconst 1, 1) := by decide +kernel
theorem dL_law_298 : decode cL_law 298 = .ok (.iadd, 1) := by decide +kernel
theorem dL_law_299 : decode cL_law 299 = .ok (.iaload, 1) := by decide +kernel
theorem dL_law_300 : decode cL_law 300 = .ok (.invokevirtual 47, 3) := by decide +kernel
theorem dL_law_303 : decode cL_law 303 = .ok (.if_icmp .eq 328, 3) := by decide +kernel
theorem dL_law_306 : decode cL_law 306 = .ok (.iconst 0, 1) := by decide +kernel
theorem dL_law_307 : decode cL_law 307 = .ok (.ireturn, 1) := by decide +kernel
theorem dL_law_308 : decode cL_law 308 = .ok (.aload_n 1, 1) := by decide +kernel
theorem dL_law_309 : decode cL_law 309 = .ok (.aload_n 0, 1) := by decide +kernel
theorem dL_law_310 : decode cL_law 310 = .ok (.iload_n 3, 1) := by decide +kernel
theorem dL_law_311 : decode cL_law 311 = .ok (.iconst 1, 1) := by decide +kernel
theorem dL_law_312 : decode cL_law 312 = .ok (.iadd, 1) := by decide +kernel
theorem dL_law_313 : decode cL_law 313 = .ok (.iaload, 1) := by decide +kernel
theorem dL_law_314 : decode cL_law 314 = .ok (.aload_n 0, 1) := by decide +kernel
theorem dL_law_315 : decode cL_law 315 = .ok (.iload_n 3, 1) := by decide +kernel
theorem dL_law_316 : decode cL_law 316 = .ok (.iconst 2, 1) := by decide +kernel
theorem dL_law_317 : decode cL_law 317 = .ok (.iadd, 1) := by decide +kernel
theorem dL_law_318 : decode cL_law 318 = .ok (.iaload, 1) := by decide +kernel
theorem dL_law_319 : decode cL_law 319 = .ok (.invokevirtual 48, 3) := by decide +kernel
theorem dL_law_322 : decode cL_law 322 = .ok (.aload_n 2, 1) := by decide +kernel
theorem dL_law_323 : decode cL_law 323 = .ok (.aload_n 0, 1) := by decide +kernel
theorem dL_law_324 : decode cL_law 324 = .ok (.iload_n 3, 1) := by decide +kernel
theorem dL_law_325 : decode cL_law 325 = .ok (.iconst 1, 1) := by decide +kernel
theorem dL_law_326 : decode cL_law 326 = .ok (.iadd, 1) := by decide +kernel
theorem dL_law_327 : decode cL_law 327 = .ok (.iaload, 1) := by decide +kernel
theorem dL_law_328 : decode cL_law 328 = .ok (.aload_n 0, 1) := by decide +kernel
theorem dL_law_329 : decode cL_law 329 = .ok (.iload_n 3, 1) := by decide +kernel
theorem dL_law_330 : decode cL_law 330 = .ok (.iconst 2, 1) := by decide +kernel
theorem dL_law_331 : decode cL_law 331 = .ok (.iadd, 1) := by decide +kernel
theorem dL_law_332 : decode cL_law 332 = .ok (.iaload, 1) := by decide +kernel
theorem dL_law_333 : decode cL_law 333 = .ok (.invokevirtual 51, 3) := by decide +kernel
theorem dL_law_336 : decode cL_law 336 = .ok (.if_icmp .eq 295, 3) := by decide +kernel
theorem dL_law_339 : decode cL_law 339 = .ok (.iconst 0, 1) := by decide +kernel
theorem dL_law_340 : decode cL_law 340 = .ok (.ireturn, 1) := by decide +kernel
theorem dL_law_341 : decode cL_law 341 = .ok (.aload_n 1, 1) := by decide +kernel
theorem dL_law_342 : decode cL_law 342 = .ok (.invokevirtual 52, 3) := by decide +kernel
theorem dL_law_345 : decode cL_law 345 = .ok (.aload_n 2, 1) := by decide +kernel
theorem dL_law_346 : decode cL_law 346 = .ok (.invokevirtual 55, 3) := by decide +kernel
theorem dL_law_349 : decode cL_law 349 = .ok (.if_icmp .eq 282, 3) := by decide +kernel
theorem dL_law_352 : decode cL_law 352 = .ok (.iconst 0, 1) := by decide +kernel
theorem dL_law_353 : decode cL_law 353 = .ok (.ireturn, 1) := by decide +kernel
theorem dL_law_354 : decode cL_law 354 = .ok (.aload_n 1, 1) := by decide +kernel
theorem dL_law_355 : decode cL_law 355 = .ok (.aload_n 0, 1) := by decide +kernel
theorem dL_law_356 : decode cL_law 356 = .ok (.iload_n 3, 1) := by decide +kernel
theorem dL_law_357 : decode cL_law 357 = .ok (.iconst 1, 1) := by decide +kernel
theorem dL_law_358 : decode cL_law 358 = .ok (.iadd, 1) := by decide +kernel
theorem dL_law_359 : decode cL_law 359 = .ok (.iaload, 1) := by decide +kernel
theorem dL_law_360 : decode cL_law 360 = .ok (.invokevirtual 56, 3) := by decide +kernel
theorem dL_law_363 : decode cL_law 363 = .ok (.aload_n 2, 1) := by decide +kernel
theorem dL_law_364 : decode cL_law 364 = .ok (.aload_n 0, 1) := by decide +kernel
theorem dL_law_365 : decode cL_law 365 = .ok (.iload_n 3, 1) := by decide +kernel
theorem dL_law_366 : decode cL_law 366 = .ok (.iconst 1, 1) := by decide +kernel
theorem dL_law_367 : decode cL_law 367 = .ok (.iadd, 1) := by decide +kernel
theorem dL_law_368 : decode cL_law 368 = .ok (.iaload, 1) := by decide +kernel
theorem dL_law_369 : decode cL_law 369 = .ok (.invokevirtual 59, 3) := by decide +kernel
theorem dL_law_372 : decode cL_law 372 = .ok (.if_icmp .eq 259, 3) := by decide +kernel
theorem dL_law_375 : decode cL_law 375 = .ok (.iconst 0, 1) := by decide +kernel
theorem dL_law_376 : decode cL_law 376 = .ok (.ireturn, 1) := by decide +kernel
theorem dL_law_377 : decode cL_law 377 = .ok (.aload_n 1, 1) := by decide +kernel
theorem dL_law_378 : decode cL_law 378 = .ok (.aload_n 0, 1) := by decide +kernel
theorem dL_law_379 : decode cL_law 379 = .ok (.iload_n 3, 1) := by decide +kernel
theorem dL_law_380 : decode cL_law 380 = .ok (.iconst 1, 1) := by decide +kernel
theorem dL_law_381 : decode cL_law 381 = .ok (.iadd, 1) := by decide +kernel
theorem dL_law_382 : decode cL_law 382 = .ok (.iaload, 1) := by decide +kernel
theorem dL_law_383 : decode cL_law 383 = .ok (.aload_n 0, 1) := by decide +kernel
theorem dL_law_384 : decode cL_law 384 = .ok (.iload_n 3, 1) := by decide +kernel
theorem dL_law_385 : decode cL_law 385 = .ok (.iconst 2, 1) := by decide +kernel
theorem dL_law_386 : decode cL_law 386 = .ok (.iadd, 1) := by decide +kernel
theorem dL_law_387 : decode cL_law 387 = .ok (.iaload, 1) := by decide +kernel
theorem dL_law_388 : decode cL_law 388 = .ok (.invokevirtual 60, 3) := by decide +kernel
theorem dL_law_391 : decode cL_law 391 = .ok (.aload_n 2, 1) := by decide +kernel
theorem dL_law_392 : decode cL_law 392 = .ok (.aload_n 0, 1) := by decide +kernel
theorem dL_law_393 : decode cL_law 393 = .ok (.iload_n 3, 1) := by decide +kernel
theorem dL_law_394 : decode cL_law 394 = .ok (.iconst 1, 1) := by decide +kernel
theorem dL_law_395 : decode cL_law 395 = .ok (.iadd, 1) := by decide +kernel
theorem dL_law_396 : decode cL_law 396 = .ok (.iaload, 1) := by decide +kernel
theorem dL_law_397 : decode cL_law 397 = .ok (.aload_n 0, 1) := by decide +kernel
theorem dL_law_398 : decode cL_law 398 = .ok (.iload_n 3, 1) := by decide +kernel
theorem dL_law_399 : decode cL_law 399 = .ok (.iconst 2, 1) := by decide +kernel
theorem dL_law_400 : decode cL_law 400 = .ok (.iadd, 1) := by decide +kernel
theorem dL_law_401 : decode cL_law 401 = .ok (.iaload, 1) := by decide +kernel
theorem dL_law_402 : decode cL_law 402 = .ok (.invokevirtual 63, 3) := by decide +kernel
theorem dL_law_405 : decode cL_law 405 = .ok (.if_icmp .eq 226, 3) := by decide +kernel
theorem dL_law_408 : decode cL_law 408 = .ok (.iconst 0, 1) := by decide +kernel
theorem dL_law_409 : decode cL_law 409 = .ok (.ireturn, 1) := by decide +kernel
theorem dL_law_410 : decode cL_law 410 = .ok (.aload_n 1, 1) := by decide +kernel
theorem dL_law_411 : decode cL_law 411 = .ok (.aload_n 0, 1) := by decide +kernel
theorem dL_law_412 : decode cL_law 412 = .ok (.iload_n 3, 1) := by decide +kernel
theorem dL_law_413 : decode cL_law 413 = .ok (.iconst 1, 1) := by decide +kernel
theorem dL_law_414 : decode cL_law 414 = .ok (.iadd, 1) := by decide +kernel
theorem dL_law_415 : decode cL_law 415 = .ok (.iaload, 1) := by decide +kernel
theorem dL_law_416 : decode cL_law 416 = .ok (.aload_n 0, 1) := by decide +kernel
theorem dL_law_417 : decode cL_law 417 = .ok (.iload_n 3, 1) := by decide +kernel
theorem dL_law_418 : decode cL_law 418 = .ok (.iconst 2, 1) := by decide +kernel
theorem dL_law_419 : decode cL_law 419 = .ok (.iadd, 1) := by decide +kernel
theorem dL_law_420 : decode cL_law 420 = .ok (.iaload, 1) := by decide +kernel
theorem dL_law_421 : decode cL_law 421 = .ok (.invokevirtual 64, 3) := by decide +kernel
theorem dL_law_424 : decode cL_law 424 = .ok (.aload_n 2, 1) := by decide +kernel
theorem dL_law_425 : decode cL_law 425 = .ok (.aload_n 0, 1) := by decide +kernel
theorem dL_law_426 : decode cL_law 426 = .ok (.iload_n 3, 1) := by decide +kernel
theorem dL_law_427 : decode cL_law 427 = .ok (.iconst 1, 1) := by decide +kernel
theorem dL_law_428 : decode cL_law 428 = .ok (.iadd, 1) := by decide +kernel
theorem dL_law_429 : decode cL_law 429 = .ok (.iaload, 1) := by decide +kernel
theorem dL_law_430 : decode cL_law 430 = .ok (.aload_n 0, 1) := by decide +kernel
theorem dL_law_431 : decode cL_law 431 = .ok (.iload_n 3, 1) := by decide +kernel
theorem dL_law_432 : decode cL_law 432 = .ok (.iconst 2, 1) := by decide +kernel
theorem dL_law_433 : decode cL_law 433 = .ok (.iadd, 1) := by decide +kernel
theorem dL_law_434 : decode cL_law 434 = .ok (.iaload, 1) := by decide +kernel
theorem dL_law_435 : decode cL_law 435 = .ok (.invokevirtual 67, 3) := by decide +kernel
theorem dL_law_438 : decode cL_law 438 = .ok (.if_icmp .eq 193, 3) := by decide +kernel
theorem dL_law_441 : decode cL_law 441 = .ok (.iconst 0, 1) := by decide +kernel
theorem dL_law_442 : decode cL_law 442 = .ok (.ireturn, 1) := by decide +kernel
theorem dL_law_443 : decode cL_law 443 = .ok (.aload_n 1, 1) := by decide +kernel
theorem dL_law_444 : decode cL_law 444 = .ok (.aload_n 0, 1) := by decide +kernel
theorem dL_law_445 : decode cL_law 445 = .ok (.iload_n 3, 1) := by decide +kernel
theorem dL_law_446 : decode cL_law 446 = .ok (.iconst 1, 1) := by decide +kernel
theorem dL_law_447 : decode cL_law 447 = .ok (.iadd, 1) := by decide +kernel
theorem dL_law_448 : decode cL_law 448 = .ok (.iaload, 1) := by decide +kernel
theorem dL_law_449 : decode cL_law 449 = .ok (.aload_n 0, 1) := by decide +kernel
theorem dL_law_450 : decode cL_law 450 = .ok (.iload_n 3, 1) := by decide +kernel
theorem dL_law_451 : decode cL_law 451 = .ok (.iconst 2, 1) := by decide +kernel
theorem dL_law_452 : decode cL_law 452 = .ok (.iadd, 1) := by decide +kernel
theorem dL_law_453 : decode cL_law 453 = .ok (.iaload, 1) := by decide +kernel
theorem dL_law_454 : decode cL_law 454 = .ok (.invokevirtual 68, 3) := by decide +kernel
theorem dL_law_457 : decode cL_law 457 = .ok (.aload_n 2, 1) := by decide +kernel
theorem dL_law_458 : decode cL_law 458 = .ok (.aload_n 0, 1) := by decide +kernel
theorem dL_law_459 : decode cL_law 459 = .ok (.iload_n 3, 1) := by decide +kernel
theorem dL_law_460 : decode cL_law 460 = .ok (.iconst 1, 1) := by decide +kernel
theorem dL_law_461 : decode cL_law 461 = .ok (.iadd, 1) := by decide +kernel
theorem dL_law_462 : decode cL_law 462 = .ok (.iaload, 1) := by decide +kernel
theorem dL_law_463 : decode cL_law 463 = .ok (.aload_n 0, 1) := by decide +kernel
theorem dL_law_464 : decode cL_law 464 = .ok (.iload_n 3, 1) := by decide +kernel
theorem dL_law_465 : decode cL_law 465 = .ok (.iconst 2, 1) := by decide +kernel
theorem dL_law_466 : decode cL_law 466 = .ok (.iadd, 1) := by decide +kernel
theorem dL_law_467 : decode cL_law 467 = .ok (.iaload, 1) := by decide +kernel
theorem dL_law_468 : decode cL_law 468 = .ok (.invokevirtual 71, 3) := by decide +kernel
theorem dL_law_471 : decode cL_law 471 = .ok (.if_icmp .eq 160, 3) := by decide +kernel
theorem dL_law_474 : decode cL_law 474 = .ok (.iconst 0, 1) := by decide +kernel
theorem dL_law_475 : decode cL_law 475 = .ok (.ireturn, 1) := by decide +kernel
theorem dL_law_476 : decode cL_law 476 = .ok (.aload_n 1, 1) := by decide +kernel
theorem dL_law_477 : decode cL_law 477 = .ok (.aload_n 0, 1) := by decide +kernel
theorem dL_law_478 : decode cL_law 478 = .ok (.iload_n 3, 1) := by decide +kernel
theorem dL_law_479 : decode cL_law 479 = .ok (.iconst 1, 1) := by decide +kernel
theorem dL_law_480 : decode cL_law 480 = .ok (.iadd, 1) := by decide +kernel
theorem dL_law_481 : decode cL_law 481 = .ok (.iaload, 1) := by decide +kernel
theorem dL_law_482 : decode cL_law 482 = .ok (.invokevirtual 72, 3) := by decide +kernel
theorem dL_law_485 : decode cL_law 485 = .ok (.aload_n 2, 1) := by decide +kernel
theorem dL_law_486 : decode cL_law 486 = .ok (.aload_n 0, 1) := by decide +kernel
theorem dL_law_487 : decode cL_law 487 = .ok (.iload_n 3, 1) := by decide +kernel
theorem dL_law_488 : decode cL_law 488 = .ok (.iconst 1, 1) := by decide +kernel
theorem dL_law_489 : decode cL_law 489 = .ok (.iadd, 1) := by decide +kernel
theorem dL_law_490 : decode cL_law 490 = .ok (.iaload, 1) := by decide +kernel
theorem dL_law_491 : decode cL_law 491 = .ok (.invokevirtual 75, 3) := by decide +kernel
theorem dL_law_494 : decode cL_law 494 = .ok (.if_icmp .eq 137, 3) := by decide +kernel
theorem dL_law_497 : decode cL_law 497 = .ok (.iconst 0, 1) := by decide +kernel
theorem dL_law_498 : decode cL_law 498 = .ok (.ireturn, 1) := by decide +kernel
theorem dL_law_499 : decode cL_law 499 = .ok (.aload_n 1, 1) := by decide +kernel
theorem dL_law_500 : decode cL_law 500 = .ok (.aload_n 0, 1) := by decide +kernel
theorem dL_law_501 : decode cL_law 501 = .ok (.iload_n 3, 1) := by decide +kernel
theorem dL_law_502 : decode cL_law 502 = .ok (.iconst 1, 1) := by decide +kernel
theorem dL_law_503 : decode cL_law 503 = .ok (.iadd, 1) := by decide +kernel
theorem dL_law_504 : decode cL_law 504 = .ok (.iaload, 1) := by decide +kernel
theorem dL_law_505 : decode cL_law 505 = .ok (.aload_n 0, 1) := by decide +kernel
theorem dL_law_506 : decode cL_law 506 = .ok (.iload_n 3, 1) := by decide +kernel
theorem dL_law_507 : decode cL_law 507 = .ok (.iconst 2, 1) := by decide +kernel
theorem dL_law_508 : decode cL_law 508 = .ok (.iadd, 1) := by decide +kernel
theorem dL_law_509 : decode cL_law 509 = .ok (.iaload, 1) := by decide +kernel
theorem dL_law_510 : decode cL_law 510 = .ok (.aload_n 0, 1) := by decide +kernel
theorem dL_law_511 : decode cL_law 511 = .ok (.iload_n 3, 1) := by decide +kernel
theorem dL_law_512 : decode cL_law 512 = .ok (.iconst 3, 1) := by decide +kernel
theorem dL_law_513 : decode cL_law 513 = .ok (.iadd, 1) := by decide +kernel
theorem dL_law_514 : decode cL_law 514 = .ok (.iaload, 1) := by decide +kernel
theorem dL_law_515 : decode cL_law 515 = .ok (.aload_n 0, 1) := by decide +kernel
theorem dL_law_516 : decode cL_law 516 = .ok (.iload_n 3, 1) := by decide +kernel
theorem dL_law_517 : decode cL_law 517 = .ok (.iconst 4, 1) := by decide +kernel
theorem dL_law_518 : decode cL_law 518 = .ok (.iadd, 1) := by decide +kernel
theorem dL_law_519 : decode cL_law 519 = .ok (.iaload, 1) := by decide +kernel
theorem dL_law_520 : decode cL_law 520 = .ok (.invokevirtual 76, 3) := by decide +kernel
theorem dL_law_523 : decode cL_law 523 = .ok (.aload_n 2, 1) := by decide +kernel
theorem dL_law_524 : decode cL_law 524 = .ok (.aload_n 0, 1) := by decide +kernel
theorem dL_law_525 : decode cL_law 525 = .ok (.iload_n 3, 1) := by decide +kernel
theorem dL_law_526 : decode cL_law 526 = .ok (.iconst 1, 1) := by decide +kernel
theorem dL_law_527 : decode cL_law 527 = .ok (.iadd, 1) := by decide +kernel
theorem dL_law_528 : decode cL_law 528 = .ok (.iaload, 1) := by decide +kernel
theorem dL_law_529 : decode cL_law 529 = .ok (.aload_n 0, 1) := by decide +kernel
theorem dL_law_530 : decode cL_law 530 = .ok (.iload_n 3, 1) := by decide +kernel
theorem dL_law_531 : decode cL_law 531 = .ok (.iconst 2, 1) := by decide +kernel
theorem dL_law_532 : decode cL_law 532 = .ok (.iadd, 1) := by decide +kernel
theorem dL_law_533 : decode cL_law 533 = .ok (.iaload, 1) := by decide +kernel
theorem dL_law_534 : decode cL_law 534 = .ok (.aload_n 0, 1) := by decide +kernel
theorem dL_law_535 : decode cL_law 535 = .ok (.iload_n 3, 1) := by decide +kernel
theorem dL_law_536 : decode cL_law 536 = .ok (.iconst 3, 1) := by decide +kernel
theorem dL_law_537 : decode cL_law 537 = .ok (.iadd, 1) := by decide +kernel
theorem dL_law_538 : decode cL_law 538 = .ok (.iaload, 1) := by decide +kernel
theorem dL_law_539 : decode cL_law 539 = .ok (.aload_n 0, 1) := by decide +kernel
theorem dL_law_540 : decode cL_law 540 = .ok (.iload_n 3, 1) := by decide +kernel
theorem dL_law_541 : decode cL_law 541 = .ok (.iconst 4, 1) := by decide +kernel
theorem dL_law_542 : decode cL_law 542 = .ok (.iadd, 1) := by decide +kernel
theorem dL_law_543 : decode cL_law 543 = .ok (.iaload, 1) := by decide +kernel
theorem dL_law_544 : decode cL_law 544 = .ok (.invokevirtual 80, 3) := by decide +kernel
theorem dL_law_547 : decode cL_law 547 = .ok (.if_icmp .eq 84, 3) := by decide +kernel
theorem dL_law_550 : decode cL_law 550 = .ok (.iconst 0, 1) := by decide +kernel
theorem dL_law_551 : decode cL_law 551 = .ok (.ireturn, 1) := by decide +kernel
theorem dL_law_552 : decode cL_law 552 = .ok (.aload_n 1, 1) := by decide +kernel
theorem dL_law_553 : decode cL_law 553 = .ok (.aload_n 0, 1) := by decide +kernel
theorem dL_law_554 : decode cL_law 554 = .ok (.iload_n 3, 1) := by decide +kernel
theorem dL_law_555 : decode cL_law 555 = .ok (.iconst 1, 1) := by decide +kernel
theorem dL_law_556 : decode cL_law 556 = .ok (.iadd, 1) := by decide +kernel
theorem dL_law_557 : decode cL_law 557 = .ok (.iaload, 1) := by decide +kernel
theorem dL_law_558 : decode cL_law 558 = .ok (.aload_n 0, 1) := by decide +kernel
theorem dL_law_559 : decode cL_law 559 = .ok (.iload_n 3, 1) := by decide +kernel
theorem dL_law_560 : decode cL_law 560 = .ok (.iconst 2, 1) := by decide +kernel
theorem dL_law_561 : decode cL_law 561 = .ok (.iadd, 1) := by decide +kernel
theorem dL_law_562 : decode cL_law 562 = .ok (.iaload, 1) := by decide +kernel
theorem dL_law_563 : decode cL_law 563 = .ok (.invokevirtual 81, 3) := by decide +kernel
theorem dL_law_566 : decode cL_law 566 = .ok (.aload_n 2, 1) := by decide +kernel
theorem dL_law_567 : decode cL_law 567 = .ok (.aload_n 0, 1) := by decide +kernel
theorem dL_law_568 : decode cL_law 568 = .ok (.iload_n 3, 1) := by decide +kernel
theorem dL_law_569 : decode cL_law 569 = .ok (.iconst 1, 1) := by decide +kernel
theorem dL_law_570 : decode cL_law 570 = .ok (.iadd, 1) := by decide +kernel
theorem dL_law_571 : decode cL_law 571 = .ok (.iaload, 1) := by decide +kernel
theorem dL_law_572 : decode cL_law 572 = .ok (.aload_n 0, 1) := by decide +kernel
theorem dL_law_573 : decode cL_law 573 = .ok (.iload_n 3, 1) := by decide +kernel
theorem dL_law_574 : decode cL_law 574 = .ok (.iconst 2, 1) := by decide +kernel
theorem dL_law_575 : decode cL_law 575 = .ok (.iadd, 1) := by decide +kernel
theorem dL_law_576 : decode cL_law 576 = .ok (.iaload, 1) := by decide +kernel
theorem dL_law_577 : decode cL_law 577 = .ok (.invokevirtual 84, 3) := by decide +kernel
theorem dL_law_580 : decode cL_law 580 = .ok (.if_icmp .eq 51, 3) := by decide +kernel
theorem dL_law_583 : decode cL_law 583 = .ok (.iconst 0, 1) := by decide +kernel
theorem dL_law_584 : decode cL_law 584 = .ok (.ireturn, 1) := by decide +kernel
theorem dL_law_585 : decode cL_law 585 = .ok (.aload_n 1, 1) := by decide +kernel
theorem dL_law_586 : decode cL_law 586 = .ok (.aload_n 0, 1) := by decide +kernel
theorem dL_law_587 : decode cL_law 587 = .ok (.iload_n 3, 1) := by decide +kernel
theorem dL_law_588 : decode cL_law 588 = .ok (.iconst 1, 1) := by decide +kernel
theorem dL_law_589 : decode cL_law 589 = .ok (.iadd, 1) := by decide +kernel
theorem dL_law_590 : decode cL_law 590 = .ok (.iaload, 1) := by decide +kernel
theorem dL_law_591 : decode cL_law 591 = .ok (.invokevirtual 85, 3) := by decide +kernel
theorem dL_law_594 : decode cL_law 594 = .ok (.aload_n 2, 1) := by decide +kernel
theorem dL_law_595 : decode cL_law 595 = .ok (.aload_n 0, 1) := by decide +kernel
theorem dL_law_596 : decode cL_law 596 = .ok (.iload_n 3, 1) := by decide +kernel
theorem dL_law_597 : decode cL_law 597 = .ok (.iconst 1, 1) := by decide +kernel
theorem dL_law_598 : decode cL_law 598 = .ok (.iadd, 1) := by decide +kernel
theorem dL_law_599 : decode cL_law 599 = .ok (.iaload, 1) := by decide +kernel
theorem dL_law_600 : decode cL_law 600 = .ok (.invokevirtual 88, 3) := by decide +kernel
theorem dL_law_603 : decode cL_law 603 = .ok (.if_icmp .eq 28, 3) := by decide +kernel
theorem dL_law_606 : decode cL_law 606 = .ok (.iconst 0, 1) := by decide +kernel
theorem dL_law_607 : decode cL_law 607 = .ok (.ireturn, 1) := by decide +kernel
theorem dL_law_608 : decode cL_law 608 = .ok (.aload_n 1, 1) := by decide +kernel
theorem dL_law_609 : decode cL_law 609 = .ok (.aload_n 0, 1) := by decide +kernel
theorem dL_law_610 : decode cL_law 610 = .ok (.iload_n 3, 1) := by decide +kernel
theorem dL_law_611 : decode cL_law 611 = .ok (.iconst 1, 1) := by decide +kernel
theorem dL_law_612 : decode cL_law 612 = .ok (.iadd, 1) := by decide +kernel
theorem dL_law_613 : decode cL_law 613 = .ok (.iaload, 1) := by decide +kernel
theorem dL_law_614 : decode cL_law 614 = .ok (.invokevirtual 89, 3) := by decide +kernel
theorem dL_law_617 : decode cL_law 617 = .ok (.aload_n 2, 1) := by decide +kernel
theorem dL_law_618 : decode cL_law 618 = .ok (.aload_n 0, 1) := by decide +kernel
theorem dL_law_619 : decode cL_law 619 = .ok (.iload_n 3, 1) := by decide +kernel
theorem dL_law_620 : decode cL_law 620 = .ok (.iconst 1, 1) := by decide +kernel
theorem dL_law_621 : decode cL_law 621 = .ok (.iadd, 1) := by decide +kernel
theorem dL_law_622 : decode cL_law 622 = .ok (.iaload, 1) := by decide +kernel
theorem dL_law_623 : decode cL_law 623 = .ok (.invokevirtual 92, 3) := by decide +kernel
theorem dL_law_626 : decode cL_law 626 = .ok (.if_icmp .eq 5, 3) := by decide +kernel
theorem dL_law_629 : decode cL_law 629 = .ok (.iconst 0, 1) := by decide +kernel
theorem dL_law_630 : decode cL_law 630 = .ok (.ireturn, 1) := by decide +kernel
theorem dL_law_631 : decode cL_law 631 = .ok (.iinc 3 5, 3) := by decide +kernel
theorem dL_law_634 : decode cL_law 634 = .ok (.goto (-616), 3) := by decide +kernel
theorem dL_law_637 : decode cL_law 637 = .ok (.iconst 1, 1) := by decide +kernel
theorem dL_law_638 : decode cL_law 638 = .ok (.ireturn, 1) := by decide +kernel
