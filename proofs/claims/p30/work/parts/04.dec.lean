theorem dX0_init_0 : decode cX0_init 0 = .ok (.aload_n 0, 1) := by decide +kernel
theorem dX0_init_1 : decode cX0_init 1 = .ok (.invokespecial 3, 3) := by decide +kernel
theorem dX0_init_4 : decode cX0_init 4 = .ok (.aload_n 0, 1) := by decide +kernel
theorem dX0_init_5 : decode cX0_init 5 = .ok (.bipush 12, 2) := by decide +kernel
theorem dX0_init_7 : decode cX0_init 7 = .ok (.newarray .int, 2) := by decide +kernel
theorem dX0_init_9 : decode cX0_init 9 = .ok (.putfield 9, 3) := by decide +kernel
theorem dX0_init_12 : decode cX0_init 12 = .ok (.aload_n 0, 1) := by decide +kernel
theorem dX0_init_13 : decode cX0_init 13 = .ok (.bipush 12, 2) := by decide +kernel
theorem dX0_init_15 : decode cX0_init 15 = .ok (.newarray .int, 2) := by decide +kernel
theorem dX0_init_17 : decode cX0_init 17 = .ok (.putfield 15, 3) := by decide +kernel
theorem dX0_init_20 : decode cX0_init 20 = .ok (.aload_n 0, 1) := by decide +kernel
theorem dX0_init_21 : decode cX0_init 21 = .ok (.sipush 1188, 3) := by decide +kernel
theorem dX0_init_24 : decode cX0_init 24 = .ok (.newarray .int, 2) := by decide +kernel
theorem dX0_init_26 : decode cX0_init 26 = .ok (.putfield 18, 3) := by decide +kernel
theorem dX0_init_29 : decode cX0_init 29 = .ok (.return_, 1) := by decide +kernel
theorem dX0_add_0 : decode cX0_add 0 = .ok (.aload_n 0, 1) := by decide +kernel
theorem dX0_add_1 : decode cX0_add 1 = .ok (.dup, 1) := by decide +kernel
theorem dX0_add_2 : decode cX0_add 2 = .ok (.getfield 21, 3) := by decide +kernel
theorem dX0_add_5 : decode cX0_add 5 = .ok (.iconst 1, 1) := by decide +kernel
theorem dX0_add_6 : decode cX0_add 6 = .ok (.iadd, 1) := by decide +kernel
theorem dX0_add_7 : decode cX0_add 7 = .ok (.putfield 21, 3) := by decide +kernel
theorem dX0_add_10 : decode cX0_add 10 = .ok (.aload_n 0, 1) := by decide +kernel
theorem dX0_add_11 : decode cX0_add 11 = .ok (.getfield 21, 3) := by decide +kernel
theorem dX0_add_14 : decode cX0_add 14 = .ok (.iconst 1, 1) := by decide +kernel
theorem dX0_add_15 : decode cX0_add 15 = .ok (.isub, 1) := by decide +kernel
theorem dX0_add_16 : decode cX0_add 16 = .ok (.ireturn, 1) := by decide +kernel
theorem dX0_stateOf_0 : decode cX0_stateOf 0 = .ok (.aload_n 0, 1) := by decide +kernel
theorem dX0_stateOf_1 : decode cX0_stateOf 1 = .ok (.getfield 9, 3) := by decide +kernel
theorem dX0_stateOf_4 : decode cX0_stateOf 4 = .ok (.iload_n 1, 1) := by decide +kernel
theorem dX0_stateOf_5 : decode cX0_stateOf 5 = .ok (.invokestatic 25, 3) := by decide +kernel
theorem dX0_stateOf_8 : decode cX0_stateOf 8 = .ok (.ireturn, 1) := by decide +kernel
theorem dX0_isApproved_0 : decode cX0_isApproved 0 = .ok (.aload_n 0, 1) := by decide +kernel
theorem dX0_isApproved_1 : decode cX0_isApproved 1 = .ok (.getfield 15, 3) := by decide +kernel
theorem dX0_isApproved_4 : decode cX0_isApproved 4 = .ok (.iload_n 1, 1) := by decide +kernel
theorem dX0_isApproved_5 : decode cX0_isApproved 5 = .ok (.invokestatic 25, 3) := by decide +kernel
theorem dX0_isApproved_8 : decode cX0_isApproved 8 = .ok (.iconst 1, 1) := by decide +kernel
theorem dX0_isApproved_9 : decode cX0_isApproved 9 = .ok (.if_icmp .ne 7, 3) := by decide +kernel
theorem dX0_isApproved_12 : decode cX0_isApproved 12 = .ok (.iconst 1, 1) := by decide +kernel
theorem dX0_isApproved_13 : decode cX0_isApproved 13 = .ok (.goto 4, 3) := by decide +kernel
theorem dX0_isApproved_16 : decode cX0_isApproved 16 = .ok (.iconst 0, 1) := by decide +kernel
theorem dX0_isApproved_17 : decode cX0_isApproved 17 = .ok (.ireturn, 1) := by decide +kernel
theorem dX0_setApproved_0 : decode cX0_setApproved 0 = .ok (.aload_n 0, 1) := by decide +kernel
theorem dX0_setApproved_1 : decode cX0_setApproved 1 = .ok (.getfield 15, 3) := by decide +kernel
theorem dX0_setApproved_4 : decode cX0_setApproved 4 = .ok (.iload_n 1, 1) := by decide +kernel
theorem dX0_setApproved_5 : decode cX0_setApproved 5 = .ok (.iload_n 2, 1) := by decide +kernel
theorem dX0_setApproved_6 : decode cX0_setApproved 6 = .ok (.ifCond .eq 7, 3) := by decide +kernel
theorem dX0_setApproved_9 : decode cX0_setApproved 9 = .ok (.iconst 1, 1) := by decide +kernel
theorem dX0_setApproved_10 : decode cX0_setApproved 10 = .ok (.goto 4, 3) := by decide +kernel
theorem dX0_setApproved_13 : decode cX0_setApproved 13 = .ok (.iconst 0, 1) := by decide +kernel
theorem dX0_setApproved_14 : decode cX0_setApproved 14 = .ok (.invokestatic 29, 3) := by decide +kernel
theorem dX0_setApproved_17 : decode cX0_setApproved 17 = .ok (.return_, 1) := by decide +kernel
theorem dX0_noteCorrection_0 : decode cX0_noteCorrection 0 = .ok (.aload_n 0, 1) := by decide +kernel
theorem dX0_noteCorrection_1 : decode cX0_noteCorrection 1 = .ok (.getfield 9, 3) := by decide +kernel
theorem dX0_noteCorrection_4 : decode cX0_noteCorrection 4 = .ok (.iload_n 1, 1) := by decide +kernel
theorem dX0_noteCorrection_5 : decode cX0_noteCorrection 5 = .ok (.aload_n 0, 1) := by decide +kernel
theorem dX0_noteCorrection_6 : decode cX0_noteCorrection 6 = .ok (.iload_n 1, 1) := by decide +kernel
theorem dX0_noteCorrection_7 : decode cX0_noteCorrection 7 = .ok (.invokevirtual 33, 3) := by decide +kernel
theorem dX0_noteCorrection_10 : decode cX0_noteCorrection 10 = .ok (.iconst 1, 1) := by decide +kernel
theorem dX0_noteCorrection_11 : decode cX0_noteCorrection 11 = .ok (.iadd, 1) := by decide +kernel
theorem dX0_noteCorrection_12 : decode cX0_noteCorrection 12 = .ok (.invokestatic 29, 3) := by decide +kernel
theorem dX0_noteCorrection_15 : decode cX0_noteCorrection 15 = .ok (.aload_n 0, 1) := by decide +kernel
theorem dX0_noteCorrection_16 : decode cX0_noteCorrection 16 = .ok (.iload_n 1, 1) := by decide +kernel
theorem dX0_noteCorrection_17 : decode cX0_noteCorrection 17 = .ok (.iconst 0, 1) := by decide +kernel
theorem dX0_noteCorrection_18 : decode cX0_noteCorrection 18 = .ok (.invokevirtual 37, 3) := by decide +kernel
theorem dX0_noteCorrection_21 : decode cX0_noteCorrection 21 = .ok (.aload_n 0, 1) := by decide +kernel
theorem dX0_noteCorrection_22 : decode cX0_noteCorrection 22 = .ok (.getfield 18, 3) := by decide +kernel
theorem dX0_noteCorrection_25 : decode cX0_noteCorrection 25 = .ok (.aload_n 0, 1) := by decide +kernel
theorem dX0_noteCorrection_26 : decode cX0_noteCorrection 26 = .ok (.getfield 41, 3) := by decide +kernel
theorem dX0_noteCorrection_29 : decode cX0_noteCorrection 29 = .ok (.iload_n 1, 1) := by decide +kernel
theorem dX0_noteCorrection_30 : decode cX0_noteCorrection 30 = .ok (.invokestatic 29, 3) := by decide +kernel
theorem dX0_noteCorrection_33 : decode cX0_noteCorrection 33 = .ok (.aload_n 0, 1) := by decide +kernel
theorem dX0_noteCorrection_34 : decode cX0_noteCorrection 34 = .ok (.dup, 1) := by decide +kernel
theorem dX0_noteCorrection_35 : decode cX0_noteCorrection 35 = .ok (.getfield 41, 3) := by decide +kernel
theorem dX0_noteCorrection_38 : decode cX0_noteCorrection 38 = .ok (.iconst 1, 1) := by decide +kernel
theorem dX0_noteCorrection_39 : decode cX0_noteCorrection 39 = .ok (.iadd, 1) := by decide +kernel
theorem dX0_noteCorrection_40 : decode cX0_noteCorrection 40 = .ok (.putfield 41, 3) := by decide +kernel
theorem dX0_noteCorrection_43 : decode cX0_noteCorrection 43 = .ok (.return_, 1) := by decide +kernel
theorem dX0_stateAfter_0 : decode cX0_stateAfter 0 = .ok (.iconst 0, 1) := by decide +kernel
theorem dX0_stateAfter_1 : decode cX0_stateAfter 1 = .ok (.istore_n 3, 1) := by decide +kernel
theorem dX0_stateAfter_2 : decode cX0_stateAfter 2 = .ok (.iconst 0, 1) := by decide +kernel
theorem dX0_stateAfter_3 : decode cX0_stateAfter 3 = .ok (.istore 4, 2) := by decide +kernel
theorem dX0_stateAfter_5 : decode cX0_stateAfter 5 = .ok (.iload 4, 2) := by decide +kernel
theorem dX0_stateAfter_7 : decode cX0_stateAfter 7 = .ok (.iload_n 1, 1) := by decide +kernel
theorem dX0_stateAfter_8 : decode cX0_stateAfter 8 = .ok (.if_icmp .ge 33, 3) := by decide +kernel
theorem dX0_stateAfter_11 : decode cX0_stateAfter 11 = .ok (.iload 4, 2) := by decide +kernel
theorem dX0_stateAfter_13 : decode cX0_stateAfter 13 = .ok (.aload_n 0, 1) := by decide +kernel
theorem dX0_stateAfter_14 : decode cX0_stateAfter 14 = .ok (.getfield 18, 3) := by decide +kernel
theorem dX0_stateAfter_17 : decode cX0_stateAfter 17 = .ok (.arraylength, 1) := by decide +kernel
theorem dX0_stateAfter_18 : decode cX0_stateAfter 18 = .ok (.if_icmp .ge 23, 3) := by decide +kernel
theorem dX0_stateAfter_21 : decode cX0_stateAfter 21 = .ok (.aload_n 0, 1) := by decide +kernel
theorem dX0_stateAfter_22 : decode cX0_stateAfter 22 = .ok (.getfield 18, 3) := by decide +kernel
theorem dX0_stateAfter_25 : decode cX0_stateAfter 25 = .ok (.iload 4, 2) := by decide +kernel
theorem dX0_stateAfter_27 : decode cX0_stateAfter 27 = .ok (.iaload, 1) := by decide +kernel
theorem dX0_stateAfter_28 : decode cX0_stateAfter 28 = .ok (.iload_n 2, 1) := by decide +kernel
theorem dX0_stateAfter_29 : decode cX0_stateAfter 29 = .ok (.if_icmp .ne 6, 3) := by decide +kernel
theorem dX0_stateAfter_32 : decode cX0_stateAfter 32 = .ok (.iinc 3 1, 3) := by decide +kernel
theorem dX0_stateAfter_35 : decode cX0_stateAfter 35 = .ok (.iinc 4 1, 3) := by decide +kernel
theorem dX0_stateAfter_38 : decode cX0_stateAfter 38 = .ok (.goto (-33), 3) := by decide +kernel
theorem dX0_stateAfter_41 : decode cX0_stateAfter 41 = .ok (.iload_n 3, 1) := by decide +kernel
theorem dX0_stateAfter_42 : decode cX0_stateAfter 42 = .ok (.ireturn, 1) := by decide +kernel
theorem dX0_plateOf_0 : decode cX0_plateOf 0 = .ok (.iload_n 1, 1) := by decide +kernel
theorem dX0_plateOf_1 : decode cX0_plateOf 1 = .ok (.bipush 13, 2) := by decide +kernel
theorem dX0_plateOf_3 : decode cX0_plateOf 3 = .ok (.imul, 1) := by decide +kernel
theorem dX0_plateOf_4 : decode cX0_plateOf 4 = .ok (.iload_n 2, 1) := by decide +kernel
theorem dX0_plateOf_5 : decode cX0_plateOf 5 = .ok (.iadd, 1) := by decide +kernel
theorem dX0_plateOf_6 : decode cX0_plateOf 6 = .ok (.iconst 1, 1) := by decide +kernel
theorem dX0_plateOf_7 : decode cX0_plateOf 7 = .ok (.iadd, 1) := by decide +kernel
theorem dX0_plateOf_8 : decode cX0_plateOf 8 = .ok (.istore_n 3, 1) := by decide +kernel
theorem dX0_plateOf_9 : decode cX0_plateOf 9 = .ok (.iload_n 2, 1) := by decide +kernel
theorem dX0_plateOf_10 : decode cX0_plateOf 10 = .ok (.iconst (-1), 1) := by decide +kernel
theorem dX0_plateOf_11 : decode cX0_plateOf 11 = .ok (.if_icmp .ne 7, 3) := by decide +kernel
theorem dX0_plateOf_14 : decode cX0_plateOf 14 = .ok (.iconst 0, 1) := by decide +kernel
theorem dX0_plateOf_15 : decode cX0_plateOf 15 = .ok (.goto 8, 3) := by decide +kernel
theorem dX0_plateOf_18 : decode cX0_plateOf 18 = .ok (.aload_n 0, 1) := by decide +kernel
theorem dX0_plateOf_19 : decode cX0_plateOf 19 = .ok (.iload_n 2, 1) := by decide +kernel
theorem dX0_plateOf_20 : decode cX0_plateOf 20 = .ok (.invokevirtual 33, 3) := by decide +kernel
theorem dX0_plateOf_23 : decode cX0_plateOf 23 = .ok (.istore 4, 2) := by decide +kernel
theorem dX0_plateOf_25 : decode cX0_plateOf 25 = .ok (.iload_n 3, 1) := by decide +kernel
theorem dX0_plateOf_26 : decode cX0_plateOf 26 = .ok (.sipush 10000, 3) := by decide +kernel
theorem dX0_plateOf_29 : decode cX0_plateOf 29 = .ok (.imul, 1) := by decide +kernel
theorem dX0_plateOf_30 : decode cX0_plateOf 30 = .ok (.aload_n 0, 1) := by decide +kernel
theorem dX0_plateOf_31 : decode cX0_plateOf 31 = .ok (.iload_n 1, 1) := by decide +kernel
theorem dX0_plateOf_32 : decode cX0_plateOf 32 = .ok (.invokevirtual 33, 3) := by decide +kernel
theorem dX0_plateOf_35 : decode cX0_plateOf 35 = .ok (.bipush 100, 2) := by decide +kernel
theorem dX0_plateOf_37 : decode cX0_plateOf 37 = .ok (.imul, 1) := by decide +kernel
theorem dX0_plateOf_38 : decode cX0_plateOf 38 = .ok (.iadd, 1) := by decide +kernel
theorem dX0_plateOf_39 : decode cX0_plateOf 39 = .ok (.iload 4, 2) := by decide +kernel
theorem dX0_plateOf_41 : decode cX0_plateOf 41 = .ok (.iadd, 1) := by decide +kernel
theorem dX0_plateOf_42 : decode cX0_plateOf 42 = .ok (.ireturn, 1) := by decide +kernel
theorem dX1_init_0 : decode cX1_init 0 = .ok (.aload_n 0, 1) := by decide +kernel
theorem dX1_init_1 : decode cX1_init 1 = .ok (.invokespecial 3, 3) := by decide +kernel
theorem dX1_init_4 : decode cX1_init 4 = .ok (.aload_n 0, 1) := by decide +kernel
theorem dX1_init_5 : decode cX1_init 5 = .ok (.iload_n 1, 1) := by decide +kernel
theorem dX1_init_6 : decode cX1_init 6 = .ok (.putfield 9, 3) := by decide +kernel
theorem dX1_init_9 : decode cX1_init 9 = .ok (.aload_n 0, 1) := by decide +kernel
theorem dX1_init_10 : decode cX1_init 10 = .ok (.bipush 16, 2) := by decide +kernel
theorem dX1_init_12 : decode cX1_init 12 = .ok (.newarray .int, 2) := by decide +kernel
theorem dX1_init_14 : decode cX1_init 14 = .ok (.putfield 15, 3) := by decide +kernel
theorem dX1_init_17 : decode cX1_init 17 = .ok (.aload_n 0, 1) := by decide +kernel
theorem dX1_init_18 : decode cX1_init 18 = .ok (.bipush 8, 2) := by decide +kernel
theorem dX1_init_20 : decode cX1_init 20 = .ok (.newarray .int, 2) := by decide +kernel
theorem dX1_init_22 : decode cX1_init 22 = .ok (.putfield 19, 3) := by decide +kernel
theorem dX1_init_25 : decode cX1_init 25 = .ok (.return_, 1) := by decide +kernel
theorem dX1_append_0 : decode cX1_append 0 = .ok (.aload_n 0, 1) := by decide +kernel
theorem dX1_append_1 : decode cX1_append 1 = .ok (.getfield 15, 3) := by decide +kernel
theorem dX1_append_4 : decode cX1_append 4 = .ok (.aload_n 0, 1) := by decide +kernel
theorem dX1_append_5 : decode cX1_append 5 = .ok (.getfield 22, 3) := by decide +kernel
theorem dX1_append_8 : decode cX1_append 8 = .ok (.iload_n 1, 1) := by decide +kernel
theorem dX1_append_9 : decode cX1_append 9 = .ok (.invokestatic 26, 3) := by decide +kernel
theorem dX1_append_12 : decode cX1_append 12 = .ok (.aload_n 0, 1) := by decide +kernel
theorem dX1_append_13 : decode cX1_append 13 = .ok (.dup, 1) := by decide +kernel
theorem dX1_append_14 : decode cX1_append 14 = .ok (.getfield 22, 3) := by decide +kernel
theorem dX1_append_17 : decode cX1_append 17 = .ok (.iconst 1, 1) := by decide +kernel
theorem dX1_append_18 : decode cX1_append 18 = .ok (.iadd, 1) := by decide +kernel
theorem dX1_append_19 : decode cX1_append 19 = .ok (.putfield 22, 3) := by decide +kernel
theorem dX1_append_22 : decode cX1_append 22 = .ok (.return_, 1) := by decide +kernel
theorem dX1_contentOf_0 : decode cX1_contentOf 0 = .ok (.aload_n 0, 1) := by decide +kernel
theorem dX1_contentOf_1 : decode cX1_contentOf 1 = .ok (.getfield 15, 3) := by decide +kernel
theorem dX1_contentOf_4 : decode cX1_contentOf 4 = .ok (.iload_n 1, 1) := by decide +kernel
theorem dX1_contentOf_5 : decode cX1_contentOf 5 = .ok (.iconst 1, 1) := by decide +kernel
theorem dX1_contentOf_6 : decode cX1_contentOf 6 = .ok (.isub, 1) := by decide +kernel
theorem dX1_contentOf_7 : decode cX1_contentOf 7 = .ok (.invokestatic 30, 3) := by decide +kernel
theorem dX1_contentOf_10 : decode cX1_contentOf 10 = .ok (.ireturn, 1) := by decide +kernel
theorem dX1_placeCount_0 : decode cX1_placeCount 0 = .ok (.aload_n 0, 1) := by decide +kernel
theorem dX1_placeCount_1 : decode cX1_placeCount 1 = .ok (.getfield 9, 3) := by decide +kernel
theorem dX1_placeCount_4 : decode cX1_placeCount 4 = .ok (.bipush 119, 2) := by decide +kernel
theorem dX1_placeCount_6 : decode cX1_placeCount 6 = .ok (.if_icmp .ne 7, 3) := by decide +kernel
theorem dX1_placeCount_9 : decode cX1_placeCount 9 = .ok (.iconst 2, 1) := by decide +kernel
theorem dX1_placeCount_10 : decode cX1_placeCount 10 = .ok (.goto 4, 3) := by decide +kernel
theorem dX1_placeCount_13 : decode cX1_placeCount 13 = .ok (.iconst 4, 1) := by decide +kernel
theorem dX1_placeCount_14 : decode cX1_placeCount 14 = .ok (.ireturn, 1) := by decide +kernel
theorem dX1_isComplete_0 : decode cX1_isComplete 0 = .ok (.aload_n 0, 1) := by decide +kernel
theorem dX1_isComplete_1 : decode cX1_isComplete 1 = .ok (.getfield 22, 3) := by decide +kernel
theorem dX1_isComplete_4 : decode cX1_isComplete 4 = .ok (.ifCond .le 34, 3) := by decide +kernel
theorem dX1_isComplete_7 : decode cX1_isComplete 7 = .ok (.aload_n 0, 1) := by decide +kernel
theorem dX1_isComplete_8 : decode cX1_isComplete 8 = .ok (.getfield 9, 3) := by decide +kernel
theorem dX1_isComplete_11 : decode cX1_isComplete 11 = .ok (.bipush 119, 2) := by decide +kernel
theorem dX1_isComplete_13 : decode cX1_isComplete 13 = .ok (.if_icmp .ne 12, 3) := by decide +kernel
theorem dX1_isComplete_16 : decode cX1_isComplete 16 = .ok (.aload_n 0, 1) := by decide +kernel
theorem dX1_isComplete_17 : decode cX1_isComplete 17 = .ok (.getfield 22, 3) := by decide +kernel
theorem dX1_isComplete_20 : decode cX1_isComplete 20 = .ok (.iconst 2, 1) := by decide +kernel
theorem dX1_isComplete_21 : decode cX1_isComplete 21 = .ok (.irem, 1) := by decide +kernel
theorem dX1_isComplete_22 : decode cX1_isComplete 22 = .ok (.goto 9, 3) := by decide +kernel
theorem dX1_isComplete_25 : decode cX1_isComplete 25 = .ok (.aload_n 0, 1) := by decide +kernel
theorem dX1_isComplete_26 : decode cX1_isComplete 26 = .ok (.getfield 22, 3) := by decide +kernel
theorem dX1_isComplete_29 : decode cX1_isComplete 29 = .ok (.iconst 4, 1) := by decide +kernel
theorem dX1_isComplete_30 : decode cX1_isComplete 30 = .ok (.irem, 1) := by decide +kernel
theorem dX1_isComplete_31 : decode cX1_isComplete 31 = .ok (.ifCond .ne 7, 3) := by decide +kernel
theorem dX1_isComplete_34 : decode cX1_isComplete 34 = .ok (.iconst 1, 1) := by decide +kernel
theorem dX1_isComplete_35 : decode cX1_isComplete 35 = .ok (.goto 4, 3) := by decide +kernel
theorem dX1_isComplete_38 : decode cX1_isComplete 38 = .ok (.iconst 0, 1) := by decide +kernel
theorem dX1_isComplete_39 : decode cX1_isComplete 39 = .ok (.ireturn, 1) := by decide +kernel
theorem dX1_sheetCount_0 : decode cX1_sheetCount 0 = .ok (.aload_n 0, 1) := by decide +kernel
theorem dX1_sheetCount_1 : decode cX1_sheetCount 1 = .ok (.getfield 9, 3) := by decide +kernel
theorem dX1_sheetCount_4 : decode cX1_sheetCount 4 = .ok (.bipush 119, 2) := by decide +kernel
theorem dX1_sheetCount_6 : decode cX1_sheetCount 6 = .ok (.if_icmp .ne 12, 3) := by decide +kernel
theorem dX1_sheetCount_9 : decode cX1_sheetCount 9 = .ok (.aload_n 0, 1) := by decide +kernel
theorem dX1_sheetCount_10 : decode cX1_sheetCount 10 = .ok (.getfield 22, 3) := by decide +kernel
theorem dX1_sheetCount_13 : decode cX1_sheetCount 13 = .ok (.iconst 2, 1) := by decide +kernel
theorem dX1_sheetCount_14 : decode cX1_sheetCount 14 = .ok (.idiv, 1) := by decide +kernel
theorem dX1_sheetCount_15 : decode cX1_sheetCount 15 = .ok (.goto 9, 3) := by decide +kernel
theorem dX1_sheetCount_18 : decode cX1_sheetCount 18 = .ok (.aload_n 0, 1) := by decide +kernel
theorem dX1_sheetCount_19 : decode cX1_sheetCount 19 = .ok (.getfield 22, 3) := by decide +kernel
theorem dX1_sheetCount_22 : decode cX1_sheetCount 22 = .ok (.iconst 4, 1) := by decide +kernel
theorem dX1_sheetCount_23 : decode cX1_sheetCount 23 = .ok (.idiv, 1) := by decide +kernel
theorem dX1_sheetCount_24 : decode cX1_sheetCount 24 = .ok (.ireturn, 1) := by decide +kernel
theorem dX1_pageOn_0 : decode cX1_pageOn 0 = .ok (.aload_n 0, 1) := by decide +kernel
theorem dX1_pageOn_1 : decode cX1_pageOn 1 = .ok (.getfield 9, 3) := by decide +kernel
theorem dX1_pageOn_4 : decode cX1_pageOn 4 = .ok (.bipush 119, 2) := by decide +kernel
theorem dX1_pageOn_6 : decode cX1_pageOn 6 = .ok (.if_icmp .ne 11, 3) := by decide +kernel
theorem dX1_pageOn_9 : decode cX1_pageOn 9 = .ok (.iconst 2, 1) := by decide +kernel
theorem dX1_pageOn_10 : decode cX1_pageOn 10 = .ok (.iload_n 1, 1) := by decide +kernel
theorem dX1_pageOn_11 : decode cX1_pageOn 11 = .ok (.imul, 1) := by decide +kernel
theorem dX1_pageOn_12 : decode cX1_pageOn 12 = .ok (.iconst 1, 1) := by decide +kernel
theorem dX1_pageOn_13 : decode cX1_pageOn 13 = .ok (.iadd, 1) := by decide +kernel
theorem dX1_pageOn_14 : decode cX1_pageOn 14 = .ok (.iload_n 2, 1) := by decide +kernel
theorem dX1_pageOn_15 : decode cX1_pageOn 15 = .ok (.iadd, 1) := by decide +kernel
theorem dX1_pageOn_16 : decode cX1_pageOn 16 = .ok (.ireturn, 1) := by decide +kernel
theorem dX1_pageOn_17 : decode cX1_pageOn 17 = .ok (.aload_n 0, 1) := by decide +kernel
theorem dX1_pageOn_18 : decode cX1_pageOn 18 = .ok (.getfield 9, 3) := by decide +kernel
theorem dX1_pageOn_21 : decode cX1_pageOn 21 = .ok (.bipush 112, 2) := by decide +kernel
theorem dX1_pageOn_23 : decode cX1_pageOn 23 = .ok (.if_icmp .ne 21, 3) := by decide +kernel
theorem dX1_pageOn_26 : decode cX1_pageOn 26 = .ok (.iload_n 2, 1) := by decide +kernel
theorem dX1_pageOn_27 : decode cX1_pageOn 27 = .ok (.ifCond .ne 11, 3) := by decide +kernel
theorem dX1_pageOn_30 : decode cX1_pageOn 30 = .ok (.iconst 4, 1) := by decide +kernel
theorem dX1_pageOn_31 : decode cX1_pageOn 31 = .ok (.iload_n 1, 1) := by decide +kernel
theorem dX1_pageOn_32 : decode cX1_pageOn 32 = .ok (.imul, 1) := by decide +kernel
theorem dX1_pageOn_33 : decode cX1_pageOn 33 = .ok (.iconst 4, 1) := by decide +kernel
theorem dX1_pageOn_34 : decode cX1_pageOn 34 = .ok (.iadd, 1) := by decide +kernel
theorem dX1_pageOn_35 : decode cX1_pageOn 35 = .ok (.goto 8, 3) := by decide +kernel
theorem dX1_pageOn_38 : decode cX1_pageOn 38 = .ok (.iconst 4, 1) := by decide +kernel
theorem dX1_pageOn_39 : decode cX1_pageOn 39 = .ok (.iload_n 1, 1) := by decide +kernel
theorem dX1_pageOn_40 : decode cX1_pageOn 40 = .ok (.imul, 1) := by decide +kernel
theorem dX1_pageOn_41 : decode cX1_pageOn 41 = .ok (.iload_n 2, 1) := by decide +kernel
theorem dX1_pageOn_42 : decode cX1_pageOn 42 = .ok (.iadd, 1) := by decide +kernel
theorem dX1_pageOn_43 : decode cX1_pageOn 43 = .ok (.ireturn, 1) := by decide +kernel
theorem dX1_pageOn_44 : decode cX1_pageOn 44 = .ok (.iload_n 2, 1) := by decide +kernel
theorem dX1_pageOn_45 : decode cX1_pageOn 45 = .ok (.tableswitch 48 0 2 #[27, 36, 42], 27) := by decide +kernel
theorem dX1_pageOn_72 : decode cX1_pageOn 72 = .ok (.aload_n 0, 1) := by decide +kernel
theorem dX1_pageOn_73 : decode cX1_pageOn 73 = .ok (.getfield 22, 3) := by decide +kernel
theorem dX1_pageOn_76 : decode cX1_pageOn 76 = .ok (.iconst 2, 1) := by decide +kernel
theorem dX1_pageOn_77 : decode cX1_pageOn 77 = .ok (.iload_n 1, 1) := by decide +kernel
theorem dX1_pageOn_78 : decode cX1_pageOn 78 = .ok (.imul, 1) := by decide +kernel
theorem dX1_pageOn_79 : decode cX1_pageOn 79 = .ok (.isub, 1) := by decide +kernel
theorem dX1_pageOn_80 : decode cX1_pageOn 80 = .ok (.ireturn, 1) := by decide +kernel
theorem dX1_pageOn_81 : decode cX1_pageOn 81 = .ok (.iconst 2, 1) := by decide +kernel
theorem dX1_pageOn_82 : decode cX1_pageOn 82 = .ok (.iload_n 1, 1) := by decide +kernel
theorem dX1_pageOn_83 : decode cX1_pageOn 83 = .ok (.imul, 1) := by decide +kernel
theorem dX1_pageOn_84 : decode cX1_pageOn 84 = .ok (.iconst 1, 1) := by decide +kernel
theorem dX1_pageOn_85 : decode cX1_pageOn 85 = .ok (.iadd, 1) := by decide +kernel
theorem dX1_pageOn_86 : decode cX1_pageOn 86 = .ok (.ireturn, 1) := by decide +kernel
theorem dX1_pageOn_87 : decode cX1_pageOn 87 = .ok (.iconst 2, 1) := by decide +kernel
theorem dX1_pageOn_88 : decode cX1_pageOn 88 = .ok (.iload_n 1, 1) := by decide +kernel
theorem dX1_pageOn_89 : decode cX1_pageOn 89 = .ok (.imul, 1) := by decide +kernel
theorem dX1_pageOn_90 : decode cX1_pageOn 90 = .ok (.iconst 2, 1) := by decide +kernel
theorem dX1_pageOn_91 : decode cX1_pageOn 91 = .ok (.iadd, 1) := by decide +kernel
theorem dX1_pageOn_92 : decode cX1_pageOn 92 = .ok (.ireturn, 1) := by decide +kernel
theorem dX1_pageOn_93 : decode cX1_pageOn 93 = .ok (.aload_n 0, 1) := by decide +kernel
theorem dX1_pageOn_94 : decode cX1_pageOn 94 = .ok (.getfield 22, 3) := by decide +kernel
theorem dX1_pageOn_97 : decode cX1_pageOn 97 = .ok (.iconst 2, 1) := by decide +kernel
theorem dX1_pageOn_98 : decode cX1_pageOn 98 = .ok (.iload_n 1, 1) := by decide +kernel
theorem dX1_pageOn_99 : decode cX1_pageOn 99 = .ok (.imul, 1) := by decide +kernel
theorem dX1_pageOn_100 : decode cX1_pageOn 100 = .ok (.isub, 1) := by decide +kernel
theorem dX1_pageOn_101 : decode cX1_pageOn 101 = .ok (.iconst 1, 1) := by decide +kernel
theorem dX1_pageOn_102 : decode cX1_pageOn 102 = .ok (.isub, 1) := by decide +kernel
theorem dX1_pageOn_103 : decode cX1_pageOn 103 = .ok (.ireturn, 1) := by decide +kernel
theorem dX1_contentOn_0 : decode cX1_contentOn 0 = .ok (.aload_n 0, 1) := by decide +kernel
theorem dX1_contentOn_1 : decode cX1_contentOn 1 = .ok (.aload_n 0, 1) := by decide +kernel
theorem dX1_contentOn_2 : decode cX1_contentOn 2 = .ok (.iload_n 1, 1) := by decide +kernel
theorem dX1_contentOn_3 : decode cX1_contentOn 3 = .ok (.iload_n 2, 1) := by decide +kernel
theorem dX1_contentOn_4 : decode cX1_contentOn 4 = .ok (.invokevirtual 34, 3) := by decide +kernel
theorem dX1_contentOn_7 : decode cX1_contentOn 7 = .ok (.invokevirtual 38, 3) := by decide +kernel
theorem dX1_contentOn_10 : decode cX1_contentOn 10 = .ok (.ireturn, 1) := by decide +kernel
theorem dX1_hasPage_0 : decode cX1_hasPage 0 = .ok (.aload_n 0, 1) := by decide +kernel
theorem dX1_hasPage_1 : decode cX1_hasPage 1 = .ok (.invokevirtual 42, 3) := by decide +kernel
theorem dX1_hasPage_4 : decode cX1_hasPage 4 = .ok (.istore_n 3, 1) := by decide +kernel
theorem dX1_hasPage_5 : decode cX1_hasPage 5 = .ok (.iconst 0, 1) := by decide +kernel
theorem dX1_hasPage_6 : decode cX1_hasPage 6 = .ok (.istore 4, 2) := by decide +kernel
theorem dX1_hasPage_8 : decode cX1_hasPage 8 = .ok (.iload 4, 2) := by decide +kernel
theorem dX1_hasPage_10 : decode cX1_hasPage 10 = .ok (.iload_n 3, 1) := by decide +kernel
theorem dX1_hasPage_11 : decode cX1_hasPage 11 = .ok (.if_icmp .ge 22, 3) := by decide +kernel
theorem dX1_hasPage_14 : decode cX1_hasPage 14 = .ok (.aload_n 0, 1) := by decide +kernel
theorem dX1_hasPage_15 : decode cX1_hasPage 15 = .ok (.iload_n 1, 1) := by decide +kernel
theorem dX1_hasPage_16 : decode cX1_hasPage 16 = .ok (.iload 4, 2) := by decide +kernel
theorem dX1_hasPage_18 : decode cX1_hasPage 18 = .ok (.invokevirtual 34, 3) := by decide +kernel
theorem dX1_hasPage_21 : decode cX1_hasPage 21 = .ok (.iload_n 2, 1) := by decide +kernel
theorem dX1_hasPage_22 : decode cX1_hasPage 22 = .ok (.if_icmp .ne 5, 3) := by decide +kernel
theorem dX1_hasPage_25 : decode cX1_hasPage 25 = .ok (.iconst 1, 1) := by decide +kernel
theorem dX1_hasPage_26 : decode cX1_hasPage 26 = .ok (.ireturn, 1) := by decide +kernel
theorem dX1_hasPage_27 : decode cX1_hasPage 27 = .ok (.iinc 4 1, 3) := by decide +kernel
theorem dX1_hasPage_30 : decode cX1_hasPage 30 = .ok (.goto (-22), 3) := by decide +kernel
theorem dX1_hasPage_33 : decode cX1_hasPage 33 = .ok (.iconst 0, 1) := by decide +kernel
theorem dX1_hasPage_34 : decode cX1_hasPage 34 = .ok (.ireturn, 1) := by decide +kernel
theorem dX1_sheetWith_0 : decode cX1_sheetWith 0 = .ok (.aload_n 0, 1) := by decide +kernel
theorem dX1_sheetWith_1 : decode cX1_sheetWith 1 = .ok (.invokevirtual 46, 3) := by decide +kernel
theorem dX1_sheetWith_4 : decode cX1_sheetWith 4 = .ok (.istore_n 2, 1) := by decide +kernel
theorem dX1_sheetWith_5 : decode cX1_sheetWith 5 = .ok (.iconst 0, 1) := by decide +kernel
theorem dX1_sheetWith_6 : decode cX1_sheetWith 6 = .ok (.istore_n 3, 1) := by decide +kernel
theorem dX1_sheetWith_7 : decode cX1_sheetWith 7 = .ok (.iload_n 3, 1) := by decide +kernel
theorem dX1_sheetWith_8 : decode cX1_sheetWith 8 = .ok (.iload_n 2, 1) := by decide +kernel
theorem dX1_sheetWith_9 : decode cX1_sheetWith 9 = .ok (.if_icmp .ge 20, 3) := by decide +kernel
theorem dX1_sheetWith_12 : decode cX1_sheetWith 12 = .ok (.aload_n 0, 1) := by decide +kernel
theorem dX1_sheetWith_13 : decode cX1_sheetWith 13 = .ok (.iload_n 3, 1) := by decide +kernel
theorem dX1_sheetWith_14 : decode cX1_sheetWith 14 = .ok (.iload_n 1, 1) := by decide +kernel
theorem dX1_sheetWith_15 : decode cX1_sheetWith 15 = .ok (.invokevirtual 49, 3) := by decide +kernel
theorem dX1_sheetWith_18 : decode cX1_sheetWith 18 = .ok (.ifCond .eq 5, 3) := by decide +kernel
theorem dX1_sheetWith_21 : decode cX1_sheetWith 21 = .ok (.iload_n 3, 1) := by decide +kernel
theorem dX1_sheetWith_22 : decode cX1_sheetWith 22 = .ok (.ireturn, 1) := by decide +kernel
theorem dX1_sheetWith_23 : decode cX1_sheetWith 23 = .ok (.iinc 3 1, 3) := by decide +kernel
theorem dX1_sheetWith_26 : decode cX1_sheetWith 26 = .ok (.goto (-19), 3) := by decide +kernel
theorem dX1_sheetWith_29 : decode cX1_sheetWith 29 = .ok (.iconst (-1), 1) := by decide +kernel
theorem dX1_sheetWith_30 : decode cX1_sheetWith 30 = .ok (.ireturn, 1) := by decide +kernel
theorem dX1_isShowing_0 : decode cX1_isShowing 0 = .ok (.aload_n 0, 1) := by decide +kernel
theorem dX1_isShowing_1 : decode cX1_isShowing 1 = .ok (.invokevirtual 42, 3) := by decide +kernel
theorem dX1_isShowing_4 : decode cX1_isShowing 4 = .ok (.istore_n 3, 1) := by decide +kernel
theorem dX1_isShowing_5 : decode cX1_isShowing 5 = .ok (.iconst 0, 1) := by decide +kernel
theorem dX1_isShowing_6 : decode cX1_isShowing 6 = .ok (.istore 4, 2) := by decide +kernel
theorem dX1_isShowing_8 : decode cX1_isShowing 8 = .ok (.iload 4, 2) := by decide +kernel
theorem dX1_isShowing_10 : decode cX1_isShowing 10 = .ok (.iload_n 3, 1) := by decide +kernel
theorem dX1_isShowing_11 : decode cX1_isShowing 11 = .ok (.if_icmp .ge 22, 3) := by decide +kernel
theorem dX1_isShowing_14 : decode cX1_isShowing 14 = .ok (.aload_n 0, 1) := by decide +kernel
theorem dX1_isShowing_15 : decode cX1_isShowing 15 = .ok (.iload_n 1, 1) := by decide +kernel
theorem dX1_isShowing_16 : decode cX1_isShowing 16 = .ok (.iload 4, 2) := by decide +kernel
theorem dX1_isShowing_18 : decode cX1_isShowing 18 = .ok (.invokevirtual 53, 3) := by decide +kernel
theorem dX1_isShowing_21 : decode cX1_isShowing 21 = .ok (.iload_n 2, 1) := by decide +kernel
theorem dX1_isShowing_22 : decode cX1_isShowing 22 = .ok (.if_icmp .ne 5, 3) := by decide +kernel
theorem dX1_isShowing_25 : decode cX1_isShowing 25 = .ok (.iconst 1, 1) := by decide +kernel
theorem dX1_isShowing_26 : decode cX1_isShowing 26 = .ok (.ireturn, 1) := by decide +kernel
theorem dX1_isShowing_27 : decode cX1_isShowing 27 = .ok (.iinc 4 1, 3) := by decide +kernel
theorem dX1_isShowing_30 : decode cX1_isShowing 30 = .ok (.goto (-22), 3) := by decide +kernel
theorem dX1_isShowing_33 : decode cX1_isShowing 33 = .ok (.iconst 0, 1) := by decide +kernel
theorem dX1_isShowing_34 : decode cX1_isShowing 34 = .ok (.ireturn, 1) := by decide +kernel
theorem dX1_stockOf_0 : decode cX1_stockOf 0 = .ok (.aload_n 0, 1) := by decide +kernel
theorem dX1_stockOf_1 : decode cX1_stockOf 1 = .ok (.getfield 19, 3) := by decide +kernel
theorem dX1_stockOf_4 : decode cX1_stockOf 4 = .ok (.iload_n 1, 1) := by decide +kernel
theorem dX1_stockOf_5 : decode cX1_stockOf 5 = .ok (.invokestatic 30, 3) := by decide +kernel
theorem dX1_stockOf_8 : decode cX1_stockOf 8 = .ok (.ireturn, 1) := by decide +kernel
theorem dX1_addToStock_0 : decode cX1_addToStock 0 = .ok (.aload_n 0, 1) := by decide +kernel
theorem dX1_addToStock_1 : decode cX1_addToStock 1 = .ok (.getfield 19, 3) := by decide +kernel
theorem dX1_addToStock_4 : decode cX1_addToStock 4 = .ok (.iload_n 1, 1) := by decide +kernel
theorem dX1_addToStock_5 : decode cX1_addToStock 5 = .ok (.aload_n 0, 1) := by decide +kernel
theorem dX1_addToStock_6 : decode cX1_addToStock 6 = .ok (.getfield 19, 3) := by decide +kernel
theorem dX1_addToStock_9 : decode cX1_addToStock 9 = .ok (.iload_n 1, 1) := by decide +kernel
theorem dX1_addToStock_10 : decode cX1_addToStock 10 = .ok (.invokestatic 30, 3) := by decide +kernel
theorem dX1_addToStock_13 : decode cX1_addToStock 13 = .ok (.iload_n 2, 1) := by decide +kernel
theorem dX1_addToStock_14 : decode cX1_addToStock 14 = .ok (.iadd, 1) := by decide +kernel
theorem dX1_addToStock_15 : decode cX1_addToStock 15 = .ok (.invokestatic 26, 3) := by decide +kernel
theorem dX1_addToStock_18 : decode cX1_addToStock 18 = .ok (.return_, 1) := by decide +kernel
theorem dX1_takeSheets_0 : decode cX1_takeSheets 0 = .ok (.aload_n 0, 1) := by decide +kernel
theorem dX1_takeSheets_1 : decode cX1_takeSheets 1 = .ok (.getfield 19, 3) := by decide +kernel
theorem dX1_takeSheets_4 : decode cX1_takeSheets 4 = .ok (.iload_n 1, 1) := by decide +kernel
theorem dX1_takeSheets_5 : decode cX1_takeSheets 5 = .ok (.invokestatic 30, 3) := by decide +kernel
theorem dX1_takeSheets_8 : decode cX1_takeSheets 8 = .ok (.istore_n 2, 1) := by decide +kernel
theorem dX1_takeSheets_9 : decode cX1_takeSheets 9 = .ok (.aload_n 0, 1) := by decide +kernel
theorem dX1_takeSheets_10 : decode cX1_takeSheets 10 = .ok (.getfield 19, 3) := by decide +kernel
theorem dX1_takeSheets_13 : decode cX1_takeSheets 13 = .ok (.iload_n 1, 1) := by decide +kernel
theorem dX1_takeSheets_14 : decode cX1_takeSheets 14 = .ok (.iconst 0, 1) := by decide +kernel
theorem dX1_takeSheets_15 : decode cX1_takeSheets 15 = .ok (.invokestatic 26, 3) := by decide +kernel
theorem dX1_takeSheets_18 : decode cX1_takeSheets 18 = .ok (.iload_n 2, 1) := by decide +kernel
theorem dX1_takeSheets_19 : decode cX1_takeSheets 19 = .ok (.ireturn, 1) := by decide +kernel
theorem dX1_takeAllSheets_0 : decode cX1_takeAllSheets 0 = .ok (.iconst 0, 1) := by decide +kernel
theorem dX1_takeAllSheets_1 : decode cX1_takeAllSheets 1 = .ok (.istore_n 1, 1) := by decide +kernel
theorem dX1_takeAllSheets_2 : decode cX1_takeAllSheets 2 = .ok (.iconst 0, 1) := by decide +kernel
theorem dX1_takeAllSheets_3 : decode cX1_takeAllSheets 3 = .ok (.istore_n 2, 1) := by decide +kernel
theorem dX1_takeAllSheets_4 : decode cX1_takeAllSheets 4 = .ok (.iload_n 2, 1) := by decide +kernel
theorem dX1_takeAllSheets_5 : decode cX1_takeAllSheets 5 = .ok (.bipush 8, 2) := by decide +kernel
theorem dX1_takeAllSheets_7 : decode cX1_takeAllSheets 7 = .ok (.if_icmp .ge 17, 3) := by decide +kernel
theorem dX1_takeAllSheets_10 : decode cX1_takeAllSheets 10 = .ok (.iload_n 1, 1) := by decide +kernel
theorem dX1_takeAllSheets_11 : decode cX1_takeAllSheets 11 = .ok (.aload_n 0, 1) := by decide +kernel
theorem dX1_takeAllSheets_12 : decode cX1_takeAllSheets 12 = .ok (.iload_n 2, 1) := by decide +kernel
theorem dX1_takeAllSheets_13 : decode cX1_takeAllSheets 13 = .ok (.invokevirtual 56, 3) := by decide +kernel
theorem dX1_takeAllSheets_16 : decode cX1_takeAllSheets 16 = .ok (.iadd, 1) := by decide +kernel
theorem dX1_takeAllSheets_17 : decode cX1_takeAllSheets 17 = .ok (.istore_n 1, 1) := by decide +kernel
theorem dX1_takeAllSheets_18 : decode cX1_takeAllSheets 18 = .ok (.iinc 2 1, 3) := by decide +kernel
theorem dX1_takeAllSheets_21 : decode cX1_takeAllSheets 21 = .ok (.goto (-17), 3) := by decide +kernel
theorem dX1_takeAllSheets_24 : decode cX1_takeAllSheets 24 = .ok (.iload_n 1, 1) := by decide +kernel
theorem dX1_takeAllSheets_25 : decode cX1_takeAllSheets 25 = .ok (.ireturn, 1) := by decide +kernel
theorem dX1_takeSheetsShowing_0 : decode cX1_takeSheetsShowing 0 = .ok (.iconst 0, 1) := by decide +kernel
theorem dX1_takeSheetsShowing_1 : decode cX1_takeSheetsShowing 1 = .ok (.istore_n 2, 1) := by decide +kernel
theorem dX1_takeSheetsShowing_2 : decode cX1_takeSheetsShowing 2 = .ok (.aload_n 0, 1) := by decide +kernel
theorem dX1_takeSheetsShowing_3 : decode cX1_takeSheetsShowing 3 = .ok (.invokevirtual 46, 3) := by decide +kernel
theorem dX1_takeSheetsShowing_6 : decode cX1_takeSheetsShowing 6 = .ok (.istore_n 3, 1) := by decide +kernel
theorem dX1_takeSheetsShowing_7 : decode cX1_takeSheetsShowing 7 = .ok (.iconst 0, 1) := by decide +kernel
theorem dX1_takeSheetsShowing_8 : decode cX1_takeSheetsShowing 8 = .ok (.istore 4, 2) := by decide +kernel
theorem dX1_takeSheetsShowing_10 : decode cX1_takeSheetsShowing 10 = .ok (.iload 4, 2) := by decide +kernel
theorem dX1_takeSheetsShowing_12 : decode cX1_takeSheetsShowing 12 = .ok (.iload_n 3, 1) := by decide +kernel
theorem dX1_takeSheetsShowing_13 : decode cX1_takeSheetsShowing 13 = .ok (.if_icmp .ge 28, 3) := by decide +kernel
theorem dX1_takeSheetsShowing_16 : decode cX1_takeSheetsShowing 16 = .ok (.aload_n 0, 1) := by decide +kernel
theorem dX1_takeSheetsShowing_17 : decode cX1_takeSheetsShowing 17 = .ok (.iload 4, 2) := by decide +kernel
theorem dX1_takeSheetsShowing_19 : decode cX1_takeSheetsShowing 19 = .ok (.iload_n 1, 1) := by decide +kernel
theorem dX1_takeSheetsShowing_20 : decode cX1_takeSheetsShowing 20 = .ok (.invokevirtual 59, 3) := by decide +kernel
theorem dX1_takeSheetsShowing_23 : decode cX1_takeSheetsShowing 23 = .ok (.ifCond .eq 12, 3) := by decide +kernel
theorem dX1_takeSheetsShowing_26 : decode cX1_takeSheetsShowing 26 = .ok (.iload_n 2, 1) := by decide +kernel
theorem dX1_takeSheetsShowing_27 : decode cX1_takeSheetsShowing 27 = .ok (.aload_n 0, 1) := by decide +kernel
theorem dX1_takeSheetsShowing_28 : decode cX1_takeSheetsShowing 28 = .ok (.iload 4, 2) := by decide +kernel
theorem dX1_takeSheetsShowing_30 : decode cX1_takeSheetsShowing 30 = .ok (.invokevirtual 56, 3) := by decide +kernel
theorem dX1_takeSheetsShowing_33 : decode cX1_takeSheetsShowing 33 = .ok (.iadd, 1) := by decide +kernel
theorem dX1_takeSheetsShowing_34 : decode cX1_takeSheetsShowing 34 = .ok (.istore_n 2, 1) := by decide +kernel
theorem dX1_takeSheetsShowing_35 : decode cX1_takeSheetsShowing 35 = .ok (.iinc 4 1, 3) := by decide +kernel
theorem dX1_takeSheetsShowing_38 : decode cX1_takeSheetsShowing 38 = .ok (.goto (-28), 3) := by decide +kernel
theorem dX1_takeSheetsShowing_41 : decode cX1_takeSheetsShowing 41 = .ok (.iload_n 2, 1) := by decide +kernel
theorem dX1_takeSheetsShowing_42 : decode cX1_takeSheetsShowing 42 = .ok (.ireturn, 1) := by decide +kernel
theorem dX1_lackFor_0 : decode cX1_lackFor 0 = .ok (.iconst 0, 1) := by decide +kernel
theorem dX1_lackFor_1 : decode cX1_lackFor 1 = .ok (.istore_n 2, 1) := by decide +kernel
theorem dX1_lackFor_2 : decode cX1_lackFor 2 = .ok (.aload_n 0, 1) := by decide +kernel
theorem dX1_lackFor_3 : decode cX1_lackFor 3 = .ok (.invokevirtual 46, 3) := by decide +kernel
theorem dX1_lackFor_6 : decode cX1_lackFor 6 = .ok (.istore_n 3, 1) := by decide +kernel
theorem dX1_lackFor_7 : decode cX1_lackFor 7 = .ok (.iconst 0, 1) := by decide +kernel
theorem dX1_lackFor_8 : decode cX1_lackFor 8 = .ok (.istore 4, 2) := by decide +kernel
theorem dX1_lackFor_10 : decode cX1_lackFor 10 = .ok (.iload 4, 2) := by decide +kernel
theorem dX1_lackFor_12 : decode cX1_lackFor 12 = .ok (.iload_n 3, 1) := by decide +kernel
theorem dX1_lackFor_13 : decode cX1_lackFor 13 = .ok (.if_icmp .ge 27, 3) := by decide +kernel
theorem dX1_lackFor_16 : decode cX1_lackFor 16 = .ok (.iload_n 2, 1) := by decide +kernel
theorem dX1_lackFor_17 : decode cX1_lackFor 17 = .ok (.iconst 0, 1) := by decide +kernel
theorem dX1_lackFor_18 : decode cX1_lackFor 18 = .ok (.iload_n 1, 1) := by decide +kernel
theorem dX1_lackFor_19 : decode cX1_lackFor 19 = .ok (.aload_n 0, 1) := by decide +kernel
theorem dX1_lackFor_20 : decode cX1_lackFor 20 = .ok (.getfield 19, 3) := by decide +kernel
theorem dX1_lackFor_23 : decode cX1_lackFor 23 = .ok (.iload 4, 2) := by decide +kernel
theorem dX1_lackFor_25 : decode cX1_lackFor 25 = .ok (.invokestatic 30, 3) := by decide +kernel
theorem dX1_lackFor_28 : decode cX1_lackFor 28 = .ok (.isub, 1) := by decide +kernel
theorem dX1_lackFor_29 : decode cX1_lackFor 29 = .ok (.invokestatic 62, 3) := by decide +kernel
theorem dX1_lackFor_32 : decode cX1_lackFor 32 = .ok (.iadd, 1) := by decide +kernel
theorem dX1_lackFor_33 : decode cX1_lackFor 33 = .ok (.istore_n 2, 1) := by decide +kernel
theorem dX1_lackFor_34 : decode cX1_lackFor 34 = .ok (.iinc 4 1, 3) := by decide +kernel
theorem dX1_lackFor_37 : decode cX1_lackFor 37 = .ok (.goto (-27), 3) := by decide +kernel
theorem dX1_lackFor_40 : decode cX1_lackFor 40 = .ok (.iload_n 2, 1) := by decide +kernel
theorem dX1_lackFor_41 : decode cX1_lackFor 41 = .ok (.ireturn, 1) := by decide +kernel
theorem dX1_takeSheetsFor_0 : decode cX1_takeSheetsFor 0 = .ok (.aload_n 0, 1) := by decide +kernel
theorem dX1_takeSheetsFor_1 : decode cX1_takeSheetsFor 1 = .ok (.invokevirtual 46, 3) := by decide +kernel
theorem dX1_takeSheetsFor_4 : decode cX1_takeSheetsFor 4 = .ok (.istore_n 2, 1) := by decide +kernel
theorem dX1_takeSheetsFor_5 : decode cX1_takeSheetsFor 5 = .ok (.iconst 0, 1) := by decide +kernel
theorem dX1_takeSheetsFor_6 : decode cX1_takeSheetsFor 6 = .ok (.istore_n 3, 1) := by decide +kernel
theorem dX1_takeSheetsFor_7 : decode cX1_takeSheetsFor 7 = .ok (.iload_n 3, 1) := by decide +kernel
theorem dX1_takeSheetsFor_8 : decode cX1_takeSheetsFor 8 = .ok (.iload_n 2, 1) := by decide +kernel
theorem dX1_takeSheetsFor_9 : decode cX1_takeSheetsFor 9 = .ok (.if_icmp .ge 16, 3) := by decide +kernel
theorem dX1_takeSheetsFor_12 : decode cX1_takeSheetsFor 12 = .ok (.aload_n 0, 1) := by decide +kernel
theorem dX1_takeSheetsFor_13 : decode cX1_takeSheetsFor 13 = .ok (.iload_n 3, 1) := by decide +kernel
theorem dX1_takeSheetsFor_14 : decode cX1_takeSheetsFor 14 = .ok (.iload_n 1, 1) := by decide +kernel
theorem dX1_takeSheetsFor_15 : decode cX1_takeSheetsFor 15 = .ok (.ineg, 1) := by decide +kernel
theorem dX1_takeSheetsFor_16 : decode cX1_takeSheetsFor 16 = .ok (.invokevirtual 67, 3) := by decide +kernel
theorem dX1_takeSheetsFor_19 : decode cX1_takeSheetsFor 19 = .ok (.iinc 3 1, 3) := by decide +kernel
theorem dX1_takeSheetsFor_22 : decode cX1_takeSheetsFor 22 = .ok (.goto (-15), 3) := by decide +kernel
theorem dX1_takeSheetsFor_25 : decode cX1_takeSheetsFor 25 = .ok (.return_, 1) := by decide +kernel
theorem dX2_init_0 : decode cX2_init 0 = .ok (.aload_n 0, 1) := by decide +kernel
theorem dX2_init_1 : decode cX2_init 1 = .ok (.invokespecial 3, 3) := by decide +kernel
theorem dX2_init_4 : decode cX2_init 4 = .ok (.aload_n 0, 1) := by decide +kernel
theorem dX2_init_5 : decode cX2_init 5 = .ok (.iload_n 1, 1) := by decide +kernel
theorem dX2_init_6 : decode cX2_init 6 = .ok (.putfield 9, 3) := by decide +kernel
theorem dX2_init_9 : decode cX2_init 9 = .ok (.aload_n 0, 1) := by decide +kernel
theorem dX2_init_10 : decode cX2_init 10 = .ok (.iload_n 2, 1) := by decide +kernel
theorem dX2_init_11 : decode cX2_init 11 = .ok (.putfield 15, 3) := by decide +kernel
theorem dX2_init_14 : decode cX2_init 14 = .ok (.aload_n 0, 1) := by decide +kernel
theorem dX2_init_15 : decode cX2_init 15 = .ok (.iload_n 3, 1) := by decide +kernel
theorem dX2_init_16 : decode cX2_init 16 = .ok (.putfield 18, 3) := by decide +kernel
theorem dX2_init_19 : decode cX2_init 19 = .ok (.aload_n 0, 1) := by decide +kernel
theorem dX2_init_20 : decode cX2_init 20 = .ok (.bipush 16, 2) := by decide +kernel
theorem dX2_init_22 : decode cX2_init 22 = .ok (.newarray .int, 2) := by decide +kernel
theorem dX2_init_24 : decode cX2_init 24 = .ok (.putfield 21, 3) := by decide +kernel
theorem dX2_init_27 : decode cX2_init 27 = .ok (.aload_n 0, 1) := by decide +kernel
theorem dX2_init_28 : decode cX2_init 28 = .ok (.bipush 16, 2) := by decide +kernel
theorem dX2_init_30 : decode cX2_init 30 = .ok (.newarray .int, 2) := by decide +kernel
theorem dX2_init_32 : decode cX2_init 32 = .ok (.putfield 25, 3) := by decide +kernel
theorem dX2_init_35 : decode cX2_init 35 = .ok (.return_, 1) := by decide +kernel
theorem dX2_keep_0 : decode cX2_keep 0 = .ok (.aload_n 0, 1) := by decide +kernel
theorem dX2_keep_1 : decode cX2_keep 1 = .ok (.getfield 21, 3) := by decide +kernel
theorem dX2_keep_4 : decode cX2_keep 4 = .ok (.iload_n 1, 1) := by decide +kernel
theorem dX2_keep_5 : decode cX2_keep 5 = .ok (.iconst 1, 1) := by decide +kernel
theorem dX2_keep_6 : decode cX2_keep 6 = .ok (.isub, 1) := by decide +kernel
theorem dX2_keep_7 : decode cX2_keep 7 = .ok (.iload_n 2, 1) := by decide +kernel
theorem dX2_keep_8 : decode cX2_keep 8 = .ok (.invokestatic 28, 3) := by decide +kernel
theorem dX2_keep_11 : decode cX2_keep 11 = .ok (.aload_n 0, 1) := by decide +kernel
theorem dX2_keep_12 : decode cX2_keep 12 = .ok (.getfield 25, 3) := by decide +kernel
theorem dX2_keep_15 : decode cX2_keep 15 = .ok (.iload_n 1, 1) := by decide +kernel
theorem dX2_keep_16 : decode cX2_keep 16 = .ok (.iconst 1, 1) := by decide +kernel
theorem dX2_keep_17 : decode cX2_keep 17 = .ok (.isub, 1) := by decide +kernel
theorem dX2_keep_18 : decode cX2_keep 18 = .ok (.iload_n 3, 1) := by decide +kernel
theorem dX2_keep_19 : decode cX2_keep 19 = .ok (.invokestatic 28, 3) := by decide +kernel
theorem dX2_keep_22 : decode cX2_keep 22 = .ok (.return_, 1) := by decide +kernel
theorem dX2_contentOf_0 : decode cX2_contentOf 0 = .ok (.aload_n 0, 1) := by decide +kernel
theorem dX2_contentOf_1 : decode cX2_contentOf 1 = .ok (.getfield 21, 3) := by decide +kernel
theorem dX2_contentOf_4 : decode cX2_contentOf 4 = .ok (.iload_n 1, 1) := by decide +kernel
theorem dX2_contentOf_5 : decode cX2_contentOf 5 = .ok (.iconst 1, 1) := by decide +kernel
theorem dX2_contentOf_6 : decode cX2_contentOf 6 = .ok (.isub, 1) := by decide +kernel
theorem dX2_contentOf_7 : decode cX2_contentOf 7 = .ok (.invokestatic 32, 3) := by decide +kernel
theorem dX2_contentOf_10 : decode cX2_contentOf 10 = .ok (.ireturn, 1) := by decide +kernel
theorem dX2_keptState_0 : decode cX2_keptState 0 = .ok (.aload_n 0, 1) := by decide +kernel
theorem dX2_keptState_1 : decode cX2_keptState 1 = .ok (.getfield 25, 3) := by decide +kernel
theorem dX2_keptState_4 : decode cX2_keptState 4 = .ok (.iload_n 1, 1) := by decide +kernel
theorem dX2_keptState_5 : decode cX2_keptState 5 = .ok (.iconst 1, 1) := by decide +kernel
theorem dX2_keptState_6 : decode cX2_keptState 6 = .ok (.isub, 1) := by decide +kernel
theorem dX2_keptState_7 : decode cX2_keptState 7 = .ok (.invokestatic 32, 3) := by decide +kernel
theorem dX2_keptState_10 : decode cX2_keptState 10 = .ok (.ireturn, 1) := by decide +kernel
theorem dX2_showsInOtherState_0 : decode cX2_showsInOtherState 0 = .ok (.iconst 1, 1) := by decide +kernel
theorem dX2_showsInOtherState_1 : decode cX2_showsInOtherState 1 = .ok (.istore_n 3, 1) := by decide +kernel
theorem dX2_showsInOtherState_2 : decode cX2_showsInOtherState 2 = .ok (.iload_n 3, 1) := by decide +kernel
theorem dX2_showsInOtherState_3 : decode cX2_showsInOtherState 3 = .ok (.aload_n 0, 1) := by decide +kernel
theorem dX2_showsInOtherState_4 : decode cX2_showsInOtherState 4 = .ok (.getfield 15, 3) := by decide +kernel
theorem dX2_showsInOtherState_7 : decode cX2_showsInOtherState 7 = .ok (.if_icmp .gt 29, 3) := by decide +kernel
theorem dX2_showsInOtherState_10 : decode cX2_showsInOtherState 10 = .ok (.aload_n 0, 1) := by decide +kernel
theorem dX2_showsInOtherState_11 : decode cX2_showsInOtherState 11 = .ok (.iload_n 3, 1) := by decide +kernel
theorem dX2_showsInOtherState_12 : decode cX2_showsInOtherState 12 = .ok (.invokevirtual 36, 3) := by decide +kernel
theorem dX2_showsInOtherState_15 : decode cX2_showsInOtherState 15 = .ok (.iload_n 1, 1) := by decide +kernel
theorem dX2_showsInOtherState_16 : decode cX2_showsInOtherState 16 = .ok (.if_icmp .ne 14, 3) := by decide +kernel
theorem dX2_showsInOtherState_19 : decode cX2_showsInOtherState 19 = .ok (.aload_n 0, 1) := by decide +kernel
theorem dX2_showsInOtherState_20 : decode cX2_showsInOtherState 20 = .ok (.iload_n 3, 1) := by decide +kernel
theorem dX2_showsInOtherState_21 : decode cX2_showsInOtherState 21 = .ok (.invokevirtual 40, 3) := by decide +kernel
theorem dX2_showsInOtherState_24 : decode cX2_showsInOtherState 24 = .ok (.iload_n 2, 1) := by decide +kernel
theorem dX2_showsInOtherState_25 : decode cX2_showsInOtherState 25 = .ok (.if_icmp .eq 5, 3) := by decide +kernel
theorem dX2_showsInOtherState_28 : decode cX2_showsInOtherState 28 = .ok (.iconst 1, 1) := by decide +kernel
theorem dX2_showsInOtherState_29 : decode cX2_showsInOtherState 29 = .ok (.ireturn, 1) := by decide +kernel
theorem dX2_showsInOtherState_30 : decode cX2_showsInOtherState 30 = .ok (.iinc 3 1, 3) := by decide +kernel
theorem dX2_showsInOtherState_33 : decode cX2_showsInOtherState 33 = .ok (.goto (-31), 3) := by decide +kernel
theorem dX2_showsInOtherState_36 : decode cX2_showsInOtherState 36 = .ok (.iconst 0, 1) := by decide +kernel
theorem dX2_showsInOtherState_37 : decode cX2_showsInOtherState 37 = .ok (.ireturn, 1) := by decide +kernel
theorem dX3_init_0 : decode cX3_init 0 = .ok (.aload_n 0, 1) := by decide +kernel
theorem dX3_init_1 : decode cX3_init 1 = .ok (.invokespecial 3, 3) := by decide +kernel
theorem dX3_init_4 : decode cX3_init 4 = .ok (.aload_n 0, 1) := by decide +kernel
theorem dX3_init_5 : decode cX3_init 5 = .ok (.bipush 9, 2) := by decide +kernel
theorem dX3_init_7 : decode cX3_init 7 = .ok (.newarray .int, 2) := by decide +kernel
theorem dX3_init_9 : decode cX3_init 9 = .ok (.putfield 9, 3) := by decide +kernel
theorem dX3_init_12 : decode cX3_init 12 = .ok (.aload_n 0, 1) := by decide +kernel
theorem dX3_init_13 : decode cX3_init 13 = .ok (.bipush 9, 2) := by decide +kernel
theorem dX3_init_15 : decode cX3_init 15 = .ok (.newarray .int, 2) := by decide +kernel
theorem dX3_init_17 : decode cX3_init 17 = .ok (.putfield 15, 3) := by decide +kernel
theorem dX3_init_20 : decode cX3_init 20 = .ok (.aload_n 0, 1) := by decide +kernel
theorem dX3_init_21 : decode cX3_init 21 = .ok (.sipush 2048, 3) := by decide +kernel
theorem dX3_init_24 : decode cX3_init 24 = .ok (.newarray .int, 2) := by decide +kernel
theorem dX3_init_26 : decode cX3_init 26 = .ok (.putfield 18, 3) := by decide +kernel
theorem dX3_init_29 : decode cX3_init 29 = .ok (.return_, 1) := by decide +kernel
theorem dX3_start_0 : decode cX3_start 0 = .ok (.aload_n 0, 1) := by decide +kernel
theorem dX3_start_1 : decode cX3_start 1 = .ok (.iconst 0, 1) := by decide +kernel
theorem dX3_start_2 : decode cX3_start 2 = .ok (.iload_n 1, 1) := by decide +kernel
theorem dX3_start_3 : decode cX3_start 3 = .ok (.bipush 8, 2) := by decide +kernel
theorem dX3_start_5 : decode cX3_start 5 = .ok (.invokestatic 21, 3) := by decide +kernel
theorem dX3_start_8 : decode cX3_start 8 = .ok (.invokestatic 27, 3) := by decide +kernel
theorem dX3_start_11 : decode cX3_start 11 = .ok (.putfield 30, 3) := by decide +kernel
theorem dX3_start_14 : decode cX3_start 14 = .ok (.aload_n 0, 1) := by decide +kernel
theorem dX3_start_15 : decode cX3_start 15 = .ok (.getfield 9, 3) := by decide +kernel
theorem dX3_start_18 : decode cX3_start 18 = .ok (.bipush 8, 2) := by decide +kernel
theorem dX3_start_20 : decode cX3_start 20 = .ok (.iload_n 2, 1) := by decide +kernel
theorem dX3_start_21 : decode cX3_start 21 = .ok (.invokestatic 34, 3) := by decide +kernel
theorem dX3_start_24 : decode cX3_start 24 = .ok (.aload_n 0, 1) := by decide +kernel
theorem dX3_start_25 : decode cX3_start 25 = .ok (.getfield 15, 3) := by decide +kernel
theorem dX3_start_28 : decode cX3_start 28 = .ok (.bipush 8, 2) := by decide +kernel
theorem dX3_start_30 : decode cX3_start 30 = .ok (.iload_n 3, 1) := by decide +kernel
theorem dX3_start_31 : decode cX3_start 31 = .ok (.invokestatic 34, 3) := by decide +kernel
theorem dX3_start_34 : decode cX3_start 34 = .ok (.return_, 1) := by decide +kernel
theorem dX3_setSheet_0 : decode cX3_setSheet 0 = .ok (.aload_n 0, 1) := by decide +kernel
theorem dX3_setSheet_1 : decode cX3_setSheet 1 = .ok (.getfield 9, 3) := by decide +kernel
theorem dX3_setSheet_4 : decode cX3_setSheet 4 = .ok (.iload_n 1, 1) := by decide +kernel
theorem dX3_setSheet_5 : decode cX3_setSheet 5 = .ok (.iload_n 2, 1) := by decide +kernel
theorem dX3_setSheet_6 : decode cX3_setSheet 6 = .ok (.invokestatic 34, 3) := by decide +kernel
theorem dX3_setSheet_9 : decode cX3_setSheet 9 = .ok (.aload_n 0, 1) := by decide +kernel
theorem dX3_setSheet_10 : decode cX3_setSheet 10 = .ok (.getfield 15, 3) := by decide +kernel
theorem dX3_setSheet_13 : decode cX3_setSheet 13 = .ok (.iload_n 1, 1) := by decide +kernel
theorem dX3_setSheet_14 : decode cX3_setSheet 14 = .ok (.iload_n 3, 1) := by decide +kernel
theorem dX3_setSheet_15 : decode cX3_setSheet 15 = .ok (.invokestatic 34, 3) := by decide +kernel
theorem dX3_setSheet_18 : decode cX3_setSheet 18 = .ok (.return_, 1) := by decide +kernel
theorem dX3_change_0 : decode cX3_change 0 = .ok (.aload_n 0, 1) := by decide +kernel
theorem dX3_change_1 : decode cX3_change 1 = .ok (.iload_n 2, 1) := by decide +kernel
theorem dX3_change_2 : decode cX3_change 2 = .ok (.invokestatic 38, 3) := by decide +kernel
theorem dX3_change_5 : decode cX3_change 5 = .ok (.aload_n 0, 1) := by decide +kernel
theorem dX3_change_6 : decode cX3_change 6 = .ok (.iload_n 3, 1) := by decide +kernel
theorem dX3_change_7 : decode cX3_change 7 = .ok (.invokestatic 38, 3) := by decide +kernel
theorem dX3_change_10 : decode cX3_change 10 = .ok (.if_icmp .ne 7, 3) := by decide +kernel
theorem dX3_change_13 : decode cX3_change 13 = .ok (.iconst 0, 1) := by decide +kernel
theorem dX3_change_14 : decode cX3_change 14 = .ok (.goto 5, 3) := by decide +kernel
theorem dX3_change_17 : decode cX3_change 17 = .ok (.bipush 20, 2) := by decide +kernel
theorem dX3_change_19 : decode cX3_change 19 = .ok (.istore 4, 2) := by decide +kernel
theorem dX3_change_21 : decode cX3_change 21 = .ok (.aload_n 1, 1) := by decide +kernel
theorem dX3_change_22 : decode cX3_change 22 = .ok (.iload_n 2, 1) := by decide +kernel
theorem dX3_change_23 : decode cX3_change 23 = .ok (.invokestatic 38, 3) := by decide +kernel
theorem dX3_change_26 : decode cX3_change 26 = .ok (.aload_n 1, 1) := by decide +kernel
theorem dX3_change_27 : decode cX3_change 27 = .ok (.iload_n 3, 1) := by decide +kernel
theorem dX3_change_28 : decode cX3_change 28 = .ok (.invokestatic 38, 3) := by decide +kernel
theorem dX3_change_31 : decode cX3_change 31 = .ok (.if_icmp .ne 7, 3) := by decide +kernel
theorem dX3_change_34 : decode cX3_change 34 = .ok (.iconst 0, 1) := by decide +kernel
theorem dX3_change_35 : decode cX3_change 35 = .ok (.goto 5, 3) := by decide +kernel
theorem dX3_change_38 : decode cX3_change 38 = .ok (.bipush 20, 2) := by decide +kernel
theorem dX3_change_40 : decode cX3_change 40 = .ok (.istore 5, 2) := by decide +kernel
theorem dX3_change_42 : decode cX3_change 42 = .ok (.iload 4, 2) := by decide +kernel
theorem dX3_change_44 : decode cX3_change 44 = .ok (.iload 5, 2) := by decide +kernel
theorem dX3_change_46 : decode cX3_change 46 = .ok (.iadd, 1) := by decide +kernel
theorem dX3_change_47 : decode cX3_change 47 = .ok (.ireturn, 1) := by decide +kernel
theorem dX3_leastForAllSets_0 : decode cX3_leastForAllSets 0 = .ok (.iconst 1, 1) := by decide +kernel
theorem dX3_leastForAllSets_1 : decode cX3_leastForAllSets 1 = .ok (.aload_n 0, 1) := by decide +kernel
theorem dX3_leastForAllSets_2 : decode cX3_leastForAllSets 2 = .ok (.getfield 30, 3) := by decide +kernel
theorem dX3_leastForAllSets_5 : decode cX3_leastForAllSets 5 = .ok (.ishl, 1) := by decide +kernel
theorem dX3_leastForAllSets_6 : decode cX3_leastForAllSets 6 = .ok (.iconst 1, 1) := by decide +kernel
theorem dX3_leastForAllSets_7 : decode cX3_leastForAllSets 7 = .ok (.isub, 1) := by decide +kernel
theorem dX3_leastForAllSets_8 : decode cX3_leastForAllSets 8 = .ok (.istore_n 1, 1) := by decide +kernel
theorem dX3_leastForAllSets_9 : decode cX3_leastForAllSets 9 = .ok (.iconst 1, 1) := by decide +kernel
theorem dX3_leastForAllSets_10 : decode cX3_leastForAllSets 10 = .ok (.istore_n 2, 1) := by decide +kernel
theorem dX3_leastForAllSets_11 : decode cX3_leastForAllSets 11 = .ok (.iload_n 2, 1) := by decide +kernel
theorem dX3_leastForAllSets_12 : decode cX3_leastForAllSets 12 = .ok (.iload_n 1, 1) := by decide +kernel
theorem dX3_leastForAllSets_13 : decode cX3_leastForAllSets 13 = .ok (.if_icmp .gt 52, 3) := by decide +kernel
theorem dX3_leastForAllSets_16 : decode cX3_leastForAllSets 16 = .ok (.iconst 0, 1) := by decide +kernel
theorem dX3_leastForAllSets_17 : decode cX3_leastForAllSets 17 = .ok (.istore_n 3, 1) := by decide +kernel
theorem dX3_leastForAllSets_18 : decode cX3_leastForAllSets 18 = .ok (.iload_n 3, 1) := by decide +kernel
theorem dX3_leastForAllSets_19 : decode cX3_leastForAllSets 19 = .ok (.aload_n 0, 1) := by decide +kernel
theorem dX3_leastForAllSets_20 : decode cX3_leastForAllSets 20 = .ok (.getfield 30, 3) := by decide +kernel
theorem dX3_leastForAllSets_23 : decode cX3_leastForAllSets 23 = .ok (.if_icmp .ge 36, 3) := by decide +kernel
theorem dX3_leastForAllSets_26 : decode cX3_leastForAllSets 26 = .ok (.iload_n 2, 1) := by decide +kernel
theorem dX3_leastForAllSets_27 : decode cX3_leastForAllSets 27 = .ok (.iconst 1, 1) := by decide +kernel
theorem dX3_leastForAllSets_28 : decode cX3_leastForAllSets 28 = .ok (.iload_n 3, 1) := by decide +kernel
theorem dX3_leastForAllSets_29 : decode cX3_leastForAllSets 29 = .ok (.ishl, 1) := by decide +kernel
theorem dX3_leastForAllSets_30 : decode cX3_leastForAllSets 30 = .ok (.iand, 1) := by decide +kernel
theorem dX3_leastForAllSets_31 : decode cX3_leastForAllSets 31 = .ok (.ifCond .eq 22, 3) := by decide +kernel
theorem dX3_leastForAllSets_34 : decode cX3_leastForAllSets 34 = .ok (.aload_n 0, 1) := by decide +kernel
theorem dX3_leastForAllSets_35 : decode cX3_leastForAllSets 35 = .ok (.getfield 18, 3) := by decide +kernel
theorem dX3_leastForAllSets_38 : decode cX3_leastForAllSets 38 = .ok (.iload_n 2, 1) := by decide +kernel
theorem dX3_leastForAllSets_39 : decode cX3_leastForAllSets 39 = .ok (.bipush 8, 2) := by decide +kernel
theorem dX3_leastForAllSets_41 : decode cX3_leastForAllSets 41 = .ok (.imul, 1) := by decide +kernel
theorem dX3_leastForAllSets_42 : decode cX3_leastForAllSets 42 = .ok (.iload_n 3, 1) := by decide +kernel
theorem dX3_leastForAllSets_43 : decode cX3_leastForAllSets 43 = .ok (.iadd, 1) := by decide +kernel
theorem dX3_leastForAllSets_44 : decode cX3_leastForAllSets 44 = .ok (.aload_n 0, 1) := by decide +kernel
theorem dX3_leastForAllSets_45 : decode cX3_leastForAllSets 45 = .ok (.iload_n 2, 1) := by decide +kernel
theorem dX3_leastForAllSets_46 : decode cX3_leastForAllSets 46 = .ok (.iload_n 3, 1) := by decide +kernel
theorem dX3_leastForAllSets_47 : decode cX3_leastForAllSets 47 = .ok (.invokevirtual 42, 3) := by decide +kernel
theorem dX3_leastForAllSets_50 : decode cX3_leastForAllSets 50 = .ok (.invokestatic 34, 3) := by decide +kernel
theorem dX3_leastForAllSets_53 : decode cX3_leastForAllSets 53 = .ok (.iinc 3 1, 3) := by decide +kernel
theorem dX3_leastForAllSets_56 : decode cX3_leastForAllSets 56 = .ok (.goto (-38), 3) := by decide +kernel
theorem dX3_leastForAllSets_59 : decode cX3_leastForAllSets 59 = .ok (.iinc 2 1, 3) := by decide +kernel
theorem dX3_leastForAllSets_62 : decode cX3_leastForAllSets 62 = .ok (.goto (-51), 3) := by decide +kernel
theorem dX3_leastForAllSets_65 : decode cX3_leastForAllSets 65 = .ok (.ldc 45, 2) := by decide +kernel
theorem dX3_leastForAllSets_67 : decode cX3_leastForAllSets 67 = .ok (.istore_n 2, 1) := by decide +kernel
theorem dX3_leastForAllSets_68 : decode cX3_leastForAllSets 68 = .ok (.iconst 0, 1) := by decide +kernel
theorem dX3_leastForAllSets_69 : decode cX3_leastForAllSets 69 = .ok (.istore_n 3, 1) := by decide +kernel
theorem dX3_leastForAllSets_70 : decode cX3_leastForAllSets 70 = .ok (.iload_n 3, 1) := by decide +kernel
theorem dX3_leastForAllSets_71 : decode cX3_leastForAllSets 71 = .ok (.aload_n 0, 1) := by decide +kernel
theorem dX3_leastForAllSets_72 : decode cX3_leastForAllSets 72 = .ok (.getfield 30, 3) := by decide +kernel
theorem dX3_leastForAllSets_75 : decode cX3_leastForAllSets 75 = .ok (.if_icmp .ge 27, 3) := by decide +kernel
theorem dX3_leastForAllSets_78 : decode cX3_leastForAllSets 78 = .ok (.iload_n 2, 1) := by decide +kernel
theorem dX3_leastForAllSets_79 : decode cX3_leastForAllSets 79 = .ok (.aload_n 0, 1) := by decide +kernel
theorem dX3_leastForAllSets_80 : decode cX3_leastForAllSets 80 = .ok (.getfield 18, 3) := by decide +kernel
theorem dX3_leastForAllSets_83 : decode cX3_leastForAllSets 83 = .ok (.iload_n 1, 1) := by decide +kernel
theorem dX3_leastForAllSets_84 : decode cX3_leastForAllSets 84 = .ok (.bipush 8, 2) := by decide +kernel
theorem dX3_leastForAllSets_86 : decode cX3_leastForAllSets 86 = .ok (.imul, 1) := by decide +kernel
theorem dX3_leastForAllSets_87 : decode cX3_leastForAllSets 87 = .ok (.iload_n 3, 1) := by decide +kernel
theorem dX3_leastForAllSets_88 : decode cX3_leastForAllSets 88 = .ok (.iadd, 1) := by decide +kernel
theorem dX3_leastForAllSets_89 : decode cX3_leastForAllSets 89 = .ok (.invokestatic 38, 3) := by decide +kernel
theorem dX3_leastForAllSets_92 : decode cX3_leastForAllSets 92 = .ok (.invokestatic 21, 3) := by decide +kernel
theorem dX3_leastForAllSets_95 : decode cX3_leastForAllSets 95 = .ok (.istore_n 2, 1) := by decide +kernel
theorem dX3_leastForAllSets_96 : decode cX3_leastForAllSets 96 = .ok (.iinc 3 1, 3) := by decide +kernel
theorem dX3_leastForAllSets_99 : decode cX3_leastForAllSets 99 = .ok (.goto (-29), 3) := by decide +kernel
theorem dX3_leastForAllSets_102 : decode cX3_leastForAllSets 102 = .ok (.iload_n 2, 1) := by decide +kernel
theorem dX3_leastForAllSets_103 : decode cX3_leastForAllSets 103 = .ok (.ireturn, 1) := by decide +kernel
theorem dX3_leastOfSet_0 : decode cX3_leastOfSet 0 = .ok (.iload_n 1, 1) := by decide +kernel
theorem dX3_leastOfSet_1 : decode cX3_leastOfSet 1 = .ok (.iconst 1, 1) := by decide +kernel
theorem dX3_leastOfSet_2 : decode cX3_leastOfSet 2 = .ok (.iload_n 2, 1) := by decide +kernel
theorem dX3_leastOfSet_3 : decode cX3_leastOfSet 3 = .ok (.ishl, 1) := by decide +kernel
theorem dX3_leastOfSet_4 : decode cX3_leastOfSet 4 = .ok (.iconst (-1), 1) := by decide +kernel
theorem dX3_leastOfSet_5 : decode cX3_leastOfSet 5 = .ok (.ixor, 1) := by decide +kernel
theorem dX3_leastOfSet_6 : decode cX3_leastOfSet 6 = .ok (.iand, 1) := by decide +kernel
theorem dX3_leastOfSet_7 : decode cX3_leastOfSet 7 = .ok (.istore_n 3, 1) := by decide +kernel
theorem dX3_leastOfSet_8 : decode cX3_leastOfSet 8 = .ok (.iload_n 3, 1) := by decide +kernel
theorem dX3_leastOfSet_9 : decode cX3_leastOfSet 9 = .ok (.ifCond .ne 18, 3) := by decide +kernel
theorem dX3_leastOfSet_12 : decode cX3_leastOfSet 12 = .ok (.aload_n 0, 1) := by decide +kernel
theorem dX3_leastOfSet_13 : decode cX3_leastOfSet 13 = .ok (.getfield 9, 3) := by decide +kernel
theorem dX3_leastOfSet_16 : decode cX3_leastOfSet 16 = .ok (.aload_n 0, 1) := by decide +kernel
theorem dX3_leastOfSet_17 : decode cX3_leastOfSet 17 = .ok (.getfield 15, 3) := by decide +kernel
theorem dX3_leastOfSet_20 : decode cX3_leastOfSet 20 = .ok (.bipush 8, 2) := by decide +kernel
theorem dX3_leastOfSet_22 : decode cX3_leastOfSet 22 = .ok (.iload_n 2, 1) := by decide +kernel
theorem dX3_leastOfSet_23 : decode cX3_leastOfSet 23 = .ok (.invokestatic 46, 3) := by decide +kernel
theorem dX3_leastOfSet_26 : decode cX3_leastOfSet 26 = .ok (.ireturn, 1) := by decide +kernel
theorem dX3_leastOfSet_27 : decode cX3_leastOfSet 27 = .ok (.ldc 45, 2) := by decide +kernel
theorem dX3_leastOfSet_29 : decode cX3_leastOfSet 29 = .ok (.istore 4, 2) := by decide +kernel
theorem dX3_leastOfSet_31 : decode cX3_leastOfSet 31 = .ok (.iconst 0, 1) := by decide +kernel
theorem dX3_leastOfSet_32 : decode cX3_leastOfSet 32 = .ok (.istore 5, 2) := by decide +kernel
theorem dX3_leastOfSet_34 : decode cX3_leastOfSet 34 = .ok (.iload 5, 2) := by decide +kernel
theorem dX3_leastOfSet_36 : decode cX3_leastOfSet 36 = .ok (.aload_n 0, 1) := by decide +kernel
theorem dX3_leastOfSet_37 : decode cX3_leastOfSet 37 = .ok (.getfield 30, 3) := by decide +kernel
theorem dX3_leastOfSet_40 : decode cX3_leastOfSet 40 = .ok (.if_icmp .ge 58, 3) := by decide +kernel
theorem dX3_leastOfSet_43 : decode cX3_leastOfSet 43 = .ok (.iload_n 3, 1) := by decide +kernel
theorem dX3_leastOfSet_44 : decode cX3_leastOfSet 44 = .ok (.iconst 1, 1) := by decide +kernel
theorem dX3_leastOfSet_45 : decode cX3_leastOfSet 45 = .ok (.iload 5, 2) := by decide +kernel
theorem dX3_leastOfSet_47 : decode cX3_leastOfSet 47 = .ok (.ishl, 1) := by decide +kernel
theorem dX3_leastOfSet_48 : decode cX3_leastOfSet 48 = .ok (.iand, 1) := by decide +kernel
theorem dX3_leastOfSet_49 : decode cX3_leastOfSet 49 = .ok (.ifCond .eq 43, 3) := by decide +kernel
theorem dX3_leastOfSet_52 : decode cX3_leastOfSet 52 = .ok (.aload_n 0, 1) := by decide +kernel
theorem dX3_leastOfSet_53 : decode cX3_leastOfSet 53 = .ok (.getfield 18, 3) := by decide +kernel
theorem dX3_leastOfSet_56 : decode cX3_leastOfSet 56 = .ok (.iload_n 3, 1) := by decide +kernel
theorem dX3_leastOfSet_57 : decode cX3_leastOfSet 57 = .ok (.bipush 8, 2) := by decide +kernel
theorem dX3_leastOfSet_59 : decode cX3_leastOfSet 59 = .ok (.imul, 1) := by decide +kernel
theorem dX3_leastOfSet_60 : decode cX3_leastOfSet 60 = .ok (.iload 5, 2) := by decide +kernel
theorem dX3_leastOfSet_62 : decode cX3_leastOfSet 62 = .ok (.iadd, 1) := by decide +kernel
theorem dX3_leastOfSet_63 : decode cX3_leastOfSet 63 = .ok (.invokestatic 38, 3) := by decide +kernel
theorem dX3_leastOfSet_66 : decode cX3_leastOfSet 66 = .ok (.aload_n 0, 1) := by decide +kernel
theorem dX3_leastOfSet_67 : decode cX3_leastOfSet 67 = .ok (.getfield 9, 3) := by decide +kernel
theorem dX3_leastOfSet_70 : decode cX3_leastOfSet 70 = .ok (.aload_n 0, 1) := by decide +kernel
theorem dX3_leastOfSet_71 : decode cX3_leastOfSet 71 = .ok (.getfield 15, 3) := by decide +kernel
theorem dX3_leastOfSet_74 : decode cX3_leastOfSet 74 = .ok (.iload 5, 2) := by decide +kernel
theorem dX3_leastOfSet_76 : decode cX3_leastOfSet 76 = .ok (.iload_n 2, 1) := by decide +kernel
theorem dX3_leastOfSet_77 : decode cX3_leastOfSet 77 = .ok (.invokestatic 46, 3) := by decide +kernel
theorem dX3_leastOfSet_80 : decode cX3_leastOfSet 80 = .ok (.iadd, 1) := by decide +kernel
theorem dX3_leastOfSet_81 : decode cX3_leastOfSet 81 = .ok (.istore 6, 2) := by decide +kernel
theorem dX3_leastOfSet_83 : decode cX3_leastOfSet 83 = .ok (.iload 4, 2) := by decide +kernel
theorem dX3_leastOfSet_85 : decode cX3_leastOfSet 85 = .ok (.iload 6, 2) := by decide +kernel
theorem dX3_leastOfSet_87 : decode cX3_leastOfSet 87 = .ok (.invokestatic 21, 3) := by decide +kernel
theorem dX3_leastOfSet_90 : decode cX3_leastOfSet 90 = .ok (.istore 4, 2) := by decide +kernel
theorem dX3_leastOfSet_92 : decode cX3_leastOfSet 92 = .ok (.iinc 5 1, 3) := by decide +kernel
theorem dX3_leastOfSet_95 : decode cX3_leastOfSet 95 = .ok (.goto (-61), 3) := by decide +kernel
theorem dX3_leastOfSet_98 : decode cX3_leastOfSet 98 = .ok (.iload 4, 2) := by decide +kernel
theorem dX3_leastOfSet_100 : decode cX3_leastOfSet 100 = .ok (.ireturn, 1) := by decide +kernel
theorem dX3_leastOfAllOrders_0 : decode cX3_leastOfAllOrders 0 = .ok (.aload_n 0, 1) := by decide +kernel
theorem dX3_leastOfAllOrders_1 : decode cX3_leastOfAllOrders 1 = .ok (.getfield 9, 3) := by decide +kernel
theorem dX3_leastOfAllOrders_4 : decode cX3_leastOfAllOrders 4 = .ok (.aload_n 0, 1) := by decide +kernel
theorem dX3_leastOfAllOrders_5 : decode cX3_leastOfAllOrders 5 = .ok (.getfield 15, 3) := by decide +kernel
theorem dX3_leastOfAllOrders_8 : decode cX3_leastOfAllOrders 8 = .ok (.aload_n 0, 1) := by decide +kernel
theorem dX3_leastOfAllOrders_9 : decode cX3_leastOfAllOrders 9 = .ok (.getfield 30, 3) := by decide +kernel
theorem dX3_leastOfAllOrders_12 : decode cX3_leastOfAllOrders 12 = .ok (.iconst 0, 1) := by decide +kernel
theorem dX3_leastOfAllOrders_13 : decode cX3_leastOfAllOrders 13 = .ok (.bipush 8, 2) := by decide +kernel
theorem dX3_leastOfAllOrders_15 : decode cX3_leastOfAllOrders 15 = .ok (.iconst 0, 1) := by decide +kernel
theorem dX3_leastOfAllOrders_16 : decode cX3_leastOfAllOrders 16 = .ok (.invokestatic 50, 3) := by decide +kernel
theorem dX3_leastOfAllOrders_19 : decode cX3_leastOfAllOrders 19 = .ok (.ireturn, 1) := by decide +kernel
theorem dX3_leastOfRest_0 : decode cX3_leastOfRest 0 = .ok (.iload 5, 2) := by decide +kernel
theorem dX3_leastOfRest_2 : decode cX3_leastOfRest 2 = .ok (.iload_n 2, 1) := by decide +kernel
theorem dX3_leastOfRest_3 : decode cX3_leastOfRest 3 = .ok (.if_icmp .ge 10, 3) := by decide +kernel
theorem dX3_leastOfRest_6 : decode cX3_leastOfRest 6 = .ok (.iload 5, 2) := by decide +kernel
theorem dX3_leastOfRest_8 : decode cX3_leastOfRest 8 = .ok (.bipush 6, 2) := by decide +kernel
theorem dX3_leastOfRest_10 : decode cX3_leastOfRest 10 = .ok (.if_icmp .lt 5, 3) := by decide +kernel
theorem dX3_leastOfRest_13 : decode cX3_leastOfRest 13 = .ok (.iconst 0, 1) := by decide +kernel
theorem dX3_leastOfRest_14 : decode cX3_leastOfRest 14 = .ok (.ireturn, 1) := by decide +kernel
theorem dX3_leastOfRest_15 : decode cX3_leastOfRest 15 = .ok (.ldc 45, 2) := by decide +kernel
theorem dX3_leastOfRest_17 : decode cX3_leastOfRest 17 = .ok (.istore 6, 2) := by decide +kernel
theorem dX3_leastOfRest_19 : decode cX3_leastOfRest 19 = .ok (.iconst 0, 1) := by decide +kernel
theorem dX3_leastOfRest_20 : decode cX3_leastOfRest 20 = .ok (.istore 7, 2) := by decide +kernel
theorem dX3_leastOfRest_22 : decode cX3_leastOfRest 22 = .ok (.iload 7, 2) := by decide +kernel
theorem dX3_leastOfRest_24 : decode cX3_leastOfRest 24 = .ok (.iload_n 2, 1) := by decide +kernel
theorem dX3_leastOfRest_25 : decode cX3_leastOfRest 25 = .ok (.if_icmp .ge 59, 3) := by decide +kernel
theorem dX3_leastOfRest_28 : decode cX3_leastOfRest 28 = .ok (.iconst 1, 1) := by decide +kernel
theorem dX3_leastOfRest_29 : decode cX3_leastOfRest 29 = .ok (.iload 7, 2) := by decide +kernel
theorem dX3_leastOfRest_31 : decode cX3_leastOfRest 31 = .ok (.ishl, 1) := by decide +kernel
theorem dX3_leastOfRest_32 : decode cX3_leastOfRest 32 = .ok (.istore 8, 2) := by decide +kernel
theorem dX3_leastOfRest_34 : decode cX3_leastOfRest 34 = .ok (.iload_n 3, 1) := by decide +kernel
theorem dX3_leastOfRest_35 : decode cX3_leastOfRest 35 = .ok (.iload 8, 2) := by decide +kernel
theorem dX3_leastOfRest_37 : decode cX3_leastOfRest 37 = .ok (.iand, 1) := by decide +kernel
theorem dX3_leastOfRest_38 : decode cX3_leastOfRest 38 = .ok (.ifCond .ne 40, 3) := by decide +kernel
theorem dX3_leastOfRest_41 : decode cX3_leastOfRest 41 = .ok (.aload_n 0, 1) := by decide +kernel
theorem dX3_leastOfRest_42 : decode cX3_leastOfRest 42 = .ok (.aload_n 1, 1) := by decide +kernel
theorem dX3_leastOfRest_43 : decode cX3_leastOfRest 43 = .ok (.iload 4, 2) := by decide +kernel
theorem dX3_leastOfRest_45 : decode cX3_leastOfRest 45 = .ok (.iload 7, 2) := by decide +kernel
theorem dX3_leastOfRest_47 : decode cX3_leastOfRest 47 = .ok (.invokestatic 46, 3) := by decide +kernel
theorem dX3_leastOfRest_50 : decode cX3_leastOfRest 50 = .ok (.aload_n 0, 1) := by decide +kernel
theorem dX3_leastOfRest_51 : decode cX3_leastOfRest 51 = .ok (.aload_n 1, 1) := by decide +kernel
theorem dX3_leastOfRest_52 : decode cX3_leastOfRest 52 = .ok (.iload_n 2, 1) := by decide +kernel
theorem dX3_leastOfRest_53 : decode cX3_leastOfRest 53 = .ok (.iload_n 3, 1) := by decide +kernel
theorem dX3_leastOfRest_54 : decode cX3_leastOfRest 54 = .ok (.iload 8, 2) := by decide +kernel
theorem dX3_leastOfRest_56 : decode cX3_leastOfRest 56 = .ok (.ior, 1) := by decide +kernel
theorem dX3_leastOfRest_57 : decode cX3_leastOfRest 57 = .ok (.iload 7, 2) := by decide +kernel
theorem dX3_leastOfRest_59 : decode cX3_leastOfRest 59 = .ok (.iload 5, 2) := by decide +kernel
theorem dX3_leastOfRest_61 : decode cX3_leastOfRest 61 = .ok (.iconst 1, 1) := by decide +kernel
theorem dX3_leastOfRest_62 : decode cX3_leastOfRest 62 = .ok (.iadd, 1) := by decide +kernel
theorem dX3_leastOfRest_63 : decode cX3_leastOfRest 63 = .ok (.invokestatic 50, 3) := by decide +kernel
theorem dX3_leastOfRest_66 : decode cX3_leastOfRest 66 = .ok (.iadd, 1) := by decide +kernel
theorem dX3_leastOfRest_67 : decode cX3_leastOfRest 67 = .ok (.istore 9, 2) := by decide +kernel
theorem dX3_leastOfRest_69 : decode cX3_leastOfRest 69 = .ok (.iload 6, 2) := by decide +kernel
theorem dX3_leastOfRest_71 : decode cX3_leastOfRest 71 = .ok (.iload 9, 2) := by decide +kernel
theorem dX3_leastOfRest_73 : decode cX3_leastOfRest 73 = .ok (.invokestatic 21, 3) := by decide +kernel
theorem dX3_leastOfRest_76 : decode cX3_leastOfRest 76 = .ok (.istore 6, 2) := by decide +kernel
theorem dX3_leastOfRest_78 : decode cX3_leastOfRest 78 = .ok (.iinc 7 1, 3) := by decide +kernel
theorem dX3_leastOfRest_81 : decode cX3_leastOfRest 81 = .ok (.goto (-59), 3) := by decide +kernel
theorem dX3_leastOfRest_84 : decode cX3_leastOfRest 84 = .ok (.iload 6, 2) := by decide +kernel
theorem dX3_leastOfRest_86 : decode cX3_leastOfRest 86 = .ok (.ireturn, 1) := by decide +kernel
theorem dX4_init_0 : decode cX4_init 0 = .ok (.aload_n 0, 1) := by decide +kernel
theorem dX4_init_1 : decode cX4_init 1 = .ok (.invokespecial 3, 3) := by decide +kernel
theorem dX4_init_4 : decode cX4_init 4 = .ok (.aload_n 0, 1) := by decide +kernel
theorem dX4_init_5 : decode cX4_init 5 = .ok (.sipush 156, 3) := by decide +kernel
theorem dX4_init_8 : decode cX4_init 8 = .ok (.newarray .int, 2) := by decide +kernel
theorem dX4_init_10 : decode cX4_init 10 = .ok (.putfield 9, 3) := by decide +kernel
theorem dX4_init_13 : decode cX4_init 13 = .ok (.iconst 0, 1) := by decide +kernel
theorem dX4_init_14 : decode cX4_init 14 = .ok (.istore_n 1, 1) := by decide +kernel
theorem dX4_init_15 : decode cX4_init 15 = .ok (.iload_n 1, 1) := by decide +kernel
theorem dX4_init_16 : decode cX4_init 16 = .ok (.aload_n 0, 1) := by decide +kernel
theorem dX4_init_17 : decode cX4_init 17 = .ok (.getfield 9, 3) := by decide +kernel
theorem dX4_init_20 : decode cX4_init 20 = .ok (.arraylength, 1) := by decide +kernel
theorem dX4_init_21 : decode cX4_init 21 = .ok (.if_icmp .ge 16, 3) := by decide +kernel
theorem dX4_init_24 : decode cX4_init 24 = .ok (.aload_n 0, 1) := by decide +kernel
theorem dX4_init_25 : decode cX4_init 25 = .ok (.getfield 9, 3) := by decide +kernel
theorem dX4_init_28 : decode cX4_init 28 = .ok (.iload_n 1, 1) := by decide +kernel
theorem dX4_init_29 : decode cX4_init 29 = .ok (.iconst (-1), 1) := by decide +kernel
theorem dX4_init_30 : decode cX4_init 30 = .ok (.iastore, 1) := by decide +kernel
theorem dX4_init_31 : decode cX4_init 31 = .ok (.iinc 1 1, 3) := by decide +kernel
theorem dX4_init_34 : decode cX4_init 34 = .ok (.goto (-19), 3) := by decide +kernel
theorem dX4_init_37 : decode cX4_init 37 = .ok (.return_, 1) := by decide +kernel
theorem dX4_has_0 : decode cX4_has 0 = .ok (.aload_n 0, 1) := by decide +kernel
theorem dX4_has_1 : decode cX4_has 1 = .ok (.getfield 9, 3) := by decide +kernel
theorem dX4_has_4 : decode cX4_has 4 = .ok (.iload_n 1, 1) := by decide +kernel
theorem dX4_has_5 : decode cX4_has 5 = .ok (.sipush 10000, 3) := by decide +kernel
theorem dX4_has_8 : decode cX4_has 8 = .ok (.idiv, 1) := by decide +kernel
theorem dX4_has_9 : decode cX4_has 9 = .ok (.invokestatic 15, 3) := by decide +kernel
theorem dX4_has_12 : decode cX4_has 12 = .ok (.iload_n 1, 1) := by decide +kernel
theorem dX4_has_13 : decode cX4_has 13 = .ok (.if_icmp .ne 7, 3) := by decide +kernel
theorem dX4_has_16 : decode cX4_has 16 = .ok (.iconst 1, 1) := by decide +kernel
theorem dX4_has_17 : decode cX4_has 17 = .ok (.goto 4, 3) := by decide +kernel
theorem dX4_has_20 : decode cX4_has 20 = .ok (.iconst 0, 1) := by decide +kernel
theorem dX4_has_21 : decode cX4_has 21 = .ok (.ireturn, 1) := by decide +kernel
theorem dX4_make_0 : decode cX4_make 0 = .ok (.aload_n 0, 1) := by decide +kernel
theorem dX4_make_1 : decode cX4_make 1 = .ok (.iload_n 1, 1) := by decide +kernel
theorem dX4_make_2 : decode cX4_make 2 = .ok (.invokevirtual 19, 3) := by decide +kernel
theorem dX4_make_5 : decode cX4_make 5 = .ok (.ifCond .ne 26, 3) := by decide +kernel
theorem dX4_make_8 : decode cX4_make 8 = .ok (.aload_n 0, 1) := by decide +kernel
theorem dX4_make_9 : decode cX4_make 9 = .ok (.getfield 9, 3) := by decide +kernel
theorem dX4_make_12 : decode cX4_make 12 = .ok (.iload_n 1, 1) := by decide +kernel
theorem dX4_make_13 : decode cX4_make 13 = .ok (.sipush 10000, 3) := by decide +kernel
theorem dX4_make_16 : decode cX4_make 16 = .ok (.idiv, 1) := by decide +kernel
theorem dX4_make_17 : decode cX4_make 17 = .ok (.iload_n 1, 1) := by decide +kernel
theorem dX4_make_18 : decode cX4_make 18 = .ok (.invokestatic 23, 3) := by decide +kernel
theorem dX4_make_21 : decode cX4_make 21 = .ok (.aload_n 0, 1) := by decide +kernel
theorem dX4_make_22 : decode cX4_make 22 = .ok (.dup, 1) := by decide +kernel
theorem dX4_make_23 : decode cX4_make 23 = .ok (.getfield 27, 3) := by decide +kernel
theorem dX4_make_26 : decode cX4_make 26 = .ok (.iconst 1, 1) := by decide +kernel
theorem dX4_make_27 : decode cX4_make 27 = .ok (.iadd, 1) := by decide +kernel
theorem dX4_make_28 : decode cX4_make 28 = .ok (.putfield 27, 3) := by decide +kernel
theorem dX4_make_31 : decode cX4_make 31 = .ok (.return_, 1) := by decide +kernel
theorem dX5_init_0 : decode cX5_init 0 = .ok (.aload_n 0, 1) := by decide +kernel
theorem dX5_init_1 : decode cX5_init 1 = .ok (.invokespecial 3, 3) := by decide +kernel
theorem dX5_init_4 : decode cX5_init 4 = .ok (.aload_n 0, 1) := by decide +kernel
theorem dX5_init_5 : decode cX5_init 5 = .ok (.iconst (-1), 1) := by decide +kernel
theorem dX5_init_6 : decode cX5_init 6 = .ok (.putfield 9, 3) := by decide +kernel
theorem dX5_init_9 : decode cX5_init 9 = .ok (.aload_n 0, 1) := by decide +kernel
theorem dX5_init_10 : decode cX5_init 10 = .ok (.iconst (-1), 1) := by decide +kernel
theorem dX5_init_11 : decode cX5_init 11 = .ok (.putfield 15, 3) := by decide +kernel
theorem dX5_init_14 : decode cX5_init 14 = .ok (.aload_n 0, 1) := by decide +kernel
theorem dX5_init_15 : decode cX5_init 15 = .ok (.bipush 32, 2) := by decide +kernel
theorem dX5_init_17 : decode cX5_init 17 = .ok (.putfield 18, 3) := by decide +kernel
theorem dX5_init_20 : decode cX5_init 20 = .ok (.return_, 1) := by decide +kernel
theorem dX5_bindingMinutes_0 : decode cX5_bindingMinutes 0 = .ok (.aload_n 0, 1) := by decide +kernel
theorem dX5_bindingMinutes_1 : decode cX5_bindingMinutes 1 = .ok (.getfield 18, 3) := by decide +kernel
theorem dX5_bindingMinutes_4 : decode cX5_bindingMinutes 4 = .ok (.iload_n 1, 1) := by decide +kernel
theorem dX5_bindingMinutes_5 : decode cX5_bindingMinutes 5 = .ok (.if_icmp .ne 7, 3) := by decide +kernel
theorem dX5_bindingMinutes_8 : decode cX5_bindingMinutes 8 = .ok (.iconst 0, 1) := by decide +kernel
theorem dX5_bindingMinutes_9 : decode cX5_bindingMinutes 9 = .ok (.goto 5, 3) := by decide +kernel
theorem dX5_bindingMinutes_12 : decode cX5_bindingMinutes 12 = .ok (.bipush 15, 2) := by decide +kernel
theorem dX5_bindingMinutes_14 : decode cX5_bindingMinutes 14 = .ok (.ireturn, 1) := by decide +kernel
theorem dX5_minutesFor_0 : decode cX5_minutesFor 0 = .ok (.aload_n 0, 1) := by decide +kernel
theorem dX5_minutesFor_1 : decode cX5_minutesFor 1 = .ok (.iload_n 3, 1) := by decide +kernel
theorem dX5_minutesFor_2 : decode cX5_minutesFor 2 = .ok (.invokevirtual 22, 3) := by decide +kernel
theorem dX5_minutesFor_5 : decode cX5_minutesFor 5 = .ok (.istore 4, 2) := by decide +kernel
theorem dX5_minutesFor_7 : decode cX5_minutesFor 7 = .ok (.aload_n 0, 1) := by decide +kernel
theorem dX5_minutesFor_8 : decode cX5_minutesFor 8 = .ok (.getfield 9, 3) := by decide +kernel
theorem dX5_minutesFor_11 : decode cX5_minutesFor 11 = .ok (.iload_n 1, 1) := by decide +kernel
theorem dX5_minutesFor_12 : decode cX5_minutesFor 12 = .ok (.if_icmp .eq 6, 3) := by decide +kernel
theorem dX5_minutesFor_15 : decode cX5_minutesFor 15 = .ok (.iinc 4 20, 3) := by decide +kernel
theorem dX5_minutesFor_18 : decode cX5_minutesFor 18 = .ok (.aload_n 0, 1) := by decide +kernel
theorem dX5_minutesFor_19 : decode cX5_minutesFor 19 = .ok (.getfield 15, 3) := by decide +kernel
theorem dX5_minutesFor_22 : decode cX5_minutesFor 22 = .ok (.iload_n 2, 1) := by decide +kernel
theorem dX5_minutesFor_23 : decode cX5_minutesFor 23 = .ok (.if_icmp .eq 6, 3) := by decide +kernel
theorem dX5_minutesFor_26 : decode cX5_minutesFor 26 = .ok (.iinc 4 20, 3) := by decide +kernel
theorem dX5_minutesFor_29 : decode cX5_minutesFor 29 = .ok (.iload 4, 2) := by decide +kernel
theorem dX5_minutesFor_31 : decode cX5_minutesFor 31 = .ok (.ireturn, 1) := by decide +kernel
theorem dX5_mount_0 : decode cX5_mount 0 = .ok (.aload_n 0, 1) := by decide +kernel
theorem dX5_mount_1 : decode cX5_mount 1 = .ok (.iload_n 1, 1) := by decide +kernel
theorem dX5_mount_2 : decode cX5_mount 2 = .ok (.putfield 9, 3) := by decide +kernel
theorem dX5_mount_5 : decode cX5_mount 5 = .ok (.aload_n 0, 1) := by decide +kernel
theorem dX5_mount_6 : decode cX5_mount 6 = .ok (.iload_n 2, 1) := by decide +kernel
theorem dX5_mount_7 : decode cX5_mount 7 = .ok (.putfield 15, 3) := by decide +kernel
theorem dX5_mount_10 : decode cX5_mount 10 = .ok (.aload_n 0, 1) := by decide +kernel
theorem dX5_mount_11 : decode cX5_mount 11 = .ok (.iload_n 3, 1) := by decide +kernel
theorem dX5_mount_12 : decode cX5_mount 12 = .ok (.putfield 18, 3) := by decide +kernel
theorem dX5_mount_15 : decode cX5_mount 15 = .ok (.return_, 1) := by decide +kernel
theorem dX6_init_0 : decode cX6_init 0 = .ok (.aload_n 0, 1) := by decide +kernel
theorem dX6_init_1 : decode cX6_init 1 = .ok (.invokespecial 3, 3) := by decide +kernel
theorem dX6_init_4 : decode cX6_init 4 = .ok (.aload_n 0, 1) := by decide +kernel
theorem dX6_init_5 : decode cX6_init 5 = .ok (.new 9, 3) := by decide +kernel
theorem dX6_init_8 : decode cX6_init 8 = .ok (.dup, 1) := by decide +kernel
theorem dX6_init_9 : decode cX6_init 9 = .ok (.invokespecial 11, 3) := by decide +kernel
theorem dX6_init_12 : decode cX6_init 12 = .ok (.putfield 12, 3) := by decide +kernel
theorem dX6_init_15 : decode cX6_init 15 = .ok (.aload_n 0, 1) := by decide +kernel
theorem dX6_init_16 : decode cX6_init 16 = .ok (.iconst 4, 1) := by decide +kernel
theorem dX6_init_17 : decode cX6_init 17 = .ok (.anewarray 16, 3) := by decide +kernel
theorem dX6_init_20 : decode cX6_init 20 = .ok (.putfield 18, 3) := by decide +kernel
theorem dX6_init_23 : decode cX6_init 23 = .ok (.aload_n 0, 1) := by decide +kernel
theorem dX6_init_24 : decode cX6_init 24 = .ok (.new 22, 3) := by decide +kernel
theorem dX6_init_27 : decode cX6_init 27 = .ok (.dup, 1) := by decide +kernel
theorem dX6_init_28 : decode cX6_init 28 = .ok (.invokespecial 24, 3) := by decide +kernel
theorem dX6_init_31 : decode cX6_init 31 = .ok (.putfield 25, 3) := by decide +kernel
theorem dX6_init_34 : decode cX6_init 34 = .ok (.aload_n 0, 1) := by decide +kernel
theorem dX6_init_35 : decode cX6_init 35 = .ok (.new 29, 3) := by decide +kernel
theorem dX6_init_38 : decode cX6_init 38 = .ok (.dup, 1) := by decide +kernel
theorem dX6_init_39 : decode cX6_init 39 = .ok (.invokespecial 31, 3) := by decide +kernel
theorem dX6_init_42 : decode cX6_init 42 = .ok (.putfield 32, 3) := by decide +kernel
theorem dX6_init_45 : decode cX6_init 45 = .ok (.aload_n 0, 1) := by decide +kernel
theorem dX6_init_46 : decode cX6_init 46 = .ok (.new 36, 3) := by decide +kernel
theorem dX6_init_49 : decode cX6_init 49 = .ok (.dup, 1) := by decide +kernel
theorem dX6_init_50 : decode cX6_init 50 = .ok (.invokespecial 38, 3) := by decide +kernel
theorem dX6_init_53 : decode cX6_init 53 = .ok (.putfield 39, 3) := by decide +kernel
theorem dX6_init_56 : decode cX6_init 56 = .ok (.aload_n 0, 1) := by decide +kernel
theorem dX6_init_57 : decode cX6_init 57 = .ok (.bipush 100, 2) := by decide +kernel
theorem dX6_init_59 : decode cX6_init 59 = .ok (.anewarray 43, 3) := by decide +kernel
theorem dX6_init_62 : decode cX6_init 62 = .ok (.putfield 45, 3) := by decide +kernel
theorem dX6_init_65 : decode cX6_init 65 = .ok (.return_, 1) := by decide +kernel
theorem dX6_addContent_0 : decode cX6_addContent 0 = .ok (.aload_n 0, 1) := by decide +kernel
theorem dX6_addContent_1 : decode cX6_addContent 1 = .ok (.getfield 12, 3) := by decide +kernel
theorem dX6_addContent_4 : decode cX6_addContent 4 = .ok (.getfield 49, 3) := by decide +kernel
theorem dX6_addContent_7 : decode cX6_addContent 7 = .ok (.bipush 12, 2) := by decide +kernel
theorem dX6_addContent_9 : decode cX6_addContent 9 = .ok (.if_icmp .lt 13, 3) := by decide +kernel
theorem dX6_addContent_12 : decode cX6_addContent 12 = .ok (.new 53, 3) := by decide +kernel
theorem dX6_addContent_15 : decode cX6_addContent 15 = .ok (.dup, 1) := by decide +kernel
theorem dX6_addContent_16 : decode cX6_addContent 16 = .ok (.ldc 55, 2) := by decide +kernel
theorem dX6_addContent_18 : decode cX6_addContent 18 = .ok (.invokespecial 57, 3) := by decide +kernel
theorem dX6_addContent_21 : decode cX6_addContent 21 = .ok (.athrow, 1) := by decide +kernel
theorem dX6_addContent_22 : decode cX6_addContent 22 = .ok (.aload_n 0, 1) := by decide +kernel
theorem dX6_addContent_23 : decode cX6_addContent 23 = .ok (.getfield 12, 3) := by decide +kernel
theorem dX6_addContent_26 : decode cX6_addContent 26 = .ok (.invokevirtual 60, 3) := by decide +kernel
theorem dX6_addContent_29 : decode cX6_addContent 29 = .ok (.ireturn, 1) := by decide +kernel
theorem dX6_approve_0 : decode cX6_approve 0 = .ok (.aload_n 0, 1) := by decide +kernel
theorem dX6_approve_1 : decode cX6_approve 1 = .ok (.iload_n 1, 1) := by decide +kernel
theorem dX6_approve_2 : decode cX6_approve 2 = .ok (.invokevirtual 64, 3) := by decide +kernel
theorem dX6_approve_5 : decode cX6_approve 5 = .ok (.aload_n 0, 1) := by decide +kernel
theorem dX6_approve_6 : decode cX6_approve 6 = .ok (.getfield 12, 3) := by decide +kernel
theorem dX6_approve_9 : decode cX6_approve 9 = .ok (.iload_n 1, 1) := by decide +kernel
theorem dX6_approve_10 : decode cX6_approve 10 = .ok (.invokevirtual 68, 3) := by decide +kernel
theorem dX6_approve_13 : decode cX6_approve 13 = .ok (.istore_n 2, 1) := by decide +kernel
theorem dX6_approve_14 : decode cX6_approve 14 = .ok (.aload_n 0, 1) := by decide +kernel
theorem dX6_approve_15 : decode cX6_approve 15 = .ok (.getfield 12, 3) := by decide +kernel
theorem dX6_approve_18 : decode cX6_approve 18 = .ok (.iload_n 1, 1) := by decide +kernel
theorem dX6_approve_19 : decode cX6_approve 19 = .ok (.iconst 1, 1) := by decide +kernel
theorem dX6_approve_20 : decode cX6_approve 20 = .ok (.invokevirtual 72, 3) := by decide +kernel
theorem dX6_approve_23 : decode cX6_approve 23 = .ok (.iload_n 2, 1) := by decide +kernel
theorem dX6_approve_24 : decode cX6_approve 24 = .ok (.ireturn, 1) := by decide +kernel
theorem dX6_correct_0 : decode cX6_correct 0 = .ok (.aload_n 0, 1) := by decide +kernel
theorem dX6_correct_1 : decode cX6_correct 1 = .ok (.iload_n 1, 1) := by decide +kernel
theorem dX6_correct_2 : decode cX6_correct 2 = .ok (.invokevirtual 64, 3) := by decide +kernel
theorem dX6_correct_5 : decode cX6_correct 5 = .ok (.aload_n 0, 1) := by decide +kernel
theorem dX6_correct_6 : decode cX6_correct 6 = .ok (.getfield 12, 3) := by decide +kernel
theorem dX6_correct_9 : decode cX6_correct 9 = .ok (.iload_n 1, 1) := by decide +kernel
theorem dX6_correct_10 : decode cX6_correct 10 = .ok (.invokevirtual 76, 3) := by decide +kernel
theorem dX6_correct_13 : decode cX6_correct 13 = .ok (.bipush 99, 2) := by decide +kernel
theorem dX6_correct_15 : decode cX6_correct 15 = .ok (.if_icmp .lt 13, 3) := by decide +kernel
theorem dX6_correct_18 : decode cX6_correct 18 = .ok (.new 53, 3) := by decide +kernel
theorem dX6_correct_21 : decode cX6_correct 21 = .ok (.dup, 1) := by decide +kernel
theorem dX6_correct_22 : decode cX6_correct 22 = .ok (.ldc 80, 2) := by decide +kernel
theorem dX6_correct_24 : decode cX6_correct 24 = .ok (.invokespecial 57, 3) := by decide +kernel
theorem dX6_correct_27 : decode cX6_correct 27 = .ok (.athrow, 1) := by decide +kernel
theorem dX6_correct_28 : decode cX6_correct 28 = .ok (.iconst 0, 1) := by decide +kernel
theorem dX6_correct_29 : decode cX6_correct 29 = .ok (.istore_n 2, 1) := by decide +kernel
theorem dX6_correct_30 : decode cX6_correct 30 = .ok (.iconst 0, 1) := by decide +kernel
theorem dX6_correct_31 : decode cX6_correct 31 = .ok (.istore_n 3, 1) := by decide +kernel
theorem dX6_correct_32 : decode cX6_correct 32 = .ok (.iload_n 3, 1) := by decide +kernel
theorem dX6_correct_33 : decode cX6_correct 33 = .ok (.iconst 4, 1) := by decide +kernel
theorem dX6_correct_34 : decode cX6_correct 34 = .ok (.if_icmp .ge 30, 3) := by decide +kernel
theorem dX6_correct_37 : decode cX6_correct 37 = .ok (.aload_n 0, 1) := by decide +kernel
theorem dX6_correct_38 : decode cX6_correct 38 = .ok (.iload_n 3, 1) := by decide +kernel
theorem dX6_correct_39 : decode cX6_correct 39 = .ok (.invokevirtual 82, 3) := by decide +kernel
theorem dX6_correct_42 : decode cX6_correct 42 = .ok (.astore 4, 2) := by decide +kernel
theorem dX6_correct_44 : decode cX6_correct 44 = .ok (.aload 4, 2) := by decide +kernel
theorem dX6_correct_46 : decode cX6_correct 46 = .ok (.ifnull 12, 3) := by decide +kernel
theorem dX6_correct_49 : decode cX6_correct 49 = .ok (.iload_n 2, 1) := by decide +kernel
theorem dX6_correct_50 : decode cX6_correct 50 = .ok (.aload 4, 2) := by decide +kernel
theorem dX6_correct_52 : decode cX6_correct 52 = .ok (.iload_n 1, 1) := by decide +kernel
theorem dX6_correct_53 : decode cX6_correct 53 = .ok (.invokevirtual 86, 3) := by decide +kernel
theorem dX6_correct_56 : decode cX6_correct 56 = .ok (.iadd, 1) := by decide +kernel
theorem dX6_correct_57 : decode cX6_correct 57 = .ok (.istore_n 2, 1) := by decide +kernel
theorem dX6_correct_58 : decode cX6_correct 58 = .ok (.iinc 3 1, 3) := by decide +kernel
theorem dX6_correct_61 : decode cX6_correct 61 = .ok (.goto (-29), 3) := by decide +kernel
theorem dX6_correct_64 : decode cX6_correct 64 = .ok (.aload_n 0, 1) := by decide +kernel
theorem dX6_correct_65 : decode cX6_correct 65 = .ok (.getfield 12, 3) := by decide +kernel
theorem dX6_correct_68 : decode cX6_correct 68 = .ok (.iload_n 1, 1) := by decide +kernel
theorem dX6_correct_69 : decode cX6_correct 69 = .ok (.invokevirtual 89, 3) := by decide +kernel
theorem dX6_correct_72 : decode cX6_correct 72 = .ok (.aload_n 0, 1) := by decide +kernel
theorem dX6_correct_73 : decode cX6_correct 73 = .ok (.dup, 1) := by decide +kernel
theorem dX6_correct_74 : decode cX6_correct 74 = .ok (.getfield 92, 3) := by decide +kernel
theorem dX6_correct_77 : decode cX6_correct 77 = .ok (.iload_n 2, 1) := by decide +kernel
theorem dX6_correct_78 : decode cX6_correct 78 = .ok (.i2l, 1) := by decide +kernel
theorem dX6_correct_79 : decode cX6_correct 79 = .ok (.ladd, 1) := by decide +kernel
theorem dX6_correct_80 : decode cX6_correct 80 = .ok (.putfield 92, 3) := by decide +kernel
theorem dX6_correct_83 : decode cX6_correct 83 = .ok (.iload_n 2, 1) := by decide +kernel
theorem dX6_correct_84 : decode cX6_correct 84 = .ok (.ireturn, 1) := by decide +kernel
theorem dX6_state_0 : decode cX6_state 0 = .ok (.aload_n 0, 1) := by decide +kernel
theorem dX6_state_1 : decode cX6_state 1 = .ok (.iload_n 1, 1) := by decide +kernel
theorem dX6_state_2 : decode cX6_state 2 = .ok (.invokevirtual 64, 3) := by decide +kernel
theorem dX6_state_5 : decode cX6_state 5 = .ok (.aload_n 0, 1) := by decide +kernel
theorem dX6_state_6 : decode cX6_state 6 = .ok (.getfield 12, 3) := by decide +kernel
theorem dX6_state_9 : decode cX6_state 9 = .ok (.iload_n 1, 1) := by decide +kernel
theorem dX6_state_10 : decode cX6_state 10 = .ok (.invokevirtual 76, 3) := by decide +kernel
theorem dX6_state_13 : decode cX6_state 13 = .ok (.ireturn, 1) := by decide +kernel
theorem dX6_addJob_0 : decode cX6_addJob 0 = .ok (.iload_n 1, 1) := by decide +kernel
theorem dX6_addJob_1 : decode cX6_addJob 1 = .ok (.bipush 115, 2) := by decide +kernel
theorem dX6_addJob_3 : decode cX6_addJob 3 = .ok (.if_icmp .eq 25, 3) := by decide +kernel
theorem dX6_addJob_6 : decode cX6_addJob 6 = .ok (.iload_n 1, 1) := by decide +kernel
theorem dX6_addJob_7 : decode cX6_addJob 7 = .ok (.bipush 112, 2) := by decide +kernel
theorem dX6_addJob_9 : decode cX6_addJob 9 = .ok (.if_icmp .eq 19, 3) := by decide +kernel
theorem dX6_addJob_12 : decode cX6_addJob 12 = .ok (.iload_n 1, 1) := by decide +kernel
theorem dX6_addJob_13 : decode cX6_addJob 13 = .ok (.bipush 119, 2) := by decide +kernel
theorem dX6_addJob_15 : decode cX6_addJob 15 = .ok (.if_icmp .eq 13, 3) := by decide +kernel
theorem dX6_addJob_18 : decode cX6_addJob 18 = .ok (.new 96, 3) := by decide +kernel
theorem dX6_addJob_21 : decode cX6_addJob 21 = .ok (.dup, 1) := by decide +kernel
theorem dX6_addJob_22 : decode cX6_addJob 22 = .ok (.ldc 98, 2) := by decide +kernel
theorem dX6_addJob_24 : decode cX6_addJob 24 = .ok (.invokespecial 100, 3) := by decide +kernel
theorem dX6_addJob_27 : decode cX6_addJob 27 = .ok (.athrow, 1) := by decide +kernel
theorem dX6_addJob_28 : decode cX6_addJob 28 = .ok (.aload_n 0, 1) := by decide +kernel
theorem dX6_addJob_29 : decode cX6_addJob 29 = .ok (.getfield 101, 3) := by decide +kernel
theorem dX6_addJob_32 : decode cX6_addJob 32 = .ok (.ifCond .lt 15, 3) := by decide +kernel
theorem dX6_addJob_35 : decode cX6_addJob 35 = .ok (.aload_n 0, 1) := by decide +kernel
theorem dX6_addJob_36 : decode cX6_addJob 36 = .ok (.getfield 101, 3) := by decide +kernel
theorem dX6_addJob_39 : decode cX6_addJob 39 = .ok (.aload_n 0, 1) := by decide +kernel
theorem dX6_addJob_40 : decode cX6_addJob 40 = .ok (.getfield 18, 3) := by decide +kernel
theorem dX6_addJob_43 : decode cX6_addJob 43 = .ok (.arraylength, 1) := by decide +kernel
theorem dX6_addJob_44 : decode cX6_addJob 44 = .ok (.if_icmp .lt 13, 3) := by decide +kernel
theorem dX6_addJob_47 : decode cX6_addJob 47 = .ok (.new 53, 3) := by decide +kernel
theorem dX6_addJob_50 : decode cX6_addJob 50 = .ok (.dup, 1) := by decide +kernel
theorem dX6_addJob_51 : decode cX6_addJob 51 = .ok (.ldc 104, 2) := by decide +kernel
theorem dX6_addJob_53 : decode cX6_addJob 53 = .ok (.invokespecial 57, 3) := by decide +kernel
theorem dX6_addJob_56 : decode cX6_addJob 56 = .ok (.athrow, 1) := by decide +kernel
theorem dX6_addJob_57 : decode cX6_addJob 57 = .ok (.aload_n 0, 1) := by decide +kernel
theorem dX6_addJob_58 : decode cX6_addJob 58 = .ok (.getfield 18, 3) := by decide +kernel
theorem dX6_addJob_61 : decode cX6_addJob 61 = .ok (.aload_n 0, 1) := by decide +kernel
theorem dX6_addJob_62 : decode cX6_addJob 62 = .ok (.getfield 101, 3) := by decide +kernel
theorem dX6_addJob_65 : decode cX6_addJob 65 = .ok (.new 16, 3) := by decide +kernel
theorem dX6_addJob_68 : decode cX6_addJob 68 = .ok (.dup, 1) := by decide +kernel
theorem dX6_addJob_69 : decode cX6_addJob 69 = .ok (.iload_n 1, 1) := by decide +kernel
theorem dX6_addJob_70 : decode cX6_addJob 70 = .ok (.invokespecial 106, 3) := by decide +kernel
theorem dX6_addJob_73 : decode cX6_addJob 73 = .ok (.aastore, 1) := by decide +kernel
theorem dX6_addJob_74 : decode cX6_addJob 74 = .ok (.aload_n 0, 1) := by decide +kernel
theorem dX6_addJob_75 : decode cX6_addJob 75 = .ok (.dup, 1) := by decide +kernel
theorem dX6_addJob_76 : decode cX6_addJob 76 = .ok (.getfield 101, 3) := by decide +kernel
theorem dX6_addJob_79 : decode cX6_addJob 79 = .ok (.iconst 1, 1) := by decide +kernel
theorem dX6_addJob_80 : decode cX6_addJob 80 = .ok (.iadd, 1) := by decide +kernel
theorem dX6_addJob_81 : decode cX6_addJob 81 = .ok (.putfield 101, 3) := by decide +kernel
theorem dX6_addJob_84 : decode cX6_addJob 84 = .ok (.aload_n 0, 1) := by decide +kernel
theorem dX6_addJob_85 : decode cX6_addJob 85 = .ok (.getfield 101, 3) := by decide +kernel
theorem dX6_addJob_88 : decode cX6_addJob 88 = .ok (.iconst 1, 1) := by decide +kernel
theorem dX6_addJob_89 : decode cX6_addJob 89 = .ok (.isub, 1) := by decide +kernel
theorem dX6_addJob_90 : decode cX6_addJob 90 = .ok (.ireturn, 1) := by decide +kernel
theorem dX6_addPage_0 : decode cX6_addPage 0 = .ok (.aload_n 0, 1) := by decide +kernel
theorem dX6_addPage_1 : decode cX6_addPage 1 = .ok (.iload_n 1, 1) := by decide +kernel
theorem dX6_addPage_2 : decode cX6_addPage 2 = .ok (.invokevirtual 109, 3) := by decide +kernel
theorem dX6_addPage_5 : decode cX6_addPage 5 = .ok (.astore_n 3, 1) := by decide +kernel
theorem dX6_addPage_6 : decode cX6_addPage 6 = .ok (.aload_n 0, 1) := by decide +kernel
theorem dX6_addPage_7 : decode cX6_addPage 7 = .ok (.iload_n 2, 1) := by decide +kernel
theorem dX6_addPage_8 : decode cX6_addPage 8 = .ok (.invokevirtual 64, 3) := by decide +kernel
theorem dX6_addPage_11 : decode cX6_addPage 11 = .ok (.aload_n 3, 1) := by decide +kernel
theorem dX6_addPage_12 : decode cX6_addPage 12 = .ok (.getfield 112, 3) := by decide +kernel
theorem dX6_addPage_15 : decode cX6_addPage 15 = .ok (.bipush 16, 2) := by decide +kernel
theorem dX6_addPage_17 : decode cX6_addPage 17 = .ok (.if_icmp .lt 13, 3) := by decide +kernel
theorem dX6_addPage_20 : decode cX6_addPage 20 = .ok (.new 53, 3) := by decide +kernel
theorem dX6_addPage_23 : decode cX6_addPage 23 = .ok (.dup, 1) := by decide +kernel
theorem dX6_addPage_24 : decode cX6_addPage 24 = .ok (.ldc 113, 2) := by decide +kernel
theorem dX6_addPage_26 : decode cX6_addPage 26 = .ok (.invokespecial 57, 3) := by decide +kernel
theorem dX6_addPage_29 : decode cX6_addPage 29 = .ok (.athrow, 1) := by decide +kernel
theorem dX6_addPage_30 : decode cX6_addPage 30 = .ok (.aload_n 0, 1) := by decide +kernel
theorem dX6_addPage_31 : decode cX6_addPage 31 = .ok (.dup, 1) := by decide +kernel
theorem dX6_addPage_32 : decode cX6_addPage 32 = .ok (.getfield 92, 3) := by decide +kernel
theorem dX6_addPage_35 : decode cX6_addPage 35 = .ok (.aload_n 3, 1) := by decide +kernel
theorem dX6_addPage_36 : decode cX6_addPage 36 = .ok (.invokevirtual 115, 3) := by decide +kernel
theorem dX6_addPage_39 : decode cX6_addPage 39 = .ok (.i2l, 1) := by decide +kernel
theorem dX6_addPage_40 : decode cX6_addPage 40 = .ok (.ladd, 1) := by decide +kernel
theorem dX6_addPage_41 : decode cX6_addPage 41 = .ok (.putfield 92, 3) := by decide +kernel
theorem dX6_addPage_44 : decode cX6_addPage 44 = .ok (.aload_n 3, 1) := by decide +kernel
theorem dX6_addPage_45 : decode cX6_addPage 45 = .ok (.iload_n 2, 1) := by decide +kernel
theorem dX6_addPage_46 : decode cX6_addPage 46 = .ok (.invokevirtual 118, 3) := by decide +kernel
theorem dX6_addPage_49 : decode cX6_addPage 49 = .ok (.aload_n 3, 1) := by decide +kernel
theorem dX6_addPage_50 : decode cX6_addPage 50 = .ok (.getfield 112, 3) := by decide +kernel
theorem dX6_addPage_53 : decode cX6_addPage 53 = .ok (.ireturn, 1) := by decide +kernel
theorem dX6_pages_0 : decode cX6_pages 0 = .ok (.aload_n 0, 1) := by decide +kernel
theorem dX6_pages_1 : decode cX6_pages 1 = .ok (.iload_n 1, 1) := by decide +kernel
theorem dX6_pages_2 : decode cX6_pages 2 = .ok (.invokevirtual 109, 3) := by decide +kernel
theorem dX6_pages_5 : decode cX6_pages 5 = .ok (.getfield 112, 3) := by decide +kernel
theorem dX6_pages_8 : decode cX6_pages 8 = .ok (.ireturn, 1) := by decide +kernel
theorem dX6_sheets_0 : decode cX6_sheets 0 = .ok (.aload_n 0, 1) := by decide +kernel
theorem dX6_sheets_1 : decode cX6_sheets 1 = .ok (.iload_n 1, 1) := by decide +kernel
theorem dX6_sheets_2 : decode cX6_sheets 2 = .ok (.invokevirtual 121, 3) := by decide +kernel
theorem dX6_sheets_5 : decode cX6_sheets 5 = .ok (.invokevirtual 124, 3) := by decide +kernel
theorem dX6_sheets_8 : decode cX6_sheets 8 = .ok (.ireturn, 1) := by decide +kernel
theorem dX6_pageAt_0 : decode cX6_pageAt 0 = .ok (.aload_n 0, 1) := by decide +kernel
theorem dX6_pageAt_1 : decode cX6_pageAt 1 = .ok (.iload_n 1, 1) := by decide +kernel
theorem dX6_pageAt_2 : decode cX6_pageAt 2 = .ok (.invokevirtual 121, 3) := by decide +kernel
theorem dX6_pageAt_5 : decode cX6_pageAt 5 = .ok (.astore 4, 2) := by decide +kernel
theorem dX6_pageAt_7 : decode cX6_pageAt 7 = .ok (.aload 4, 2) := by decide +kernel
theorem dX6_pageAt_9 : decode cX6_pageAt 9 = .ok (.iload_n 2, 1) := by decide +kernel
theorem dX6_pageAt_10 : decode cX6_pageAt 10 = .ok (.invokestatic 127, 3) := by decide +kernel
theorem dX6_pageAt_13 : decode cX6_pageAt 13 = .ok (.iload_n 3, 1) := by decide +kernel
theorem dX6_pageAt_14 : decode cX6_pageAt 14 = .ok (.ifCond .lt 12, 3) := by decide +kernel
theorem dX6_pageAt_17 : decode cX6_pageAt 17 = .ok (.iload_n 3, 1) := by decide +kernel
theorem dX6_pageAt_18 : decode cX6_pageAt 18 = .ok (.aload 4, 2) := by decide +kernel
theorem dX6_pageAt_20 : decode cX6_pageAt 20 = .ok (.invokevirtual 131, 3) := by decide +kernel
theorem dX6_pageAt_23 : decode cX6_pageAt 23 = .ok (.if_icmp .lt 13, 3) := by decide +kernel
theorem dX6_pageAt_26 : decode cX6_pageAt 26 = .ok (.new 134, 3) := by decide +kernel
theorem dX6_pageAt_29 : decode cX6_pageAt 29 = .ok (.dup, 1) := by decide +kernel
theorem dX6_pageAt_30 : decode cX6_pageAt 30 = .ok (.ldc 136, 2) := by decide +kernel
theorem dX6_pageAt_32 : decode cX6_pageAt 32 = .ok (.invokespecial 138, 3) := by decide +kernel
theorem dX6_pageAt_35 : decode cX6_pageAt 35 = .ok (.athrow, 1) := by decide +kernel
theorem dX6_pageAt_36 : decode cX6_pageAt 36 = .ok (.aload 4, 2) := by decide +kernel
theorem dX6_pageAt_38 : decode cX6_pageAt 38 = .ok (.iload_n 2, 1) := by decide +kernel
theorem dX6_pageAt_39 : decode cX6_pageAt 39 = .ok (.iload_n 3, 1) := by decide +kernel
theorem dX6_pageAt_40 : decode cX6_pageAt 40 = .ok (.invokevirtual 139, 3) := by decide +kernel
theorem dX6_pageAt_43 : decode cX6_pageAt 43 = .ok (.ireturn, 1) := by decide +kernel
theorem dX6_sheetOf_0 : decode cX6_sheetOf 0 = .ok (.aload_n 0, 1) := by decide +kernel
theorem dX6_sheetOf_1 : decode cX6_sheetOf 1 = .ok (.iload_n 1, 1) := by decide +kernel
theorem dX6_sheetOf_2 : decode cX6_sheetOf 2 = .ok (.invokevirtual 121, 3) := by decide +kernel
theorem dX6_sheetOf_5 : decode cX6_sheetOf 5 = .ok (.astore_n 3, 1) := by decide +kernel
theorem dX6_sheetOf_6 : decode cX6_sheetOf 6 = .ok (.iload_n 2, 1) := by decide +kernel
theorem dX6_sheetOf_7 : decode cX6_sheetOf 7 = .ok (.iconst 1, 1) := by decide +kernel
theorem dX6_sheetOf_8 : decode cX6_sheetOf 8 = .ok (.if_icmp .lt 11, 3) := by decide +kernel
theorem dX6_sheetOf_11 : decode cX6_sheetOf 11 = .ok (.iload_n 2, 1) := by decide +kernel
theorem dX6_sheetOf_12 : decode cX6_sheetOf 12 = .ok (.aload_n 3, 1) := by decide +kernel
theorem dX6_sheetOf_13 : decode cX6_sheetOf 13 = .ok (.getfield 112, 3) := by decide +kernel
theorem dX6_sheetOf_16 : decode cX6_sheetOf 16 = .ok (.if_icmp .le 13, 3) := by decide +kernel
theorem dX6_sheetOf_19 : decode cX6_sheetOf 19 = .ok (.new 134, 3) := by decide +kernel
theorem dX6_sheetOf_22 : decode cX6_sheetOf 22 = .ok (.dup, 1) := by decide +kernel
theorem dX6_sheetOf_23 : decode cX6_sheetOf 23 = .ok (.ldc 143, 2) := by decide +kernel
theorem dX6_sheetOf_25 : decode cX6_sheetOf 25 = .ok (.invokespecial 138, 3) := by decide +kernel
theorem dX6_sheetOf_28 : decode cX6_sheetOf 28 = .ok (.athrow, 1) := by decide +kernel
theorem dX6_sheetOf_29 : decode cX6_sheetOf 29 = .ok (.aload_n 3, 1) := by decide +kernel
theorem dX6_sheetOf_30 : decode cX6_sheetOf 30 = .ok (.iload_n 2, 1) := by decide +kernel
theorem dX6_sheetOf_31 : decode cX6_sheetOf 31 = .ok (.invokevirtual 145, 3) := by decide +kernel
theorem dX6_sheetOf_34 : decode cX6_sheetOf 34 = .ok (.ireturn, 1) := by decide +kernel
theorem dX6_print_0 : decode cX6_print 0 = .ok (.aload_n 0, 1) := by decide +kernel
theorem dX6_print_1 : decode cX6_print 1 = .ok (.iload_n 1, 1) := by decide +kernel
theorem dX6_print_2 : decode cX6_print 2 = .ok (.invokevirtual 121, 3) := by decide +kernel
theorem dX6_print_5 : decode cX6_print 5 = .ok (.astore 4, 2) := by decide +kernel
theorem dX6_print_7 : decode cX6_print 7 = .ok (.aload 4, 2) := by decide +kernel
theorem dX6_print_9 : decode cX6_print 9 = .ok (.iload_n 2, 1) := by decide +kernel
theorem dX6_print_10 : decode cX6_print 10 = .ok (.invokestatic 127, 3) := by decide +kernel
theorem dX6_print_13 : decode cX6_print 13 = .ok (.iload_n 3, 1) := by decide +kernel
theorem dX6_print_14 : decode cX6_print 14 = .ok (.invokestatic 148, 3) := by decide +kernel
theorem dX6_print_17 : decode cX6_print 17 = .ok (.aload_n 0, 1) := by decide +kernel
theorem dX6_print_18 : decode cX6_print 18 = .ok (.aload 4, 2) := by decide +kernel
theorem dX6_print_20 : decode cX6_print 20 = .ok (.iload_n 2, 1) := by decide +kernel
theorem dX6_print_21 : decode cX6_print 21 = .ok (.invokevirtual 151, 3) := by decide +kernel
theorem dX6_print_24 : decode cX6_print 24 = .ok (.ifCond .ne 13, 3) := by decide +kernel
theorem dX6_print_27 : decode cX6_print 27 = .ok (.new 155, 3) := by decide +kernel
theorem dX6_print_30 : decode cX6_print 30 = .ok (.dup, 1) := by decide +kernel
theorem dX6_print_31 : decode cX6_print 31 = .ok (.ldc 157, 2) := by decide +kernel
theorem dX6_print_33 : decode cX6_print 33 = .ok (.invokespecial 159, 3) := by decide +kernel
theorem dX6_print_36 : decode cX6_print 36 = .ok (.athrow, 1) := by decide +kernel
theorem dX6_print_37 : decode cX6_print 37 = .ok (.aload 4, 2) := by decide +kernel
theorem dX6_print_39 : decode cX6_print 39 = .ok (.iload_n 2, 1) := by decide +kernel
theorem dX6_print_40 : decode cX6_print 40 = .ok (.invokevirtual 160, 3) := by decide +kernel
theorem dX6_print_43 : decode cX6_print 43 = .ok (.iload_n 3, 1) := by decide +kernel
theorem dX6_print_44 : decode cX6_print 44 = .ok (.iadd, 1) := by decide +kernel
theorem dX6_print_45 : decode cX6_print 45 = .ok (.sipush 9999, 3) := by decide +kernel
theorem dX6_print_48 : decode cX6_print 48 = .ok (.if_icmp .le 13, 3) := by decide +kernel
theorem dX6_print_51 : decode cX6_print 51 = .ok (.new 155, 3) := by decide +kernel
theorem dX6_print_54 : decode cX6_print 54 = .ok (.dup, 1) := by decide +kernel
theorem dX6_print_55 : decode cX6_print 55 = .ok (.ldc 163, 2) := by decide +kernel
theorem dX6_print_57 : decode cX6_print 57 = .ok (.invokespecial 159, 3) := by decide +kernel
theorem dX6_print_60 : decode cX6_print 60 = .ok (.athrow, 1) := by decide +kernel
theorem dX6_print_61 : decode cX6_print 61 = .ok (.aload_n 0, 1) := by decide +kernel
theorem dX6_print_62 : decode cX6_print 62 = .ok (.aload 4, 2) := by decide +kernel
theorem dX6_print_64 : decode cX6_print 64 = .ok (.iload_n 2, 1) := by decide +kernel
theorem dX6_print_65 : decode cX6_print 65 = .ok (.iconst 0, 1) := by decide +kernel
theorem dX6_print_66 : decode cX6_print 66 = .ok (.invokevirtual 165, 3) := by decide +kernel
theorem dX6_print_69 : decode cX6_print 69 = .ok (.istore 5, 2) := by decide +kernel
theorem dX6_print_71 : decode cX6_print 71 = .ok (.aload_n 0, 1) := by decide +kernel
theorem dX6_print_72 : decode cX6_print 72 = .ok (.aload 4, 2) := by decide +kernel
theorem dX6_print_74 : decode cX6_print 74 = .ok (.iload_n 2, 1) := by decide +kernel
theorem dX6_print_75 : decode cX6_print 75 = .ok (.iconst 1, 1) := by decide +kernel
theorem dX6_print_76 : decode cX6_print 76 = .ok (.invokevirtual 165, 3) := by decide +kernel
theorem dX6_print_79 : decode cX6_print 79 = .ok (.istore 6, 2) := by decide +kernel
theorem dX6_print_81 : decode cX6_print 81 = .ok (.aload_n 0, 1) := by decide +kernel
theorem dX6_print_82 : decode cX6_print 82 = .ok (.getfield 25, 3) := by decide +kernel
theorem dX6_print_85 : decode cX6_print 85 = .ok (.iload 5, 2) := by decide +kernel
theorem dX6_print_87 : decode cX6_print 87 = .ok (.iload 6, 2) := by decide +kernel
theorem dX6_print_89 : decode cX6_print 89 = .ok (.aload 4, 2) := by decide +kernel
theorem dX6_print_91 : decode cX6_print 91 = .ok (.getfield 169, 3) := by decide +kernel
theorem dX6_print_94 : decode cX6_print 94 = .ok (.invokevirtual 173, 3) := by decide +kernel
theorem dX6_print_97 : decode cX6_print 97 = .ok (.istore 7, 2) := by decide +kernel
theorem dX6_print_99 : decode cX6_print 99 = .ok (.aload_n 0, 1) := by decide +kernel
theorem dX6_print_100 : decode cX6_print 100 = .ok (.getfield 25, 3) := by decide +kernel
theorem dX6_print_103 : decode cX6_print 103 = .ok (.iload 5, 2) := by decide +kernel
theorem dX6_print_105 : decode cX6_print 105 = .ok (.iload 6, 2) := by decide +kernel
theorem dX6_print_107 : decode cX6_print 107 = .ok (.aload 4, 2) := by decide +kernel
theorem dX6_print_109 : decode cX6_print 109 = .ok (.getfield 169, 3) := by decide +kernel
theorem dX6_print_112 : decode cX6_print 112 = .ok (.invokevirtual 177, 3) := by decide +kernel
theorem dX6_print_115 : decode cX6_print 115 = .ok (.aload_n 0, 1) := by decide +kernel
theorem dX6_print_116 : decode cX6_print 116 = .ok (.getfield 32, 3) := by decide +kernel
theorem dX6_print_119 : decode cX6_print 119 = .ok (.iload 5, 2) := by decide +kernel
theorem dX6_print_121 : decode cX6_print 121 = .ok (.invokevirtual 181, 3) := by decide +kernel
theorem dX6_print_124 : decode cX6_print 124 = .ok (.aload_n 0, 1) := by decide +kernel
theorem dX6_print_125 : decode cX6_print 125 = .ok (.getfield 32, 3) := by decide +kernel
theorem dX6_print_128 : decode cX6_print 128 = .ok (.iload 6, 2) := by decide +kernel
theorem dX6_print_130 : decode cX6_print 130 = .ok (.invokevirtual 181, 3) := by decide +kernel
theorem dX6_print_133 : decode cX6_print 133 = .ok (.aload 4, 2) := by decide +kernel
theorem dX6_print_135 : decode cX6_print 135 = .ok (.iload_n 2, 1) := by decide +kernel
theorem dX6_print_136 : decode cX6_print 136 = .ok (.iload_n 3, 1) := by decide +kernel
theorem dX6_print_137 : decode cX6_print 137 = .ok (.invokevirtual 184, 3) := by decide +kernel
theorem dX6_print_140 : decode cX6_print 140 = .ok (.aload_n 0, 1) := by decide +kernel
theorem dX6_print_141 : decode cX6_print 141 = .ok (.dup, 1) := by decide +kernel
theorem dX6_print_142 : decode cX6_print 142 = .ok (.getfield 188, 3) := by decide +kernel
theorem dX6_print_145 : decode cX6_print 145 = .ok (.iload_n 3, 1) := by decide +kernel
theorem dX6_print_146 : decode cX6_print 146 = .ok (.i2l, 1) := by decide +kernel
theorem dX6_print_147 : decode cX6_print 147 = .ok (.ladd, 1) := by decide +kernel
theorem dX6_print_148 : decode cX6_print 148 = .ok (.putfield 188, 3) := by decide +kernel
theorem dX6_print_151 : decode cX6_print 151 = .ok (.aload_n 0, 1) := by decide +kernel
theorem dX6_print_152 : decode cX6_print 152 = .ok (.dup, 1) := by decide +kernel
theorem dX6_print_153 : decode cX6_print 153 = .ok (.getfield 191, 3) := by decide +kernel
theorem dX6_print_156 : decode cX6_print 156 = .ok (.lconst 1, 1) := by decide +kernel
theorem dX6_print_157 : decode cX6_print 157 = .ok (.ladd, 1) := by decide +kernel
theorem dX6_print_158 : decode cX6_print 158 = .ok (.putfield 191, 3) := by decide +kernel
theorem dX6_print_161 : decode cX6_print 161 = .ok (.aload_n 0, 1) := by decide +kernel
theorem dX6_print_162 : decode cX6_print 162 = .ok (.dup, 1) := by decide +kernel
theorem dX6_print_163 : decode cX6_print 163 = .ok (.getfield 194, 3) := by decide +kernel
theorem dX6_print_166 : decode cX6_print 166 = .ok (.iload 7, 2) := by decide +kernel
theorem dX6_print_168 : decode cX6_print 168 = .ok (.i2l, 1) := by decide +kernel
theorem dX6_print_169 : decode cX6_print 169 = .ok (.ladd, 1) := by decide +kernel
theorem dX6_print_170 : decode cX6_print 170 = .ok (.putfield 194, 3) := by decide +kernel
theorem dX6_print_173 : decode cX6_print 173 = .ok (.iload 7, 2) := by decide +kernel
theorem dX6_print_175 : decode cX6_print 175 = .ok (.ireturn, 1) := by decide +kernel
theorem dX6_makeready_0 : decode cX6_makeready 0 = .ok (.aload_n 0, 1) := by decide +kernel
theorem dX6_makeready_1 : decode cX6_makeready 1 = .ok (.iload_n 1, 1) := by decide +kernel
theorem dX6_makeready_2 : decode cX6_makeready 2 = .ok (.invokevirtual 121, 3) := by decide +kernel
theorem dX6_makeready_5 : decode cX6_makeready 5 = .ok (.astore_n 3, 1) := by decide +kernel
theorem dX6_makeready_6 : decode cX6_makeready 6 = .ok (.aload_n 3, 1) := by decide +kernel
theorem dX6_makeready_7 : decode cX6_makeready 7 = .ok (.iload_n 2, 1) := by decide +kernel
theorem dX6_makeready_8 : decode cX6_makeready 8 = .ok (.invokestatic 127, 3) := by decide +kernel
theorem dX6_makeready_11 : decode cX6_makeready 11 = .ok (.aload_n 0, 1) := by decide +kernel
theorem dX6_makeready_12 : decode cX6_makeready 12 = .ok (.getfield 25, 3) := by decide +kernel
theorem dX6_makeready_15 : decode cX6_makeready 15 = .ok (.aload_n 0, 1) := by decide +kernel
theorem dX6_makeready_16 : decode cX6_makeready 16 = .ok (.aload_n 3, 1) := by decide +kernel
theorem dX6_makeready_17 : decode cX6_makeready 17 = .ok (.iload_n 2, 1) := by decide +kernel
theorem dX6_makeready_18 : decode cX6_makeready 18 = .ok (.iconst 0, 1) := by decide +kernel
theorem dX6_makeready_19 : decode cX6_makeready 19 = .ok (.invokevirtual 165, 3) := by decide +kernel
theorem dX6_makeready_22 : decode cX6_makeready 22 = .ok (.aload_n 0, 1) := by decide +kernel
theorem dX6_makeready_23 : decode cX6_makeready 23 = .ok (.aload_n 3, 1) := by decide +kernel
theorem dX6_makeready_24 : decode cX6_makeready 24 = .ok (.iload_n 2, 1) := by decide +kernel
theorem dX6_makeready_25 : decode cX6_makeready 25 = .ok (.iconst 1, 1) := by decide +kernel
theorem dX6_makeready_26 : decode cX6_makeready 26 = .ok (.invokevirtual 165, 3) := by decide +kernel
theorem dX6_makeready_29 : decode cX6_makeready 29 = .ok (.aload_n 3, 1) := by decide +kernel
theorem dX6_makeready_30 : decode cX6_makeready 30 = .ok (.getfield 169, 3) := by decide +kernel
theorem dX6_makeready_33 : decode cX6_makeready 33 = .ok (.invokevirtual 173, 3) := by decide +kernel
theorem dX6_makeready_36 : decode cX6_makeready 36 = .ok (.ireturn, 1) := by decide +kernel
theorem dX6_leastMakeready_0 : decode cX6_leastMakeready 0 = .ok (.aload_n 0, 1) := by decide +kernel
theorem dX6_leastMakeready_1 : decode cX6_leastMakeready 1 = .ok (.iload_n 1, 1) := by decide +kernel
theorem dX6_leastMakeready_2 : decode cX6_leastMakeready 2 = .ok (.invokevirtual 121, 3) := by decide +kernel
theorem dX6_leastMakeready_5 : decode cX6_leastMakeready 5 = .ok (.astore_n 2, 1) := by decide +kernel
theorem dX6_leastMakeready_6 : decode cX6_leastMakeready 6 = .ok (.aload_n 0, 1) := by decide +kernel
theorem dX6_leastMakeready_7 : decode cX6_leastMakeready 7 = .ok (.aload_n 2, 1) := by decide +kernel
theorem dX6_leastMakeready_8 : decode cX6_leastMakeready 8 = .ok (.invokevirtual 197, 3) := by decide +kernel
theorem dX6_leastMakeready_11 : decode cX6_leastMakeready 11 = .ok (.aload_n 0, 1) := by decide +kernel
theorem dX6_leastMakeready_12 : decode cX6_leastMakeready 12 = .ok (.getfield 25, 3) := by decide +kernel
theorem dX6_leastMakeready_15 : decode cX6_leastMakeready 15 = .ok (.aload_n 2, 1) := by decide +kernel
theorem dX6_leastMakeready_16 : decode cX6_leastMakeready 16 = .ok (.getfield 169, 3) := by decide +kernel
theorem dX6_leastMakeready_19 : decode cX6_leastMakeready 19 = .ok (.invokevirtual 201, 3) := by decide +kernel
theorem dX6_leastMakeready_22 : decode cX6_leastMakeready 22 = .ok (.aload_n 0, 1) := by decide +kernel
theorem dX6_leastMakeready_23 : decode cX6_leastMakeready 23 = .ok (.getfield 39, 3) := by decide +kernel
theorem dX6_leastMakeready_26 : decode cX6_leastMakeready 26 = .ok (.invokevirtual 205, 3) := by decide +kernel
theorem dX6_leastMakeready_29 : decode cX6_leastMakeready 29 = .ok (.iadd, 1) := by decide +kernel
theorem dX6_leastMakeready_30 : decode cX6_leastMakeready 30 = .ok (.ireturn, 1) := by decide +kernel
theorem dX6_leastByTrying_0 : decode cX6_leastByTrying 0 = .ok (.aload_n 0, 1) := by decide +kernel
theorem dX6_leastByTrying_1 : decode cX6_leastByTrying 1 = .ok (.iload_n 1, 1) := by decide +kernel
theorem dX6_leastByTrying_2 : decode cX6_leastByTrying 2 = .ok (.invokevirtual 121, 3) := by decide +kernel
theorem dX6_leastByTrying_5 : decode cX6_leastByTrying 5 = .ok (.astore_n 2, 1) := by decide +kernel
theorem dX6_leastByTrying_6 : decode cX6_leastByTrying 6 = .ok (.aload_n 2, 1) := by decide +kernel
theorem dX6_leastByTrying_7 : decode cX6_leastByTrying 7 = .ok (.invokevirtual 124, 3) := by decide +kernel
theorem dX6_leastByTrying_10 : decode cX6_leastByTrying 10 = .ok (.bipush 6, 2) := by decide +kernel
theorem dX6_leastByTrying_12 : decode cX6_leastByTrying 12 = .ok (.if_icmp .le 13, 3) := by decide +kernel
theorem dX6_leastByTrying_15 : decode cX6_leastByTrying 15 = .ok (.new 155, 3) := by decide +kernel
theorem dX6_leastByTrying_18 : decode cX6_leastByTrying 18 = .ok (.dup, 1) := by decide +kernel
theorem dX6_leastByTrying_19 : decode cX6_leastByTrying 19 = .ok (.ldc 208, 2) := by decide +kernel
theorem dX6_leastByTrying_21 : decode cX6_leastByTrying 21 = .ok (.invokespecial 159, 3) := by decide +kernel
theorem dX6_leastByTrying_24 : decode cX6_leastByTrying 24 = .ok (.athrow, 1) := by decide +kernel
theorem dX6_leastByTrying_25 : decode cX6_leastByTrying 25 = .ok (.aload_n 0, 1) := by decide +kernel
theorem dX6_leastByTrying_26 : decode cX6_leastByTrying 26 = .ok (.aload_n 2, 1) := by decide +kernel
theorem dX6_leastByTrying_27 : decode cX6_leastByTrying 27 = .ok (.invokevirtual 197, 3) := by decide +kernel
theorem dX6_leastByTrying_30 : decode cX6_leastByTrying 30 = .ok (.aload_n 0, 1) := by decide +kernel
theorem dX6_leastByTrying_31 : decode cX6_leastByTrying 31 = .ok (.getfield 25, 3) := by decide +kernel
theorem dX6_leastByTrying_34 : decode cX6_leastByTrying 34 = .ok (.aload_n 2, 1) := by decide +kernel
theorem dX6_leastByTrying_35 : decode cX6_leastByTrying 35 = .ok (.getfield 169, 3) := by decide +kernel
theorem dX6_leastByTrying_38 : decode cX6_leastByTrying 38 = .ok (.invokevirtual 201, 3) := by decide +kernel
theorem dX6_leastByTrying_41 : decode cX6_leastByTrying 41 = .ok (.aload_n 0, 1) := by decide +kernel
theorem dX6_leastByTrying_42 : decode cX6_leastByTrying 42 = .ok (.getfield 39, 3) := by decide +kernel
theorem dX6_leastByTrying_45 : decode cX6_leastByTrying 45 = .ok (.invokevirtual 210, 3) := by decide +kernel
theorem dX6_leastByTrying_48 : decode cX6_leastByTrying 48 = .ok (.iadd, 1) := by decide +kernel
theorem dX6_leastByTrying_49 : decode cX6_leastByTrying 49 = .ok (.ireturn, 1) := by decide +kernel
theorem dX6_stock_0 : decode cX6_stock 0 = .ok (.aload_n 0, 1) := by decide +kernel
theorem dX6_stock_1 : decode cX6_stock 1 = .ok (.iload_n 1, 1) := by decide +kernel
theorem dX6_stock_2 : decode cX6_stock 2 = .ok (.invokevirtual 121, 3) := by decide +kernel
theorem dX6_stock_5 : decode cX6_stock 5 = .ok (.astore_n 3, 1) := by decide +kernel
theorem dX6_stock_6 : decode cX6_stock 6 = .ok (.aload_n 3, 1) := by decide +kernel
theorem dX6_stock_7 : decode cX6_stock 7 = .ok (.iload_n 2, 1) := by decide +kernel
theorem dX6_stock_8 : decode cX6_stock 8 = .ok (.invokestatic 127, 3) := by decide +kernel
theorem dX6_stock_11 : decode cX6_stock 11 = .ok (.aload_n 3, 1) := by decide +kernel
theorem dX6_stock_12 : decode cX6_stock 12 = .ok (.iload_n 2, 1) := by decide +kernel
theorem dX6_stock_13 : decode cX6_stock 13 = .ok (.invokevirtual 160, 3) := by decide +kernel
theorem dX6_stock_16 : decode cX6_stock 16 = .ok (.ireturn, 1) := by decide +kernel
theorem dX6_plates_0 : decode cX6_plates 0 = .ok (.aload_n 0, 1) := by decide +kernel
theorem dX6_plates_1 : decode cX6_plates 1 = .ok (.getfield 32, 3) := by decide +kernel
theorem dX6_plates_4 : decode cX6_plates 4 = .ok (.getfield 213, 3) := by decide +kernel
theorem dX6_plates_7 : decode cX6_plates 7 = .ok (.ireturn, 1) := by decide +kernel
theorem dX6_platesNeeded_0 : decode cX6_platesNeeded 0 = .ok (.aload_n 0, 1) := by decide +kernel
theorem dX6_platesNeeded_1 : decode cX6_platesNeeded 1 = .ok (.iload_n 1, 1) := by decide +kernel
theorem dX6_platesNeeded_2 : decode cX6_platesNeeded 2 = .ok (.invokevirtual 121, 3) := by decide +kernel
theorem dX6_platesNeeded_5 : decode cX6_platesNeeded 5 = .ok (.astore_n 2, 1) := by decide +kernel
theorem dX6_platesNeeded_6 : decode cX6_platesNeeded 6 = .ok (.iconst 0, 1) := by decide +kernel
theorem dX6_platesNeeded_7 : decode cX6_platesNeeded 7 = .ok (.istore_n 3, 1) := by decide +kernel
theorem dX6_platesNeeded_8 : decode cX6_platesNeeded 8 = .ok (.iconst 2, 1) := by decide +kernel
theorem dX6_platesNeeded_9 : decode cX6_platesNeeded 9 = .ok (.aload_n 2, 1) := by decide +kernel
theorem dX6_platesNeeded_10 : decode cX6_platesNeeded 10 = .ok (.invokevirtual 124, 3) := by decide +kernel
theorem dX6_platesNeeded_13 : decode cX6_platesNeeded 13 = .ok (.imul, 1) := by decide +kernel
theorem dX6_platesNeeded_14 : decode cX6_platesNeeded 14 = .ok (.istore 4, 2) := by decide +kernel
theorem dX6_platesNeeded_16 : decode cX6_platesNeeded 16 = .ok (.iconst 0, 1) := by decide +kernel
theorem dX6_platesNeeded_17 : decode cX6_platesNeeded 17 = .ok (.istore 5, 2) := by decide +kernel
theorem dX6_platesNeeded_19 : decode cX6_platesNeeded 19 = .ok (.iload 5, 2) := by decide +kernel
theorem dX6_platesNeeded_21 : decode cX6_platesNeeded 21 = .ok (.iload 4, 2) := by decide +kernel
theorem dX6_platesNeeded_23 : decode cX6_platesNeeded 23 = .ok (.if_icmp .ge 51, 3) := by decide +kernel
theorem dX6_platesNeeded_26 : decode cX6_platesNeeded 26 = .ok (.aload_n 0, 1) := by decide +kernel
theorem dX6_platesNeeded_27 : decode cX6_platesNeeded 27 = .ok (.aload_n 2, 1) := by decide +kernel
theorem dX6_platesNeeded_28 : decode cX6_platesNeeded 28 = .ok (.iload 5, 2) := by decide +kernel
theorem dX6_platesNeeded_30 : decode cX6_platesNeeded 30 = .ok (.iconst 2, 1) := by decide +kernel
theorem dX6_platesNeeded_31 : decode cX6_platesNeeded 31 = .ok (.idiv, 1) := by decide +kernel
theorem dX6_platesNeeded_32 : decode cX6_platesNeeded 32 = .ok (.iload 5, 2) := by decide +kernel
theorem dX6_platesNeeded_34 : decode cX6_platesNeeded 34 = .ok (.iconst 2, 1) := by decide +kernel
theorem dX6_platesNeeded_35 : decode cX6_platesNeeded 35 = .ok (.irem, 1) := by decide +kernel
theorem dX6_platesNeeded_36 : decode cX6_platesNeeded 36 = .ok (.invokevirtual 165, 3) := by decide +kernel
theorem dX6_platesNeeded_39 : decode cX6_platesNeeded 39 = .ok (.istore 6, 2) := by decide +kernel
theorem dX6_platesNeeded_41 : decode cX6_platesNeeded 41 = .ok (.aload_n 0, 1) := by decide +kernel
theorem dX6_platesNeeded_42 : decode cX6_platesNeeded 42 = .ok (.getfield 32, 3) := by decide +kernel
theorem dX6_platesNeeded_45 : decode cX6_platesNeeded 45 = .ok (.iload 6, 2) := by decide +kernel
theorem dX6_platesNeeded_47 : decode cX6_platesNeeded 47 = .ok (.invokevirtual 216, 3) := by decide +kernel
theorem dX6_platesNeeded_50 : decode cX6_platesNeeded 50 = .ok (.ifCond .ne 18, 3) := by decide +kernel
theorem dX6_platesNeeded_53 : decode cX6_platesNeeded 53 = .ok (.aload_n 0, 1) := by decide +kernel
theorem dX6_platesNeeded_54 : decode cX6_platesNeeded 54 = .ok (.aload_n 2, 1) := by decide +kernel
theorem dX6_platesNeeded_55 : decode cX6_platesNeeded 55 = .ok (.iload 5, 2) := by decide +kernel
theorem dX6_platesNeeded_57 : decode cX6_platesNeeded 57 = .ok (.iload 6, 2) := by decide +kernel
theorem dX6_platesNeeded_59 : decode cX6_platesNeeded 59 = .ok (.invokevirtual 219, 3) := by decide +kernel
theorem dX6_platesNeeded_62 : decode cX6_platesNeeded 62 = .ok (.ifCond .ne 6, 3) := by decide +kernel
theorem dX6_platesNeeded_65 : decode cX6_platesNeeded 65 = .ok (.iinc 3 1, 3) := by decide +kernel
theorem dX6_platesNeeded_68 : decode cX6_platesNeeded 68 = .ok (.iinc 5 1, 3) := by decide +kernel
theorem dX6_platesNeeded_71 : decode cX6_platesNeeded 71 = .ok (.goto (-52), 3) := by decide +kernel
theorem dX6_platesNeeded_74 : decode cX6_platesNeeded 74 = .ok (.iload_n 3, 1) := by decide +kernel
theorem dX6_platesNeeded_75 : decode cX6_platesNeeded 75 = .ok (.ireturn, 1) := by decide +kernel
theorem dX6_bind_0 : decode cX6_bind 0 = .ok (.aload_n 0, 1) := by decide +kernel
theorem dX6_bind_1 : decode cX6_bind 1 = .ok (.iload_n 1, 1) := by decide +kernel
theorem dX6_bind_2 : decode cX6_bind 2 = .ok (.invokevirtual 109, 3) := by decide +kernel
theorem dX6_bind_5 : decode cX6_bind 5 = .ok (.astore_n 3, 1) := by decide +kernel
theorem dX6_bind_6 : decode cX6_bind 6 = .ok (.iload_n 2, 1) := by decide +kernel
theorem dX6_bind_7 : decode cX6_bind 7 = .ok (.invokestatic 148, 3) := by decide +kernel
theorem dX6_bind_10 : decode cX6_bind 10 = .ok (.aload_n 3, 1) := by decide +kernel
theorem dX6_bind_11 : decode cX6_bind 11 = .ok (.invokestatic 223, 3) := by decide +kernel
theorem dX6_bind_14 : decode cX6_bind 14 = .ok (.aload_n 0, 1) := by decide +kernel
theorem dX6_bind_15 : decode cX6_bind 15 = .ok (.getfield 226, 3) := by decide +kernel
theorem dX6_bind_18 : decode cX6_bind 18 = .ok (.ifCond .lt 15, 3) := by decide +kernel
theorem dX6_bind_21 : decode cX6_bind 21 = .ok (.aload_n 0, 1) := by decide +kernel
theorem dX6_bind_22 : decode cX6_bind 22 = .ok (.getfield 226, 3) := by decide +kernel
theorem dX6_bind_25 : decode cX6_bind 25 = .ok (.aload_n 0, 1) := by decide +kernel
theorem dX6_bind_26 : decode cX6_bind 26 = .ok (.getfield 45, 3) := by decide +kernel
theorem dX6_bind_29 : decode cX6_bind 29 = .ok (.arraylength, 1) := by decide +kernel
theorem dX6_bind_30 : decode cX6_bind 30 = .ok (.if_icmp .lt 13, 3) := by decide +kernel
theorem dX6_bind_33 : decode cX6_bind 33 = .ok (.new 53, 3) := by decide +kernel
theorem dX6_bind_36 : decode cX6_bind 36 = .ok (.dup, 1) := by decide +kernel
theorem dX6_bind_37 : decode cX6_bind 37 = .ok (.ldc 229, 2) := by decide +kernel
theorem dX6_bind_39 : decode cX6_bind 39 = .ok (.invokespecial 57, 3) := by decide +kernel
theorem dX6_bind_42 : decode cX6_bind 42 = .ok (.athrow, 1) := by decide +kernel
theorem dX6_bind_43 : decode cX6_bind 43 = .ok (.aload_n 3, 1) := by decide +kernel
theorem dX6_bind_44 : decode cX6_bind 44 = .ok (.iload_n 2, 1) := by decide +kernel
theorem dX6_bind_45 : decode cX6_bind 45 = .ok (.invokevirtual 231, 3) := by decide +kernel
theorem dX6_bind_48 : decode cX6_bind 48 = .ok (.ifCond .le 13, 3) := by decide +kernel
theorem dX6_bind_51 : decode cX6_bind 51 = .ok (.new 155, 3) := by decide +kernel
theorem dX6_bind_54 : decode cX6_bind 54 = .ok (.dup, 1) := by decide +kernel
theorem dX6_bind_55 : decode cX6_bind 55 = .ok (.ldc 234, 2) := by decide +kernel
theorem dX6_bind_57 : decode cX6_bind 57 = .ok (.invokespecial 159, 3) := by decide +kernel
theorem dX6_bind_60 : decode cX6_bind 60 = .ok (.athrow, 1) := by decide +kernel
theorem dX6_bind_61 : decode cX6_bind 61 = .ok (.aload_n 3, 1) := by decide +kernel
theorem dX6_bind_62 : decode cX6_bind 62 = .ok (.iload_n 2, 1) := by decide +kernel
theorem dX6_bind_63 : decode cX6_bind 63 = .ok (.invokevirtual 236, 3) := by decide +kernel
theorem dX6_bind_66 : decode cX6_bind 66 = .ok (.aload_n 0, 1) := by decide +kernel
theorem dX6_bind_67 : decode cX6_bind 67 = .ok (.getfield 45, 3) := by decide +kernel
theorem dX6_bind_70 : decode cX6_bind 70 = .ok (.aload_n 0, 1) := by decide +kernel
theorem dX6_bind_71 : decode cX6_bind 71 = .ok (.getfield 226, 3) := by decide +kernel
theorem dX6_bind_74 : decode cX6_bind 74 = .ok (.aload_n 0, 1) := by decide +kernel
theorem dX6_bind_75 : decode cX6_bind 75 = .ok (.aload_n 3, 1) := by decide +kernel
theorem dX6_bind_76 : decode cX6_bind 76 = .ok (.iload_n 2, 1) := by decide +kernel
theorem dX6_bind_77 : decode cX6_bind 77 = .ok (.invokevirtual 239, 3) := by decide +kernel
theorem dX6_bind_80 : decode cX6_bind 80 = .ok (.aastore, 1) := by decide +kernel
theorem dX6_bind_81 : decode cX6_bind 81 = .ok (.aload_n 0, 1) := by decide +kernel
theorem dX6_bind_82 : decode cX6_bind 82 = .ok (.dup, 1) := by decide +kernel
theorem dX6_bind_83 : decode cX6_bind 83 = .ok (.getfield 226, 3) := by decide +kernel
theorem dX6_bind_86 : decode cX6_bind 86 = .ok (.iconst 1, 1) := by decide +kernel
theorem dX6_bind_87 : decode cX6_bind 87 = .ok (.iadd, 1) := by decide +kernel
theorem dX6_bind_88 : decode cX6_bind 88 = .ok (.putfield 226, 3) := by decide +kernel
theorem dX6_bind_91 : decode cX6_bind 91 = .ok (.aload_n 0, 1) := by decide +kernel
theorem dX6_bind_92 : decode cX6_bind 92 = .ok (.getfield 226, 3) := by decide +kernel
theorem dX6_bind_95 : decode cX6_bind 95 = .ok (.iconst 1, 1) := by decide +kernel
theorem dX6_bind_96 : decode cX6_bind 96 = .ok (.isub, 1) := by decide +kernel
theorem dX6_bind_97 : decode cX6_bind 97 = .ok (.ireturn, 1) := by decide +kernel
theorem dX6_lacks_0 : decode cX6_lacks 0 = .ok (.aload_n 0, 1) := by decide +kernel
theorem dX6_lacks_1 : decode cX6_lacks 1 = .ok (.iload_n 1, 1) := by decide +kernel
theorem dX6_lacks_2 : decode cX6_lacks 2 = .ok (.invokevirtual 109, 3) := by decide +kernel
theorem dX6_lacks_5 : decode cX6_lacks 5 = .ok (.astore_n 3, 1) := by decide +kernel
theorem dX6_lacks_6 : decode cX6_lacks 6 = .ok (.iload_n 2, 1) := by decide +kernel
theorem dX6_lacks_7 : decode cX6_lacks 7 = .ok (.invokestatic 148, 3) := by decide +kernel
theorem dX6_lacks_10 : decode cX6_lacks 10 = .ok (.aload_n 3, 1) := by decide +kernel
theorem dX6_lacks_11 : decode cX6_lacks 11 = .ok (.invokestatic 223, 3) := by decide +kernel
theorem dX6_lacks_14 : decode cX6_lacks 14 = .ok (.aload_n 3, 1) := by decide +kernel
theorem dX6_lacks_15 : decode cX6_lacks 15 = .ok (.iload_n 2, 1) := by decide +kernel
theorem dX6_lacks_16 : decode cX6_lacks 16 = .ok (.invokevirtual 231, 3) := by decide +kernel
theorem dX6_lacks_19 : decode cX6_lacks 19 = .ok (.ireturn, 1) := by decide +kernel
theorem dX6_lots_0 : decode cX6_lots 0 = .ok (.aload_n 0, 1) := by decide +kernel
theorem dX6_lots_1 : decode cX6_lots 1 = .ok (.getfield 226, 3) := by decide +kernel
theorem dX6_lots_4 : decode cX6_lots 4 = .ok (.ireturn, 1) := by decide +kernel
theorem dX6_copies_0 : decode cX6_copies 0 = .ok (.aload_n 0, 1) := by decide +kernel
theorem dX6_copies_1 : decode cX6_copies 1 = .ok (.iload_n 1, 1) := by decide +kernel
theorem dX6_copies_2 : decode cX6_copies 2 = .ok (.invokevirtual 243, 3) := by decide +kernel
theorem dX6_copies_5 : decode cX6_copies 5 = .ok (.getfield 247, 3) := by decide +kernel
theorem dX6_copies_8 : decode cX6_copies 8 = .ok (.ireturn, 1) := by decide +kernel
theorem dX6_stateIn_0 : decode cX6_stateIn 0 = .ok (.aload_n 0, 1) := by decide +kernel
theorem dX6_stateIn_1 : decode cX6_stateIn 1 = .ok (.iload_n 1, 1) := by decide +kernel
theorem dX6_stateIn_2 : decode cX6_stateIn 2 = .ok (.invokevirtual 243, 3) := by decide +kernel
theorem dX6_stateIn_5 : decode cX6_stateIn 5 = .ok (.astore_n 3, 1) := by decide +kernel
theorem dX6_stateIn_6 : decode cX6_stateIn 6 = .ok (.aload_n 3, 1) := by decide +kernel
theorem dX6_stateIn_7 : decode cX6_stateIn 7 = .ok (.iload_n 2, 1) := by decide +kernel
theorem dX6_stateIn_8 : decode cX6_stateIn 8 = .ok (.invokestatic 250, 3) := by decide +kernel
theorem dX6_stateIn_11 : decode cX6_stateIn 11 = .ok (.aload_n 3, 1) := by decide +kernel
theorem dX6_stateIn_12 : decode cX6_stateIn 12 = .ok (.iload_n 2, 1) := by decide +kernel
theorem dX6_stateIn_13 : decode cX6_stateIn 13 = .ok (.invokevirtual 254, 3) := by decide +kernel
theorem dX6_stateIn_16 : decode cX6_stateIn 16 = .ok (.ireturn, 1) := by decide +kernel
theorem dX6_stateByReplay_0 : decode cX6_stateByReplay 0 = .ok (.aload_n 0, 1) := by decide +kernel
theorem dX6_stateByReplay_1 : decode cX6_stateByReplay 1 = .ok (.iload_n 1, 1) := by decide +kernel
theorem dX6_stateByReplay_2 : decode cX6_stateByReplay 2 = .ok (.invokevirtual 243, 3) := by decide +kernel
theorem dX6_stateByReplay_5 : decode cX6_stateByReplay 5 = .ok (.astore_n 3, 1) := by decide +kernel
theorem dX6_stateByReplay_6 : decode cX6_stateByReplay 6 = .ok (.aload_n 3, 1) := by decide +kernel
theorem dX6_stateByReplay_7 : decode cX6_stateByReplay 7 = .ok (.iload_n 2, 1) := by decide +kernel
theorem dX6_stateByReplay_8 : decode cX6_stateByReplay 8 = .ok (.invokestatic 250, 3) := by decide +kernel
theorem dX6_stateByReplay_11 : decode cX6_stateByReplay 11 = .ok (.aload_n 0, 1) := by decide +kernel
theorem dX6_stateByReplay_12 : decode cX6_stateByReplay 12 = .ok (.getfield 12, 3) := by decide +kernel
theorem dX6_stateByReplay_15 : decode cX6_stateByReplay 15 = .ok (.aload_n 3, 1) := by decide +kernel
theorem dX6_stateByReplay_16 : decode cX6_stateByReplay 16 = .ok (.getfield 257, 3) := by decide +kernel
theorem dX6_stateByReplay_19 : decode cX6_stateByReplay 19 = .ok (.aload_n 3, 1) := by decide +kernel
theorem dX6_stateByReplay_20 : decode cX6_stateByReplay 20 = .ok (.iload_n 2, 1) := by decide +kernel
theorem dX6_stateByReplay_21 : decode cX6_stateByReplay 21 = .ok (.invokevirtual 260, 3) := by decide +kernel
theorem dX6_stateByReplay_24 : decode cX6_stateByReplay 24 = .ok (.invokevirtual 263, 3) := by decide +kernel
theorem dX6_stateByReplay_27 : decode cX6_stateByReplay 27 = .ok (.ireturn, 1) := by decide +kernel
theorem dX6_outdated_0 : decode cX6_outdated 0 = .ok (.aload_n 0, 1) := by decide +kernel
theorem dX6_outdated_1 : decode cX6_outdated 1 = .ok (.iload_n 1, 1) := by decide +kernel
theorem dX6_outdated_2 : decode cX6_outdated 2 = .ok (.invokevirtual 64, 3) := by decide +kernel
theorem dX6_outdated_5 : decode cX6_outdated 5 = .ok (.aload_n 0, 1) := by decide +kernel
theorem dX6_outdated_6 : decode cX6_outdated 6 = .ok (.getfield 12, 3) := by decide +kernel
theorem dX6_outdated_9 : decode cX6_outdated 9 = .ok (.iload_n 1, 1) := by decide +kernel
theorem dX6_outdated_10 : decode cX6_outdated 10 = .ok (.invokevirtual 76, 3) := by decide +kernel
theorem dX6_outdated_13 : decode cX6_outdated 13 = .ok (.istore_n 2, 1) := by decide +kernel
theorem dX6_outdated_14 : decode cX6_outdated 14 = .ok (.iconst 0, 1) := by decide +kernel
theorem dX6_outdated_15 : decode cX6_outdated 15 = .ok (.istore_n 3, 1) := by decide +kernel
theorem dX6_outdated_16 : decode cX6_outdated 16 = .ok (.iconst 0, 1) := by decide +kernel
theorem dX6_outdated_17 : decode cX6_outdated 17 = .ok (.istore 4, 2) := by decide +kernel
theorem dX6_outdated_19 : decode cX6_outdated 19 = .ok (.iload 4, 2) := by decide +kernel
theorem dX6_outdated_21 : decode cX6_outdated 21 = .ok (.bipush 100, 2) := by decide +kernel
theorem dX6_outdated_23 : decode cX6_outdated 23 = .ok (.if_icmp .ge 40, 3) := by decide +kernel
theorem dX6_outdated_26 : decode cX6_outdated 26 = .ok (.aload_n 0, 1) := by decide +kernel
theorem dX6_outdated_27 : decode cX6_outdated 27 = .ok (.iload 4, 2) := by decide +kernel
theorem dX6_outdated_29 : decode cX6_outdated 29 = .ok (.invokevirtual 266, 3) := by decide +kernel
theorem dX6_outdated_32 : decode cX6_outdated 32 = .ok (.astore 5, 2) := by decide +kernel
theorem dX6_outdated_34 : decode cX6_outdated 34 = .ok (.aload 5, 2) := by decide +kernel
theorem dX6_outdated_36 : decode cX6_outdated 36 = .ok (.ifnull 21, 3) := by decide +kernel
theorem dX6_outdated_39 : decode cX6_outdated 39 = .ok (.aload 5, 2) := by decide +kernel
theorem dX6_outdated_41 : decode cX6_outdated 41 = .ok (.iload_n 1, 1) := by decide +kernel
theorem dX6_outdated_42 : decode cX6_outdated 42 = .ok (.iload_n 2, 1) := by decide +kernel
theorem dX6_outdated_43 : decode cX6_outdated 43 = .ok (.invokevirtual 269, 3) := by decide +kernel
theorem dX6_outdated_46 : decode cX6_outdated 46 = .ok (.ifCond .eq 11, 3) := by decide +kernel
theorem dX6_outdated_49 : decode cX6_outdated 49 = .ok (.iload_n 3, 1) := by decide +kernel
theorem dX6_outdated_50 : decode cX6_outdated 50 = .ok (.aload 5, 2) := by decide +kernel
theorem dX6_outdated_52 : decode cX6_outdated 52 = .ok (.getfield 247, 3) := by decide +kernel
theorem dX6_outdated_55 : decode cX6_outdated 55 = .ok (.iadd, 1) := by decide +kernel
theorem dX6_outdated_56 : decode cX6_outdated 56 = .ok (.istore_n 3, 1) := by decide +kernel
theorem dX6_outdated_57 : decode cX6_outdated 57 = .ok (.iinc 4 1, 3) := by decide +kernel
theorem dX6_outdated_60 : decode cX6_outdated 60 = .ok (.goto (-41), 3) := by decide +kernel
theorem dX6_outdated_63 : decode cX6_outdated 63 = .ok (.iload_n 3, 1) := by decide +kernel
theorem dX6_outdated_64 : decode cX6_outdated 64 = .ok (.ireturn, 1) := by decide +kernel
theorem dX6_waste_0 : decode cX6_waste 0 = .ok (.aload_n 0, 1) := by decide +kernel
theorem dX6_waste_1 : decode cX6_waste 1 = .ok (.getfield 92, 3) := by decide +kernel
theorem dX6_waste_4 : decode cX6_waste 4 = .ok (.lreturn, 1) := by decide +kernel
theorem dX6_requireContent_0 : decode cX6_requireContent 0 = .ok (.iload_n 1, 1) := by decide +kernel
theorem dX6_requireContent_1 : decode cX6_requireContent 1 = .ok (.ifCond .lt 14, 3) := by decide +kernel
theorem dX6_requireContent_4 : decode cX6_requireContent 4 = .ok (.iload_n 1, 1) := by decide +kernel
theorem dX6_requireContent_5 : decode cX6_requireContent 5 = .ok (.aload_n 0, 1) := by decide +kernel
theorem dX6_requireContent_6 : decode cX6_requireContent 6 = .ok (.getfield 12, 3) := by decide +kernel
theorem dX6_requireContent_9 : decode cX6_requireContent 9 = .ok (.getfield 49, 3) := by decide +kernel
theorem dX6_requireContent_12 : decode cX6_requireContent 12 = .ok (.if_icmp .lt 14, 3) := by decide +kernel
theorem dX6_requireContent_15 : decode cX6_requireContent 15 = .ok (.new 278, 3) := by decide +kernel
theorem dX6_requireContent_18 : decode cX6_requireContent 18 = .ok (.dup, 1) := by decide +kernel
theorem dX6_requireContent_19 : decode cX6_requireContent 19 = .ok (.ldc_w 280, 3) := by decide +kernel
theorem dX6_requireContent_22 : decode cX6_requireContent 22 = .ok (.invokespecial 282, 3) := by decide +kernel
theorem dX6_requireContent_25 : decode cX6_requireContent 25 = .ok (.athrow, 1) := by decide +kernel
theorem dX6_requireContent_26 : decode cX6_requireContent 26 = .ok (.return_, 1) := by decide +kernel
theorem dX6_findJob_0 : decode cX6_findJob 0 = .ok (.iload_n 1, 1) := by decide +kernel
theorem dX6_findJob_1 : decode cX6_findJob 1 = .ok (.ifCond .lt 29, 3) := by decide +kernel
theorem dX6_findJob_4 : decode cX6_findJob 4 = .ok (.iload_n 1, 1) := by decide +kernel
theorem dX6_findJob_5 : decode cX6_findJob 5 = .ok (.aload_n 0, 1) := by decide +kernel
theorem dX6_findJob_6 : decode cX6_findJob 6 = .ok (.getfield 101, 3) := by decide +kernel
theorem dX6_findJob_9 : decode cX6_findJob 9 = .ok (.if_icmp .ge 21, 3) := by decide +kernel
theorem dX6_findJob_12 : decode cX6_findJob 12 = .ok (.iload_n 1, 1) := by decide +kernel
theorem dX6_findJob_13 : decode cX6_findJob 13 = .ok (.aload_n 0, 1) := by decide +kernel
theorem dX6_findJob_14 : decode cX6_findJob 14 = .ok (.getfield 18, 3) := by decide +kernel
theorem dX6_findJob_17 : decode cX6_findJob 17 = .ok (.arraylength, 1) := by decide +kernel
theorem dX6_findJob_18 : decode cX6_findJob 18 = .ok (.if_icmp .ge 12, 3) := by decide +kernel
theorem dX6_findJob_21 : decode cX6_findJob 21 = .ok (.aload_n 0, 1) := by decide +kernel
theorem dX6_findJob_22 : decode cX6_findJob 22 = .ok (.getfield 18, 3) := by decide +kernel
theorem dX6_findJob_25 : decode cX6_findJob 25 = .ok (.iload_n 1, 1) := by decide +kernel
theorem dX6_findJob_26 : decode cX6_findJob 26 = .ok (.aaload, 1) := by decide +kernel
theorem dX6_findJob_27 : decode cX6_findJob 27 = .ok (.goto 4, 3) := by decide +kernel
theorem dX6_findJob_30 : decode cX6_findJob 30 = .ok (.aconst_null, 1) := by decide +kernel
theorem dX6_findJob_31 : decode cX6_findJob 31 = .ok (.areturn, 1) := by decide +kernel
theorem dX6_existingJob_0 : decode cX6_existingJob 0 = .ok (.aload_n 0, 1) := by decide +kernel
theorem dX6_existingJob_1 : decode cX6_existingJob 1 = .ok (.iload_n 1, 1) := by decide +kernel
theorem dX6_existingJob_2 : decode cX6_existingJob 2 = .ok (.invokevirtual 82, 3) := by decide +kernel
theorem dX6_existingJob_5 : decode cX6_existingJob 5 = .ok (.astore_n 2, 1) := by decide +kernel
theorem dX6_existingJob_6 : decode cX6_existingJob 6 = .ok (.aload_n 2, 1) := by decide +kernel
theorem dX6_existingJob_7 : decode cX6_existingJob 7 = .ok (.ifnonnull 14, 3) := by decide +kernel
theorem dX6_existingJob_10 : decode cX6_existingJob 10 = .ok (.new 278, 3) := by decide +kernel
theorem dX6_existingJob_13 : decode cX6_existingJob 13 = .ok (.dup, 1) := by decide +kernel
theorem dX6_existingJob_14 : decode cX6_existingJob 14 = .ok (.ldc_w 283, 3) := by decide +kernel
theorem dX6_existingJob_17 : decode cX6_existingJob 17 = .ok (.invokespecial 282, 3) := by decide +kernel
theorem dX6_existingJob_20 : decode cX6_existingJob 20 = .ok (.athrow, 1) := by decide +kernel
theorem dX6_existingJob_21 : decode cX6_existingJob 21 = .ok (.aload_n 2, 1) := by decide +kernel
theorem dX6_existingJob_22 : decode cX6_existingJob 22 = .ok (.areturn, 1) := by decide +kernel
theorem dX6_completeJob_0 : decode cX6_completeJob 0 = .ok (.aload_n 0, 1) := by decide +kernel
theorem dX6_completeJob_1 : decode cX6_completeJob 1 = .ok (.iload_n 1, 1) := by decide +kernel
theorem dX6_completeJob_2 : decode cX6_completeJob 2 = .ok (.invokevirtual 109, 3) := by decide +kernel
theorem dX6_completeJob_5 : decode cX6_completeJob 5 = .ok (.astore_n 2, 1) := by decide +kernel
theorem dX6_completeJob_6 : decode cX6_completeJob 6 = .ok (.aload_n 2, 1) := by decide +kernel
theorem dX6_completeJob_7 : decode cX6_completeJob 7 = .ok (.invokestatic 223, 3) := by decide +kernel
theorem dX6_completeJob_10 : decode cX6_completeJob 10 = .ok (.aload_n 2, 1) := by decide +kernel
theorem dX6_completeJob_11 : decode cX6_completeJob 11 = .ok (.areturn, 1) := by decide +kernel
