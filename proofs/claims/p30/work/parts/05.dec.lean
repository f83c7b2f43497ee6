theorem dX6_requireComplete_0 : decode cX6_requireComplete 0 = .ok (.aload_n 0, 1) := by decide +kernel
theorem dX6_requireComplete_1 : decode cX6_requireComplete 1 = .ok (.invokevirtual 285, 3) := by decide +kernel
theorem dX6_requireComplete_4 : decode cX6_requireComplete 4 = .ok (.ifCond .ne 14, 3) := by decide +kernel
theorem dX6_requireComplete_7 : decode cX6_requireComplete 7 = .ok (.new 53, 3) := by decide +kernel
theorem dX6_requireComplete_10 : decode cX6_requireComplete 10 = .ok (.dup, 1) := by decide +kernel
theorem dX6_requireComplete_11 : decode cX6_requireComplete 11 = .ok (.ldc_w 289, 3) := by decide +kernel
theorem dX6_requireComplete_14 : decode cX6_requireComplete 14 = .ok (.invokespecial 57, 3) := by decide +kernel
theorem dX6_requireComplete_17 : decode cX6_requireComplete 17 = .ok (.athrow, 1) := by decide +kernel
theorem dX6_requireComplete_18 : decode cX6_requireComplete 18 = .ok (.return_, 1) := by decide +kernel
theorem dX6_requireSheet_0 : decode cX6_requireSheet 0 = .ok (.iload_n 1, 1) := by decide +kernel
theorem dX6_requireSheet_1 : decode cX6_requireSheet 1 = .ok (.ifCond .lt 11, 3) := by decide +kernel
theorem dX6_requireSheet_4 : decode cX6_requireSheet 4 = .ok (.iload_n 1, 1) := by decide +kernel
theorem dX6_requireSheet_5 : decode cX6_requireSheet 5 = .ok (.aload_n 0, 1) := by decide +kernel
theorem dX6_requireSheet_6 : decode cX6_requireSheet 6 = .ok (.invokevirtual 124, 3) := by decide +kernel
theorem dX6_requireSheet_9 : decode cX6_requireSheet 9 = .ok (.if_icmp .lt 14, 3) := by decide +kernel
theorem dX6_requireSheet_12 : decode cX6_requireSheet 12 = .ok (.new 134, 3) := by decide +kernel
theorem dX6_requireSheet_15 : decode cX6_requireSheet 15 = .ok (.dup, 1) := by decide +kernel
theorem dX6_requireSheet_16 : decode cX6_requireSheet 16 = .ok (.ldc_w 291, 3) := by decide +kernel
theorem dX6_requireSheet_19 : decode cX6_requireSheet 19 = .ok (.invokespecial 138, 3) := by decide +kernel
theorem dX6_requireSheet_22 : decode cX6_requireSheet 22 = .ok (.athrow, 1) := by decide +kernel
theorem dX6_requireSheet_23 : decode cX6_requireSheet 23 = .ok (.return_, 1) := by decide +kernel
theorem dX6_requireCount_0 : decode cX6_requireCount 0 = .ok (.iload_n 0, 1) := by decide +kernel
theorem dX6_requireCount_1 : decode cX6_requireCount 1 = .ok (.iconst 1, 1) := by decide +kernel
theorem dX6_requireCount_2 : decode cX6_requireCount 2 = .ok (.if_icmp .lt 10, 3) := by decide +kernel
theorem dX6_requireCount_5 : decode cX6_requireCount 5 = .ok (.iload_n 0, 1) := by decide +kernel
theorem dX6_requireCount_6 : decode cX6_requireCount 6 = .ok (.sipush 500, 3) := by decide +kernel
theorem dX6_requireCount_9 : decode cX6_requireCount 9 = .ok (.if_icmp .le 14, 3) := by decide +kernel
theorem dX6_requireCount_12 : decode cX6_requireCount 12 = .ok (.new 96, 3) := by decide +kernel
theorem dX6_requireCount_15 : decode cX6_requireCount 15 = .ok (.dup, 1) := by decide +kernel
theorem dX6_requireCount_16 : decode cX6_requireCount 16 = .ok (.ldc_w 293, 3) := by decide +kernel
theorem dX6_requireCount_19 : decode cX6_requireCount 19 = .ok (.invokespecial 100, 3) := by decide +kernel
theorem dX6_requireCount_22 : decode cX6_requireCount 22 = .ok (.athrow, 1) := by decide +kernel
theorem dX6_requireCount_23 : decode cX6_requireCount 23 = .ok (.return_, 1) := by decide +kernel
theorem dX6_findLot_0 : decode cX6_findLot 0 = .ok (.iload_n 1, 1) := by decide +kernel
theorem dX6_findLot_1 : decode cX6_findLot 1 = .ok (.ifCond .lt 29, 3) := by decide +kernel
theorem dX6_findLot_4 : decode cX6_findLot 4 = .ok (.iload_n 1, 1) := by decide +kernel
theorem dX6_findLot_5 : decode cX6_findLot 5 = .ok (.aload_n 0, 1) := by decide +kernel
theorem dX6_findLot_6 : decode cX6_findLot 6 = .ok (.getfield 226, 3) := by decide +kernel
theorem dX6_findLot_9 : decode cX6_findLot 9 = .ok (.if_icmp .ge 21, 3) := by decide +kernel
theorem dX6_findLot_12 : decode cX6_findLot 12 = .ok (.iload_n 1, 1) := by decide +kernel
theorem dX6_findLot_13 : decode cX6_findLot 13 = .ok (.aload_n 0, 1) := by decide +kernel
theorem dX6_findLot_14 : decode cX6_findLot 14 = .ok (.getfield 45, 3) := by decide +kernel
theorem dX6_findLot_17 : decode cX6_findLot 17 = .ok (.arraylength, 1) := by decide +kernel
theorem dX6_findLot_18 : decode cX6_findLot 18 = .ok (.if_icmp .ge 12, 3) := by decide +kernel
theorem dX6_findLot_21 : decode cX6_findLot 21 = .ok (.aload_n 0, 1) := by decide +kernel
theorem dX6_findLot_22 : decode cX6_findLot 22 = .ok (.getfield 45, 3) := by decide +kernel
theorem dX6_findLot_25 : decode cX6_findLot 25 = .ok (.iload_n 1, 1) := by decide +kernel
theorem dX6_findLot_26 : decode cX6_findLot 26 = .ok (.aaload, 1) := by decide +kernel
theorem dX6_findLot_27 : decode cX6_findLot 27 = .ok (.goto 4, 3) := by decide +kernel
theorem dX6_findLot_30 : decode cX6_findLot 30 = .ok (.aconst_null, 1) := by decide +kernel
theorem dX6_findLot_31 : decode cX6_findLot 31 = .ok (.areturn, 1) := by decide +kernel
theorem dX6_existingLot_0 : decode cX6_existingLot 0 = .ok (.aload_n 0, 1) := by decide +kernel
theorem dX6_existingLot_1 : decode cX6_existingLot 1 = .ok (.iload_n 1, 1) := by decide +kernel
theorem dX6_existingLot_2 : decode cX6_existingLot 2 = .ok (.invokevirtual 266, 3) := by decide +kernel
theorem dX6_existingLot_5 : decode cX6_existingLot 5 = .ok (.astore_n 2, 1) := by decide +kernel
theorem dX6_existingLot_6 : decode cX6_existingLot 6 = .ok (.aload_n 2, 1) := by decide +kernel
theorem dX6_existingLot_7 : decode cX6_existingLot 7 = .ok (.ifnonnull 14, 3) := by decide +kernel
theorem dX6_existingLot_10 : decode cX6_existingLot 10 = .ok (.new 278, 3) := by decide +kernel
theorem dX6_existingLot_13 : decode cX6_existingLot 13 = .ok (.dup, 1) := by decide +kernel
theorem dX6_existingLot_14 : decode cX6_existingLot 14 = .ok (.ldc_w 295, 3) := by decide +kernel
theorem dX6_existingLot_17 : decode cX6_existingLot 17 = .ok (.invokespecial 282, 3) := by decide +kernel
theorem dX6_existingLot_20 : decode cX6_existingLot 20 = .ok (.athrow, 1) := by decide +kernel
theorem dX6_existingLot_21 : decode cX6_existingLot 21 = .ok (.aload_n 2, 1) := by decide +kernel
theorem dX6_existingLot_22 : decode cX6_existingLot 22 = .ok (.areturn, 1) := by decide +kernel
theorem dX6_requirePage_0 : decode cX6_requirePage 0 = .ok (.iload_n 1, 1) := by decide +kernel
theorem dX6_requirePage_1 : decode cX6_requirePage 1 = .ok (.iconst 1, 1) := by decide +kernel
theorem dX6_requirePage_2 : decode cX6_requirePage 2 = .ok (.if_icmp .lt 11, 3) := by decide +kernel
theorem dX6_requirePage_5 : decode cX6_requirePage 5 = .ok (.iload_n 1, 1) := by decide +kernel
theorem dX6_requirePage_6 : decode cX6_requirePage 6 = .ok (.aload_n 0, 1) := by decide +kernel
theorem dX6_requirePage_7 : decode cX6_requirePage 7 = .ok (.getfield 297, 3) := by decide +kernel
theorem dX6_requirePage_10 : decode cX6_requirePage 10 = .ok (.if_icmp .le 14, 3) := by decide +kernel
theorem dX6_requirePage_13 : decode cX6_requirePage 13 = .ok (.new 134, 3) := by decide +kernel
theorem dX6_requirePage_16 : decode cX6_requirePage 16 = .ok (.dup, 1) := by decide +kernel
theorem dX6_requirePage_17 : decode cX6_requirePage 17 = .ok (.ldc_w 298, 3) := by decide +kernel
theorem dX6_requirePage_20 : decode cX6_requirePage 20 = .ok (.invokespecial 138, 3) := by decide +kernel
theorem dX6_requirePage_23 : decode cX6_requirePage 23 = .ok (.athrow, 1) := by decide +kernel
theorem dX6_requirePage_24 : decode cX6_requirePage 24 = .ok (.return_, 1) := by decide +kernel
theorem dX6_isWhollyApproved_0 : decode cX6_isWhollyApproved 0 = .ok (.aload_n 1, 1) := by decide +kernel
theorem dX6_isWhollyApproved_1 : decode cX6_isWhollyApproved 1 = .ok (.invokevirtual 131, 3) := by decide +kernel
theorem dX6_isWhollyApproved_4 : decode cX6_isWhollyApproved 4 = .ok (.istore_n 3, 1) := by decide +kernel
theorem dX6_isWhollyApproved_5 : decode cX6_isWhollyApproved 5 = .ok (.iconst 0, 1) := by decide +kernel
theorem dX6_isWhollyApproved_6 : decode cX6_isWhollyApproved 6 = .ok (.istore 4, 2) := by decide +kernel
theorem dX6_isWhollyApproved_8 : decode cX6_isWhollyApproved 8 = .ok (.iload 4, 2) := by decide +kernel
theorem dX6_isWhollyApproved_10 : decode cX6_isWhollyApproved 10 = .ok (.iload_n 3, 1) := by decide +kernel
theorem dX6_isWhollyApproved_11 : decode cX6_isWhollyApproved 11 = .ok (.if_icmp .ge 28, 3) := by decide +kernel
theorem dX6_isWhollyApproved_14 : decode cX6_isWhollyApproved 14 = .ok (.aload_n 0, 1) := by decide +kernel
theorem dX6_isWhollyApproved_15 : decode cX6_isWhollyApproved 15 = .ok (.getfield 12, 3) := by decide +kernel
theorem dX6_isWhollyApproved_18 : decode cX6_isWhollyApproved 18 = .ok (.aload_n 1, 1) := by decide +kernel
theorem dX6_isWhollyApproved_19 : decode cX6_isWhollyApproved 19 = .ok (.iload_n 2, 1) := by decide +kernel
theorem dX6_isWhollyApproved_20 : decode cX6_isWhollyApproved 20 = .ok (.iload 4, 2) := by decide +kernel
theorem dX6_isWhollyApproved_22 : decode cX6_isWhollyApproved 22 = .ok (.invokevirtual 300, 3) := by decide +kernel
theorem dX6_isWhollyApproved_25 : decode cX6_isWhollyApproved 25 = .ok (.invokevirtual 68, 3) := by decide +kernel
theorem dX6_isWhollyApproved_28 : decode cX6_isWhollyApproved 28 = .ok (.ifCond .ne 5, 3) := by decide +kernel
theorem dX6_isWhollyApproved_31 : decode cX6_isWhollyApproved 31 = .ok (.iconst 0, 1) := by decide +kernel
theorem dX6_isWhollyApproved_32 : decode cX6_isWhollyApproved 32 = .ok (.ireturn, 1) := by decide +kernel
theorem dX6_isWhollyApproved_33 : decode cX6_isWhollyApproved 33 = .ok (.iinc 4 1, 3) := by decide +kernel
theorem dX6_isWhollyApproved_36 : decode cX6_isWhollyApproved 36 = .ok (.goto (-28), 3) := by decide +kernel
theorem dX6_isWhollyApproved_39 : decode cX6_isWhollyApproved 39 = .ok (.iconst 1, 1) := by decide +kernel
theorem dX6_isWhollyApproved_40 : decode cX6_isWhollyApproved 40 = .ok (.ireturn, 1) := by decide +kernel
theorem dX6_plateFor_0 : decode cX6_plateFor 0 = .ok (.aload_n 1, 1) := by decide +kernel
theorem dX6_plateFor_1 : decode cX6_plateFor 1 = .ok (.invokevirtual 131, 3) := by decide +kernel
theorem dX6_plateFor_4 : decode cX6_plateFor 4 = .ok (.iconst 2, 1) := by decide +kernel
theorem dX6_plateFor_5 : decode cX6_plateFor 5 = .ok (.if_icmp .ne 18, 3) := by decide +kernel
theorem dX6_plateFor_8 : decode cX6_plateFor 8 = .ok (.aload_n 0, 1) := by decide +kernel
theorem dX6_plateFor_9 : decode cX6_plateFor 9 = .ok (.getfield 12, 3) := by decide +kernel
theorem dX6_plateFor_12 : decode cX6_plateFor 12 = .ok (.aload_n 1, 1) := by decide +kernel
theorem dX6_plateFor_13 : decode cX6_plateFor 13 = .ok (.iload_n 2, 1) := by decide +kernel
theorem dX6_plateFor_14 : decode cX6_plateFor 14 = .ok (.iload_n 3, 1) := by decide +kernel
theorem dX6_plateFor_15 : decode cX6_plateFor 15 = .ok (.invokevirtual 300, 3) := by decide +kernel
theorem dX6_plateFor_18 : decode cX6_plateFor 18 = .ok (.iconst (-1), 1) := by decide +kernel
theorem dX6_plateFor_19 : decode cX6_plateFor 19 = .ok (.invokevirtual 303, 3) := by decide +kernel
theorem dX6_plateFor_22 : decode cX6_plateFor 22 = .ok (.ireturn, 1) := by decide +kernel
theorem dX6_plateFor_23 : decode cX6_plateFor 23 = .ok (.aload_n 0, 1) := by decide +kernel
theorem dX6_plateFor_24 : decode cX6_plateFor 24 = .ok (.getfield 12, 3) := by decide +kernel
theorem dX6_plateFor_27 : decode cX6_plateFor 27 = .ok (.aload_n 1, 1) := by decide +kernel
theorem dX6_plateFor_28 : decode cX6_plateFor 28 = .ok (.iload_n 2, 1) := by decide +kernel
theorem dX6_plateFor_29 : decode cX6_plateFor 29 = .ok (.iconst 2, 1) := by decide +kernel
theorem dX6_plateFor_30 : decode cX6_plateFor 30 = .ok (.iload_n 3, 1) := by decide +kernel
theorem dX6_plateFor_31 : decode cX6_plateFor 31 = .ok (.imul, 1) := by decide +kernel
theorem dX6_plateFor_32 : decode cX6_plateFor 32 = .ok (.invokevirtual 300, 3) := by decide +kernel
theorem dX6_plateFor_35 : decode cX6_plateFor 35 = .ok (.aload_n 1, 1) := by decide +kernel
theorem dX6_plateFor_36 : decode cX6_plateFor 36 = .ok (.iload_n 2, 1) := by decide +kernel
theorem dX6_plateFor_37 : decode cX6_plateFor 37 = .ok (.iconst 2, 1) := by decide +kernel
theorem dX6_plateFor_38 : decode cX6_plateFor 38 = .ok (.iload_n 3, 1) := by decide +kernel
theorem dX6_plateFor_39 : decode cX6_plateFor 39 = .ok (.imul, 1) := by decide +kernel
theorem dX6_plateFor_40 : decode cX6_plateFor 40 = .ok (.iconst 1, 1) := by decide +kernel
theorem dX6_plateFor_41 : decode cX6_plateFor 41 = .ok (.iadd, 1) := by decide +kernel
theorem dX6_plateFor_42 : decode cX6_plateFor 42 = .ok (.invokevirtual 300, 3) := by decide +kernel
theorem dX6_plateFor_45 : decode cX6_plateFor 45 = .ok (.invokevirtual 303, 3) := by decide +kernel
theorem dX6_plateFor_48 : decode cX6_plateFor 48 = .ok (.ireturn, 1) := by decide +kernel
theorem dX6_isOnEarlierSide_0 : decode cX6_isOnEarlierSide 0 = .ok (.iconst 0, 1) := by decide +kernel
theorem dX6_isOnEarlierSide_1 : decode cX6_isOnEarlierSide 1 = .ok (.istore 4, 2) := by decide +kernel
theorem dX6_isOnEarlierSide_3 : decode cX6_isOnEarlierSide 3 = .ok (.iload 4, 2) := by decide +kernel
theorem dX6_isOnEarlierSide_5 : decode cX6_isOnEarlierSide 5 = .ok (.iload_n 2, 1) := by decide +kernel
theorem dX6_isOnEarlierSide_6 : decode cX6_isOnEarlierSide 6 = .ok (.if_icmp .ge 28, 3) := by decide +kernel
theorem dX6_isOnEarlierSide_9 : decode cX6_isOnEarlierSide 9 = .ok (.aload_n 0, 1) := by decide +kernel
theorem dX6_isOnEarlierSide_10 : decode cX6_isOnEarlierSide 10 = .ok (.aload_n 1, 1) := by decide +kernel
theorem dX6_isOnEarlierSide_11 : decode cX6_isOnEarlierSide 11 = .ok (.iload 4, 2) := by decide +kernel
theorem dX6_isOnEarlierSide_13 : decode cX6_isOnEarlierSide 13 = .ok (.iconst 2, 1) := by decide +kernel
theorem dX6_isOnEarlierSide_14 : decode cX6_isOnEarlierSide 14 = .ok (.idiv, 1) := by decide +kernel
theorem dX6_isOnEarlierSide_15 : decode cX6_isOnEarlierSide 15 = .ok (.iload 4, 2) := by decide +kernel
theorem dX6_isOnEarlierSide_17 : decode cX6_isOnEarlierSide 17 = .ok (.iconst 2, 1) := by decide +kernel
theorem dX6_isOnEarlierSide_18 : decode cX6_isOnEarlierSide 18 = .ok (.irem, 1) := by decide +kernel
theorem dX6_isOnEarlierSide_19 : decode cX6_isOnEarlierSide 19 = .ok (.invokevirtual 165, 3) := by decide +kernel
theorem dX6_isOnEarlierSide_22 : decode cX6_isOnEarlierSide 22 = .ok (.iload_n 3, 1) := by decide +kernel
theorem dX6_isOnEarlierSide_23 : decode cX6_isOnEarlierSide 23 = .ok (.if_icmp .ne 5, 3) := by decide +kernel
theorem dX6_isOnEarlierSide_26 : decode cX6_isOnEarlierSide 26 = .ok (.iconst 1, 1) := by decide +kernel
theorem dX6_isOnEarlierSide_27 : decode cX6_isOnEarlierSide 27 = .ok (.ireturn, 1) := by decide +kernel
theorem dX6_isOnEarlierSide_28 : decode cX6_isOnEarlierSide 28 = .ok (.iinc 4 1, 3) := by decide +kernel
theorem dX6_isOnEarlierSide_31 : decode cX6_isOnEarlierSide 31 = .ok (.goto (-28), 3) := by decide +kernel
theorem dX6_isOnEarlierSide_34 : decode cX6_isOnEarlierSide 34 = .ok (.iconst 0, 1) := by decide +kernel
theorem dX6_isOnEarlierSide_35 : decode cX6_isOnEarlierSide 35 = .ok (.ireturn, 1) := by decide +kernel
theorem dX6_loadOrders_0 : decode cX6_loadOrders 0 = .ok (.aload_n 1, 1) := by decide +kernel
theorem dX6_loadOrders_1 : decode cX6_loadOrders 1 = .ok (.invokevirtual 124, 3) := by decide +kernel
theorem dX6_loadOrders_4 : decode cX6_loadOrders 4 = .ok (.istore_n 2, 1) := by decide +kernel
theorem dX6_loadOrders_5 : decode cX6_loadOrders 5 = .ok (.aload_n 0, 1) := by decide +kernel
theorem dX6_loadOrders_6 : decode cX6_loadOrders 6 = .ok (.getfield 39, 3) := by decide +kernel
theorem dX6_loadOrders_9 : decode cX6_loadOrders 9 = .ok (.iload_n 2, 1) := by decide +kernel
theorem dX6_loadOrders_10 : decode cX6_loadOrders 10 = .ok (.aload_n 0, 1) := by decide +kernel
theorem dX6_loadOrders_11 : decode cX6_loadOrders 11 = .ok (.getfield 25, 3) := by decide +kernel
theorem dX6_loadOrders_14 : decode cX6_loadOrders 14 = .ok (.getfield 306, 3) := by decide +kernel
theorem dX6_loadOrders_17 : decode cX6_loadOrders 17 = .ok (.aload_n 0, 1) := by decide +kernel
theorem dX6_loadOrders_18 : decode cX6_loadOrders 18 = .ok (.getfield 25, 3) := by decide +kernel
theorem dX6_loadOrders_21 : decode cX6_loadOrders 21 = .ok (.getfield 309, 3) := by decide +kernel
theorem dX6_loadOrders_24 : decode cX6_loadOrders 24 = .ok (.invokevirtual 312, 3) := by decide +kernel
theorem dX6_loadOrders_27 : decode cX6_loadOrders 27 = .ok (.iconst 0, 1) := by decide +kernel
theorem dX6_loadOrders_28 : decode cX6_loadOrders 28 = .ok (.istore_n 3, 1) := by decide +kernel
theorem dX6_loadOrders_29 : decode cX6_loadOrders 29 = .ok (.iload_n 3, 1) := by decide +kernel
theorem dX6_loadOrders_30 : decode cX6_loadOrders 30 = .ok (.iload_n 2, 1) := by decide +kernel
theorem dX6_loadOrders_31 : decode cX6_loadOrders 31 = .ok (.if_icmp .ge 31, 3) := by decide +kernel
theorem dX6_loadOrders_34 : decode cX6_loadOrders 34 = .ok (.aload_n 0, 1) := by decide +kernel
theorem dX6_loadOrders_35 : decode cX6_loadOrders 35 = .ok (.getfield 39, 3) := by decide +kernel
theorem dX6_loadOrders_38 : decode cX6_loadOrders 38 = .ok (.iload_n 3, 1) := by decide +kernel
theorem dX6_loadOrders_39 : decode cX6_loadOrders 39 = .ok (.aload_n 0, 1) := by decide +kernel
theorem dX6_loadOrders_40 : decode cX6_loadOrders 40 = .ok (.aload_n 1, 1) := by decide +kernel
theorem dX6_loadOrders_41 : decode cX6_loadOrders 41 = .ok (.iload_n 3, 1) := by decide +kernel
theorem dX6_loadOrders_42 : decode cX6_loadOrders 42 = .ok (.iconst 0, 1) := by decide +kernel
theorem dX6_loadOrders_43 : decode cX6_loadOrders 43 = .ok (.invokevirtual 165, 3) := by decide +kernel
theorem dX6_loadOrders_46 : decode cX6_loadOrders 46 = .ok (.aload_n 0, 1) := by decide +kernel
theorem dX6_loadOrders_47 : decode cX6_loadOrders 47 = .ok (.aload_n 1, 1) := by decide +kernel
theorem dX6_loadOrders_48 : decode cX6_loadOrders 48 = .ok (.iload_n 3, 1) := by decide +kernel
theorem dX6_loadOrders_49 : decode cX6_loadOrders 49 = .ok (.iconst 1, 1) := by decide +kernel
theorem dX6_loadOrders_50 : decode cX6_loadOrders 50 = .ok (.invokevirtual 165, 3) := by decide +kernel
theorem dX6_loadOrders_53 : decode cX6_loadOrders 53 = .ok (.invokevirtual 316, 3) := by decide +kernel
theorem dX6_loadOrders_56 : decode cX6_loadOrders 56 = .ok (.iinc 3 1, 3) := by decide +kernel
theorem dX6_loadOrders_59 : decode cX6_loadOrders 59 = .ok (.goto (-30), 3) := by decide +kernel
theorem dX6_loadOrders_62 : decode cX6_loadOrders 62 = .ok (.return_, 1) := by decide +kernel
theorem dX6_newLot_0 : decode cX6_newLot 0 = .ok (.new 43, 3) := by decide +kernel
theorem dX6_newLot_3 : decode cX6_newLot 3 = .ok (.dup, 1) := by decide +kernel
theorem dX6_newLot_4 : decode cX6_newLot 4 = .ok (.iload_n 2, 1) := by decide +kernel
theorem dX6_newLot_5 : decode cX6_newLot 5 = .ok (.aload_n 1, 1) := by decide +kernel
theorem dX6_newLot_6 : decode cX6_newLot 6 = .ok (.getfield 112, 3) := by decide +kernel
theorem dX6_newLot_9 : decode cX6_newLot 9 = .ok (.aload_n 0, 1) := by decide +kernel
theorem dX6_newLot_10 : decode cX6_newLot 10 = .ok (.getfield 12, 3) := by decide +kernel
theorem dX6_newLot_13 : decode cX6_newLot 13 = .ok (.getfield 319, 3) := by decide +kernel
theorem dX6_newLot_16 : decode cX6_newLot 16 = .ok (.invokespecial 320, 3) := by decide +kernel
theorem dX6_newLot_19 : decode cX6_newLot 19 = .ok (.astore_n 3, 1) := by decide +kernel
theorem dX6_newLot_20 : decode cX6_newLot 20 = .ok (.iconst 1, 1) := by decide +kernel
theorem dX6_newLot_21 : decode cX6_newLot 21 = .ok (.istore 4, 2) := by decide +kernel
theorem dX6_newLot_23 : decode cX6_newLot 23 = .ok (.iload 4, 2) := by decide +kernel
theorem dX6_newLot_25 : decode cX6_newLot 25 = .ok (.aload_n 1, 1) := by decide +kernel
theorem dX6_newLot_26 : decode cX6_newLot 26 = .ok (.getfield 112, 3) := by decide +kernel
theorem dX6_newLot_29 : decode cX6_newLot 29 = .ok (.if_icmp .gt 34, 3) := by decide +kernel
theorem dX6_newLot_32 : decode cX6_newLot 32 = .ok (.aload_n 1, 1) := by decide +kernel
theorem dX6_newLot_33 : decode cX6_newLot 33 = .ok (.iload 4, 2) := by decide +kernel
theorem dX6_newLot_35 : decode cX6_newLot 35 = .ok (.invokevirtual 322, 3) := by decide +kernel
theorem dX6_newLot_38 : decode cX6_newLot 38 = .ok (.istore 5, 2) := by decide +kernel
theorem dX6_newLot_40 : decode cX6_newLot 40 = .ok (.aload_n 3, 1) := by decide +kernel
theorem dX6_newLot_41 : decode cX6_newLot 41 = .ok (.iload 4, 2) := by decide +kernel
theorem dX6_newLot_43 : decode cX6_newLot 43 = .ok (.iload 5, 2) := by decide +kernel
theorem dX6_newLot_45 : decode cX6_newLot 45 = .ok (.aload_n 0, 1) := by decide +kernel
theorem dX6_newLot_46 : decode cX6_newLot 46 = .ok (.getfield 12, 3) := by decide +kernel
theorem dX6_newLot_49 : decode cX6_newLot 49 = .ok (.iload 5, 2) := by decide +kernel
theorem dX6_newLot_51 : decode cX6_newLot 51 = .ok (.invokevirtual 76, 3) := by decide +kernel
theorem dX6_newLot_54 : decode cX6_newLot 54 = .ok (.invokevirtual 323, 3) := by decide +kernel
theorem dX6_newLot_57 : decode cX6_newLot 57 = .ok (.iinc 4 1, 3) := by decide +kernel
theorem dX6_newLot_60 : decode cX6_newLot 60 = .ok (.goto (-37), 3) := by decide +kernel
theorem dX6_newLot_63 : decode cX6_newLot 63 = .ok (.aload_n 3, 1) := by decide +kernel
theorem dX6_newLot_64 : decode cX6_newLot 64 = .ok (.areturn, 1) := by decide +kernel
theorem dX6_at_0 : decode cX6_at 0 = .ok (.iload_n 1, 1) := by decide +kernel
theorem dX6_at_1 : decode cX6_at 1 = .ok (.ifCond .lt 15, 3) := by decide +kernel
theorem dX6_at_4 : decode cX6_at 4 = .ok (.iload_n 1, 1) := by decide +kernel
theorem dX6_at_5 : decode cX6_at 5 = .ok (.aload_n 0, 1) := by decide +kernel
theorem dX6_at_6 : decode cX6_at 6 = .ok (.arraylength, 1) := by decide +kernel
theorem dX6_at_7 : decode cX6_at 7 = .ok (.if_icmp .ge 9, 3) := by decide +kernel
theorem dX6_at_10 : decode cX6_at 10 = .ok (.aload_n 0, 1) := by decide +kernel
theorem dX6_at_11 : decode cX6_at 11 = .ok (.iload_n 1, 1) := by decide +kernel
theorem dX6_at_12 : decode cX6_at 12 = .ok (.iaload, 1) := by decide +kernel
theorem dX6_at_13 : decode cX6_at 13 = .ok (.goto 4, 3) := by decide +kernel
theorem dX6_at_16 : decode cX6_at 16 = .ok (.iconst 0, 1) := by decide +kernel
theorem dX6_at_17 : decode cX6_at 17 = .ok (.ireturn, 1) := by decide +kernel
theorem dX6_put_0 : decode cX6_put 0 = .ok (.iload_n 1, 1) := by decide +kernel
theorem dX6_put_1 : decode cX6_put 1 = .ok (.ifCond .lt 13, 3) := by decide +kernel
theorem dX6_put_4 : decode cX6_put 4 = .ok (.iload_n 1, 1) := by decide +kernel
theorem dX6_put_5 : decode cX6_put 5 = .ok (.aload_n 0, 1) := by decide +kernel
theorem dX6_put_6 : decode cX6_put 6 = .ok (.arraylength, 1) := by decide +kernel
theorem dX6_put_7 : decode cX6_put 7 = .ok (.if_icmp .ge 7, 3) := by decide +kernel
theorem dX6_put_10 : decode cX6_put 10 = .ok (.aload_n 0, 1) := by decide +kernel
theorem dX6_put_11 : decode cX6_put 11 = .ok (.iload_n 1, 1) := by decide +kernel
theorem dX6_put_12 : decode cX6_put 12 = .ok (.iload_n 2, 1) := by decide +kernel
theorem dX6_put_13 : decode cX6_put 13 = .ok (.iastore, 1) := by decide +kernel
theorem dX6_put_14 : decode cX6_put 14 = .ok (.return_, 1) := by decide +kernel
theorem dL_cell_0 : decode cL_cell 0 = .ok (.iload_n 1, 1) := by decide +kernel
theorem dL_cell_1 : decode cL_cell 1 = .ok (.aload_n 0, 1) := by decide +kernel
theorem dL_cell_2 : decode cL_cell 2 = .ok (.arraylength, 1) := by decide +kernel
theorem dL_cell_3 : decode cL_cell 3 = .ok (.if_icmp .ge 9, 3) := by decide +kernel
theorem dL_cell_6 : decode cL_cell 6 = .ok (.aload_n 0, 1) := by decide +kernel
theorem dL_cell_7 : decode cL_cell 7 = .ok (.iload_n 1, 1) := by decide +kernel
theorem dL_cell_8 : decode cL_cell 8 = .ok (.iaload, 1) := by decide +kernel
theorem dL_cell_9 : decode cL_cell 9 = .ok (.goto 7, 3) := by decide +kernel
theorem dL_cell_12 : decode cL_cell 12 = .ok (.ldc 7, 2) := by decide +kernel
theorem dL_cell_14 : decode cL_cell 14 = .ok (.iload_n 1, 1) := by decide +kernel
theorem dL_cell_15 : decode cL_cell 15 = .ok (.imul, 1) := by decide +kernel
theorem dL_cell_16 : decode cL_cell 16 = .ok (.ireturn, 1) := by decide +kernel
theorem dL_pick_0 : decode cL_pick 0 = .ok (.aload_n 0, 1) := by decide +kernel
theorem dL_pick_1 : decode cL_pick 1 = .ok (.iload_n 1, 1) := by decide +kernel
theorem dL_pick_2 : decode cL_pick 2 = .ok (.invokestatic 8, 3) := by decide +kernel
theorem dL_pick_5 : decode cL_pick 5 = .ok (.iconst 1, 1) := by decide +kernel
theorem dL_pick_6 : decode cL_pick 6 = .ok (.iushr, 1) := by decide +kernel
theorem dL_pick_7 : decode cL_pick 7 = .ok (.iload_n 2, 1) := by decide +kernel
theorem dL_pick_8 : decode cL_pick 8 = .ok (.irem, 1) := by decide +kernel
theorem dL_pick_9 : decode cL_pick 9 = .ok (.ireturn, 1) := by decide +kernel
theorem dL_addContent_0 : decode cL_addContent 0 = .ok (.aload_n 0, 1) := by decide +kernel
theorem dL_addContent_1 : decode cL_addContent 1 = .ok (.invokevirtual 14, 3) := by decide +kernel
theorem dL_addContent_4 : decode cL_addContent 4 = .ok (.ireturn, 1) := by decide +kernel
theorem dL_addContent_5 : decode cL_addContent 5 = .ok (.astore_n 1, 1) := by decide +kernel
theorem dL_addContent_6 : decode cL_addContent 6 = .ok (.bipush (-79), 2) := by decide +kernel
theorem dL_addContent_8 : decode cL_addContent 8 = .ok (.ireturn, 1) := by decide +kernel
theorem dL_approve_0 : decode cL_approve 0 = .ok (.aload_n 0, 1) := by decide +kernel
theorem dL_approve_1 : decode cL_approve 1 = .ok (.iload_n 1, 1) := by decide +kernel
theorem dL_approve_2 : decode cL_approve 2 = .ok (.invokevirtual 22, 3) := by decide +kernel
theorem dL_approve_5 : decode cL_approve 5 = .ok (.ifCond .eq 7, 3) := by decide +kernel
theorem dL_approve_8 : decode cL_approve 8 = .ok (.iconst 1, 1) := by decide +kernel
theorem dL_approve_9 : decode cL_approve 9 = .ok (.goto 4, 3) := by decide +kernel
theorem dL_approve_12 : decode cL_approve 12 = .ok (.iconst 0, 1) := by decide +kernel
theorem dL_approve_13 : decode cL_approve 13 = .ok (.ireturn, 1) := by decide +kernel
theorem dL_approve_14 : decode cL_approve 14 = .ok (.astore_n 2, 1) := by decide +kernel
theorem dL_approve_15 : decode cL_approve 15 = .ok (.bipush (-77), 2) := by decide +kernel
theorem dL_approve_17 : decode cL_approve 17 = .ok (.ireturn, 1) := by decide +kernel
theorem dL_correct_0 : decode cL_correct 0 = .ok (.aload_n 0, 1) := by decide +kernel
theorem dL_correct_1 : decode cL_correct 1 = .ok (.iload_n 1, 1) := by decide +kernel
theorem dL_correct_2 : decode cL_correct 2 = .ok (.invokevirtual 28, 3) := by decide +kernel
theorem dL_correct_5 : decode cL_correct 5 = .ok (.ireturn, 1) := by decide +kernel
theorem dL_correct_6 : decode cL_correct 6 = .ok (.astore_n 2, 1) := by decide +kernel
theorem dL_correct_7 : decode cL_correct 7 = .ok (.bipush (-77), 2) := by decide +kernel
theorem dL_correct_9 : decode cL_correct 9 = .ok (.ireturn, 1) := by decide +kernel
theorem dL_correct_10 : decode cL_correct 10 = .ok (.astore_n 2, 1) := by decide +kernel
theorem dL_correct_11 : decode cL_correct 11 = .ok (.bipush (-79), 2) := by decide +kernel
theorem dL_correct_13 : decode cL_correct 13 = .ok (.ireturn, 1) := by decide +kernel
theorem dL_state_0 : decode cL_state 0 = .ok (.aload_n 0, 1) := by decide +kernel
theorem dL_state_1 : decode cL_state 1 = .ok (.iload_n 1, 1) := by decide +kernel
theorem dL_state_2 : decode cL_state 2 = .ok (.invokevirtual 32, 3) := by decide +kernel
theorem dL_state_5 : decode cL_state 5 = .ok (.ireturn, 1) := by decide +kernel
theorem dL_state_6 : decode cL_state 6 = .ok (.astore_n 2, 1) := by decide +kernel
theorem dL_state_7 : decode cL_state 7 = .ok (.bipush (-77), 2) := by decide +kernel
theorem dL_state_9 : decode cL_state 9 = .ok (.ireturn, 1) := by decide +kernel
theorem dL_addJob_0 : decode cL_addJob 0 = .ok (.aload_n 0, 1) := by decide +kernel
theorem dL_addJob_1 : decode cL_addJob 1 = .ok (.iload_n 1, 1) := by decide +kernel
theorem dL_addJob_2 : decode cL_addJob 2 = .ok (.invokevirtual 35, 3) := by decide +kernel
theorem dL_addJob_5 : decode cL_addJob 5 = .ok (.ireturn, 1) := by decide +kernel
theorem dL_addJob_6 : decode cL_addJob 6 = .ok (.astore_n 2, 1) := by decide +kernel
theorem dL_addJob_7 : decode cL_addJob 7 = .ok (.bipush (-78), 2) := by decide +kernel
theorem dL_addJob_9 : decode cL_addJob 9 = .ok (.ireturn, 1) := by decide +kernel
theorem dL_addJob_10 : decode cL_addJob 10 = .ok (.astore_n 2, 1) := by decide +kernel
theorem dL_addJob_11 : decode cL_addJob 11 = .ok (.bipush (-79), 2) := by decide +kernel
theorem dL_addJob_13 : decode cL_addJob 13 = .ok (.ireturn, 1) := by decide +kernel
theorem dL_addPage_0 : decode cL_addPage 0 = .ok (.aload_n 0, 1) := by decide +kernel
theorem dL_addPage_1 : decode cL_addPage 1 = .ok (.iload_n 1, 1) := by decide +kernel
theorem dL_addPage_2 : decode cL_addPage 2 = .ok (.iload_n 2, 1) := by decide +kernel
theorem dL_addPage_3 : decode cL_addPage 3 = .ok (.invokevirtual 41, 3) := by decide +kernel
theorem dL_addPage_6 : decode cL_addPage 6 = .ok (.ireturn, 1) := by decide +kernel
theorem dL_addPage_7 : decode cL_addPage 7 = .ok (.astore_n 3, 1) := by decide +kernel
theorem dL_addPage_8 : decode cL_addPage 8 = .ok (.bipush (-77), 2) := by decide +kernel
theorem dL_addPage_10 : decode cL_addPage 10 = .ok (.ireturn, 1) := by decide +kernel
theorem dL_addPage_11 : decode cL_addPage 11 = .ok (.astore_n 3, 1) := by decide +kernel
theorem dL_addPage_12 : decode cL_addPage 12 = .ok (.bipush (-79), 2) := by decide +kernel
theorem dL_addPage_14 : decode cL_addPage 14 = .ok (.ireturn, 1) := by decide +kernel
theorem dL_pages_0 : decode cL_pages 0 = .ok (.aload_n 0, 1) := by decide +kernel
theorem dL_pages_1 : decode cL_pages 1 = .ok (.iload_n 1, 1) := by decide +kernel
theorem dL_pages_2 : decode cL_pages 2 = .ok (.invokevirtual 45, 3) := by decide +kernel
theorem dL_pages_5 : decode cL_pages 5 = .ok (.ireturn, 1) := by decide +kernel
theorem dL_pages_6 : decode cL_pages 6 = .ok (.astore_n 2, 1) := by decide +kernel
theorem dL_pages_7 : decode cL_pages 7 = .ok (.bipush (-77), 2) := by decide +kernel
theorem dL_pages_9 : decode cL_pages 9 = .ok (.ireturn, 1) := by decide +kernel
theorem dL_sheets_0 : decode cL_sheets 0 = .ok (.aload_n 0, 1) := by decide +kernel
theorem dL_sheets_1 : decode cL_sheets 1 = .ok (.iload_n 1, 1) := by decide +kernel
theorem dL_sheets_2 : decode cL_sheets 2 = .ok (.invokevirtual 48, 3) := by decide +kernel
theorem dL_sheets_5 : decode cL_sheets 5 = .ok (.ireturn, 1) := by decide +kernel
theorem dL_sheets_6 : decode cL_sheets 6 = .ok (.astore_n 2, 1) := by decide +kernel
theorem dL_sheets_7 : decode cL_sheets 7 = .ok (.bipush (-77), 2) := by decide +kernel
theorem dL_sheets_9 : decode cL_sheets 9 = .ok (.ireturn, 1) := by decide +kernel
theorem dL_sheets_10 : decode cL_sheets 10 = .ok (.astore_n 2, 1) := by decide +kernel
theorem dL_sheets_11 : decode cL_sheets 11 = .ok (.bipush (-79), 2) := by decide +kernel
theorem dL_sheets_13 : decode cL_sheets 13 = .ok (.ireturn, 1) := by decide +kernel
theorem dL_pageAt_0 : decode cL_pageAt 0 = .ok (.aload_n 0, 1) := by decide +kernel
theorem dL_pageAt_1 : decode cL_pageAt 1 = .ok (.iload_n 1, 1) := by decide +kernel
theorem dL_pageAt_2 : decode cL_pageAt 2 = .ok (.iload_n 2, 1) := by decide +kernel
theorem dL_pageAt_3 : decode cL_pageAt 3 = .ok (.iload_n 3, 1) := by decide +kernel
theorem dL_pageAt_4 : decode cL_pageAt 4 = .ok (.invokevirtual 51, 3) := by decide +kernel
theorem dL_pageAt_7 : decode cL_pageAt 7 = .ok (.ireturn, 1) := by decide +kernel
theorem dL_pageAt_8 : decode cL_pageAt 8 = .ok (.astore 4, 2) := by decide +kernel
theorem dL_pageAt_10 : decode cL_pageAt 10 = .ok (.bipush (-77), 2) := by decide +kernel
theorem dL_pageAt_12 : decode cL_pageAt 12 = .ok (.ireturn, 1) := by decide +kernel
theorem dL_pageAt_13 : decode cL_pageAt 13 = .ok (.astore 4, 2) := by decide +kernel
theorem dL_pageAt_15 : decode cL_pageAt 15 = .ok (.bipush (-79), 2) := by decide +kernel
theorem dL_pageAt_17 : decode cL_pageAt 17 = .ok (.ireturn, 1) := by decide +kernel
theorem dL_pageAt_18 : decode cL_pageAt 18 = .ok (.astore 4, 2) := by decide +kernel
theorem dL_pageAt_20 : decode cL_pageAt 20 = .ok (.bipush (-75), 2) := by decide +kernel
theorem dL_pageAt_22 : decode cL_pageAt 22 = .ok (.ireturn, 1) := by decide +kernel
theorem dL_sheetOf_0 : decode cL_sheetOf 0 = .ok (.aload_n 0, 1) := by decide +kernel
theorem dL_sheetOf_1 : decode cL_sheetOf 1 = .ok (.iload_n 1, 1) := by decide +kernel
theorem dL_sheetOf_2 : decode cL_sheetOf 2 = .ok (.iload_n 2, 1) := by decide +kernel
theorem dL_sheetOf_3 : decode cL_sheetOf 3 = .ok (.invokevirtual 57, 3) := by decide +kernel
theorem dL_sheetOf_6 : decode cL_sheetOf 6 = .ok (.ireturn, 1) := by decide +kernel
theorem dL_sheetOf_7 : decode cL_sheetOf 7 = .ok (.astore_n 3, 1) := by decide +kernel
theorem dL_sheetOf_8 : decode cL_sheetOf 8 = .ok (.bipush (-77), 2) := by decide +kernel
theorem dL_sheetOf_10 : decode cL_sheetOf 10 = .ok (.ireturn, 1) := by decide +kernel
theorem dL_sheetOf_11 : decode cL_sheetOf 11 = .ok (.astore_n 3, 1) := by decide +kernel
theorem dL_sheetOf_12 : decode cL_sheetOf 12 = .ok (.bipush (-79), 2) := by decide +kernel
theorem dL_sheetOf_14 : decode cL_sheetOf 14 = .ok (.ireturn, 1) := by decide +kernel
theorem dL_sheetOf_15 : decode cL_sheetOf 15 = .ok (.astore_n 3, 1) := by decide +kernel
theorem dL_sheetOf_16 : decode cL_sheetOf 16 = .ok (.bipush (-75), 2) := by decide +kernel
theorem dL_sheetOf_18 : decode cL_sheetOf 18 = .ok (.ireturn, 1) := by decide +kernel
theorem dL_print_0 : decode cL_print 0 = .ok (.aload_n 0, 1) := by decide +kernel
theorem dL_print_1 : decode cL_print 1 = .ok (.iload_n 1, 1) := by decide +kernel
theorem dL_print_2 : decode cL_print 2 = .ok (.iload_n 2, 1) := by decide +kernel
theorem dL_print_3 : decode cL_print 3 = .ok (.iload_n 3, 1) := by decide +kernel
theorem dL_print_4 : decode cL_print 4 = .ok (.invokevirtual 60, 3) := by decide +kernel
theorem dL_print_7 : decode cL_print 7 = .ok (.ireturn, 1) := by decide +kernel
theorem dL_print_8 : decode cL_print 8 = .ok (.astore 4, 2) := by decide +kernel
theorem dL_print_10 : decode cL_print 10 = .ok (.bipush (-77), 2) := by decide +kernel
theorem dL_print_12 : decode cL_print 12 = .ok (.ireturn, 1) := by decide +kernel
theorem dL_print_13 : decode cL_print 13 = .ok (.astore 4, 2) := by decide +kernel
theorem dL_print_15 : decode cL_print 15 = .ok (.bipush (-79), 2) := by decide +kernel
theorem dL_print_17 : decode cL_print 17 = .ok (.ireturn, 1) := by decide +kernel
theorem dL_print_18 : decode cL_print 18 = .ok (.astore 4, 2) := by decide +kernel
theorem dL_print_20 : decode cL_print 20 = .ok (.bipush (-75), 2) := by decide +kernel
theorem dL_print_22 : decode cL_print 22 = .ok (.ireturn, 1) := by decide +kernel
theorem dL_print_23 : decode cL_print 23 = .ok (.astore 4, 2) := by decide +kernel
theorem dL_print_25 : decode cL_print 25 = .ok (.bipush (-78), 2) := by decide +kernel
theorem dL_print_27 : decode cL_print 27 = .ok (.ireturn, 1) := by decide +kernel
theorem dL_print_28 : decode cL_print 28 = .ok (.astore 4, 2) := by decide +kernel
theorem dL_print_30 : decode cL_print 30 = .ok (.bipush (-76), 2) := by decide +kernel
theorem dL_print_32 : decode cL_print 32 = .ok (.ireturn, 1) := by decide +kernel
theorem dL_makeready_0 : decode cL_makeready 0 = .ok (.aload_n 0, 1) := by decide +kernel
theorem dL_makeready_1 : decode cL_makeready 1 = .ok (.iload_n 1, 1) := by decide +kernel
theorem dL_makeready_2 : decode cL_makeready 2 = .ok (.iload_n 2, 1) := by decide +kernel
theorem dL_makeready_3 : decode cL_makeready 3 = .ok (.invokevirtual 65, 3) := by decide +kernel
theorem dL_makeready_6 : decode cL_makeready 6 = .ok (.ireturn, 1) := by decide +kernel
theorem dL_makeready_7 : decode cL_makeready 7 = .ok (.astore_n 3, 1) := by decide +kernel
theorem dL_makeready_8 : decode cL_makeready 8 = .ok (.bipush (-77), 2) := by decide +kernel
theorem dL_makeready_10 : decode cL_makeready 10 = .ok (.ireturn, 1) := by decide +kernel
theorem dL_makeready_11 : decode cL_makeready 11 = .ok (.astore_n 3, 1) := by decide +kernel
theorem dL_makeready_12 : decode cL_makeready 12 = .ok (.bipush (-79), 2) := by decide +kernel
theorem dL_makeready_14 : decode cL_makeready 14 = .ok (.ireturn, 1) := by decide +kernel
theorem dL_makeready_15 : decode cL_makeready 15 = .ok (.astore_n 3, 1) := by decide +kernel
theorem dL_makeready_16 : decode cL_makeready 16 = .ok (.bipush (-75), 2) := by decide +kernel
theorem dL_makeready_18 : decode cL_makeready 18 = .ok (.ireturn, 1) := by decide +kernel
theorem dL_leastMakeready_0 : decode cL_leastMakeready 0 = .ok (.aload_n 0, 1) := by decide +kernel
theorem dL_leastMakeready_1 : decode cL_leastMakeready 1 = .ok (.iload_n 1, 1) := by decide +kernel
theorem dL_leastMakeready_2 : decode cL_leastMakeready 2 = .ok (.invokevirtual 68, 3) := by decide +kernel
theorem dL_leastMakeready_5 : decode cL_leastMakeready 5 = .ok (.ireturn, 1) := by decide +kernel
theorem dL_leastMakeready_6 : decode cL_leastMakeready 6 = .ok (.astore_n 2, 1) := by decide +kernel
theorem dL_leastMakeready_7 : decode cL_leastMakeready 7 = .ok (.bipush (-77), 2) := by decide +kernel
theorem dL_leastMakeready_9 : decode cL_leastMakeready 9 = .ok (.ireturn, 1) := by decide +kernel
theorem dL_leastMakeready_10 : decode cL_leastMakeready 10 = .ok (.astore_n 2, 1) := by decide +kernel
theorem dL_leastMakeready_11 : decode cL_leastMakeready 11 = .ok (.bipush (-79), 2) := by decide +kernel
theorem dL_leastMakeready_13 : decode cL_leastMakeready 13 = .ok (.ireturn, 1) := by decide +kernel
theorem dL_leastByTrying_0 : decode cL_leastByTrying 0 = .ok (.aload_n 0, 1) := by decide +kernel
theorem dL_leastByTrying_1 : decode cL_leastByTrying 1 = .ok (.iload_n 1, 1) := by decide +kernel
theorem dL_leastByTrying_2 : decode cL_leastByTrying 2 = .ok (.invokevirtual 71, 3) := by decide +kernel
theorem dL_leastByTrying_5 : decode cL_leastByTrying 5 = .ok (.ireturn, 1) := by decide +kernel
theorem dL_leastByTrying_6 : decode cL_leastByTrying 6 = .ok (.astore_n 2, 1) := by decide +kernel
theorem dL_leastByTrying_7 : decode cL_leastByTrying 7 = .ok (.bipush (-77), 2) := by decide +kernel
theorem dL_leastByTrying_9 : decode cL_leastByTrying 9 = .ok (.ireturn, 1) := by decide +kernel
theorem dL_leastByTrying_10 : decode cL_leastByTrying 10 = .ok (.astore_n 2, 1) := by decide +kernel
theorem dL_leastByTrying_11 : decode cL_leastByTrying 11 = .ok (.bipush (-79), 2) := by decide +kernel
theorem dL_leastByTrying_13 : decode cL_leastByTrying 13 = .ok (.ireturn, 1) := by decide +kernel
theorem dL_leastByTrying_14 : decode cL_leastByTrying 14 = .ok (.astore_n 2, 1) := by decide +kernel
theorem dL_leastByTrying_15 : decode cL_leastByTrying 15 = .ok (.bipush (-76), 2) := by decide +kernel
theorem dL_leastByTrying_17 : decode cL_leastByTrying 17 = .ok (.ireturn, 1) := by decide +kernel
theorem dL_stock_0 : decode cL_stock 0 = .ok (.aload_n 0, 1) := by decide +kernel
theorem dL_stock_1 : decode cL_stock 1 = .ok (.iload_n 1, 1) := by decide +kernel
theorem dL_stock_2 : decode cL_stock 2 = .ok (.iload_n 2, 1) := by decide +kernel
theorem dL_stock_3 : decode cL_stock 3 = .ok (.invokevirtual 74, 3) := by decide +kernel
theorem dL_stock_6 : decode cL_stock 6 = .ok (.ireturn, 1) := by decide +kernel
theorem dL_stock_7 : decode cL_stock 7 = .ok (.astore_n 3, 1) := by decide +kernel
theorem dL_stock_8 : decode cL_stock 8 = .ok (.bipush (-77), 2) := by decide +kernel
theorem dL_stock_10 : decode cL_stock 10 = .ok (.ireturn, 1) := by decide +kernel
theorem dL_stock_11 : decode cL_stock 11 = .ok (.astore_n 3, 1) := by decide +kernel
theorem dL_stock_12 : decode cL_stock 12 = .ok (.bipush (-79), 2) := by decide +kernel
theorem dL_stock_14 : decode cL_stock 14 = .ok (.ireturn, 1) := by decide +kernel
theorem dL_stock_15 : decode cL_stock 15 = .ok (.astore_n 3, 1) := by decide +kernel
theorem dL_stock_16 : decode cL_stock 16 = .ok (.bipush (-75), 2) := by decide +kernel
theorem dL_stock_18 : decode cL_stock 18 = .ok (.ireturn, 1) := by decide +kernel
theorem dL_platesNeeded_0 : decode cL_platesNeeded 0 = .ok (.aload_n 0, 1) := by decide +kernel
theorem dL_platesNeeded_1 : decode cL_platesNeeded 1 = .ok (.iload_n 1, 1) := by decide +kernel
theorem dL_platesNeeded_2 : decode cL_platesNeeded 2 = .ok (.invokevirtual 77, 3) := by decide +kernel
theorem dL_platesNeeded_5 : decode cL_platesNeeded 5 = .ok (.ireturn, 1) := by decide +kernel
theorem dL_platesNeeded_6 : decode cL_platesNeeded 6 = .ok (.astore_n 2, 1) := by decide +kernel
theorem dL_platesNeeded_7 : decode cL_platesNeeded 7 = .ok (.bipush (-77), 2) := by decide +kernel
theorem dL_platesNeeded_9 : decode cL_platesNeeded 9 = .ok (.ireturn, 1) := by decide +kernel
theorem dL_platesNeeded_10 : decode cL_platesNeeded 10 = .ok (.astore_n 2, 1) := by decide +kernel
theorem dL_platesNeeded_11 : decode cL_platesNeeded 11 = .ok (.bipush (-79), 2) := by decide +kernel
theorem dL_platesNeeded_13 : decode cL_platesNeeded 13 = .ok (.ireturn, 1) := by decide +kernel
theorem dL_bind_0 : decode cL_bind 0 = .ok (.aload_n 0, 1) := by decide +kernel
theorem dL_bind_1 : decode cL_bind 1 = .ok (.iload_n 1, 1) := by decide +kernel
theorem dL_bind_2 : decode cL_bind 2 = .ok (.iload_n 2, 1) := by decide +kernel
theorem dL_bind_3 : decode cL_bind 3 = .ok (.invokevirtual 80, 3) := by decide +kernel
theorem dL_bind_6 : decode cL_bind 6 = .ok (.ireturn, 1) := by decide +kernel
theorem dL_bind_7 : decode cL_bind 7 = .ok (.astore_n 3, 1) := by decide +kernel
theorem dL_bind_8 : decode cL_bind 8 = .ok (.bipush (-77), 2) := by decide +kernel
theorem dL_bind_10 : decode cL_bind 10 = .ok (.ireturn, 1) := by decide +kernel
theorem dL_bind_11 : decode cL_bind 11 = .ok (.astore_n 3, 1) := by decide +kernel
theorem dL_bind_12 : decode cL_bind 12 = .ok (.bipush (-78), 2) := by decide +kernel
theorem dL_bind_14 : decode cL_bind 14 = .ok (.ireturn, 1) := by decide +kernel
theorem dL_bind_15 : decode cL_bind 15 = .ok (.astore_n 3, 1) := by decide +kernel
theorem dL_bind_16 : decode cL_bind 16 = .ok (.bipush (-79), 2) := by decide +kernel
theorem dL_bind_18 : decode cL_bind 18 = .ok (.ireturn, 1) := by decide +kernel
theorem dL_bind_19 : decode cL_bind 19 = .ok (.astore_n 3, 1) := by decide +kernel
theorem dL_bind_20 : decode cL_bind 20 = .ok (.bipush (-76), 2) := by decide +kernel
theorem dL_bind_22 : decode cL_bind 22 = .ok (.ireturn, 1) := by decide +kernel
theorem dL_lacks_0 : decode cL_lacks 0 = .ok (.aload_n 0, 1) := by decide +kernel
theorem dL_lacks_1 : decode cL_lacks 1 = .ok (.iload_n 1, 1) := by decide +kernel
theorem dL_lacks_2 : decode cL_lacks 2 = .ok (.iload_n 2, 1) := by decide +kernel
theorem dL_lacks_3 : decode cL_lacks 3 = .ok (.invokevirtual 83, 3) := by decide +kernel
theorem dL_lacks_6 : decode cL_lacks 6 = .ok (.ireturn, 1) := by decide +kernel
theorem dL_lacks_7 : decode cL_lacks 7 = .ok (.astore_n 3, 1) := by decide +kernel
theorem dL_lacks_8 : decode cL_lacks 8 = .ok (.bipush (-77), 2) := by decide +kernel
theorem dL_lacks_10 : decode cL_lacks 10 = .ok (.ireturn, 1) := by decide +kernel
theorem dL_lacks_11 : decode cL_lacks 11 = .ok (.astore_n 3, 1) := by decide +kernel
theorem dL_lacks_12 : decode cL_lacks 12 = .ok (.bipush (-78), 2) := by decide +kernel
theorem dL_lacks_14 : decode cL_lacks 14 = .ok (.ireturn, 1) := by decide +kernel
theorem dL_lacks_15 : decode cL_lacks 15 = .ok (.astore_n 3, 1) := by decide +kernel
theorem dL_lacks_16 : decode cL_lacks 16 = .ok (.bipush (-79), 2) := by decide +kernel
theorem dL_lacks_18 : decode cL_lacks 18 = .ok (.ireturn, 1) := by decide +kernel
theorem dL_copies_0 : decode cL_copies 0 = .ok (.aload_n 0, 1) := by decide +kernel
theorem dL_copies_1 : decode cL_copies 1 = .ok (.iload_n 1, 1) := by decide +kernel
theorem dL_copies_2 : decode cL_copies 2 = .ok (.invokevirtual 86, 3) := by decide +kernel
theorem dL_copies_5 : decode cL_copies 5 = .ok (.ireturn, 1) := by decide +kernel
theorem dL_copies_6 : decode cL_copies 6 = .ok (.astore_n 2, 1) := by decide +kernel
theorem dL_copies_7 : decode cL_copies 7 = .ok (.bipush (-77), 2) := by decide +kernel
theorem dL_copies_9 : decode cL_copies 9 = .ok (.ireturn, 1) := by decide +kernel
theorem dL_stateIn_0 : decode cL_stateIn 0 = .ok (.aload_n 0, 1) := by decide +kernel
theorem dL_stateIn_1 : decode cL_stateIn 1 = .ok (.iload_n 1, 1) := by decide +kernel
theorem dL_stateIn_2 : decode cL_stateIn 2 = .ok (.iload_n 2, 1) := by decide +kernel
theorem dL_stateIn_3 : decode cL_stateIn 3 = .ok (.invokevirtual 89, 3) := by decide +kernel
theorem dL_stateIn_6 : decode cL_stateIn 6 = .ok (.ireturn, 1) := by decide +kernel
theorem dL_stateIn_7 : decode cL_stateIn 7 = .ok (.astore_n 3, 1) := by decide +kernel
theorem dL_stateIn_8 : decode cL_stateIn 8 = .ok (.bipush (-77), 2) := by decide +kernel
theorem dL_stateIn_10 : decode cL_stateIn 10 = .ok (.ireturn, 1) := by decide +kernel
theorem dL_stateIn_11 : decode cL_stateIn 11 = .ok (.astore_n 3, 1) := by decide +kernel
theorem dL_stateIn_12 : decode cL_stateIn 12 = .ok (.bipush (-75), 2) := by decide +kernel
theorem dL_stateIn_14 : decode cL_stateIn 14 = .ok (.ireturn, 1) := by decide +kernel
theorem dL_stateByReplay_0 : decode cL_stateByReplay 0 = .ok (.aload_n 0, 1) := by decide +kernel
theorem dL_stateByReplay_1 : decode cL_stateByReplay 1 = .ok (.iload_n 1, 1) := by decide +kernel
theorem dL_stateByReplay_2 : decode cL_stateByReplay 2 = .ok (.iload_n 2, 1) := by decide +kernel
theorem dL_stateByReplay_3 : decode cL_stateByReplay 3 = .ok (.invokevirtual 92, 3) := by decide +kernel
theorem dL_stateByReplay_6 : decode cL_stateByReplay 6 = .ok (.ireturn, 1) := by decide +kernel
theorem dL_stateByReplay_7 : decode cL_stateByReplay 7 = .ok (.astore_n 3, 1) := by decide +kernel
theorem dL_stateByReplay_8 : decode cL_stateByReplay 8 = .ok (.bipush (-77), 2) := by decide +kernel
theorem dL_stateByReplay_10 : decode cL_stateByReplay 10 = .ok (.ireturn, 1) := by decide +kernel
theorem dL_stateByReplay_11 : decode cL_stateByReplay 11 = .ok (.astore_n 3, 1) := by decide +kernel
theorem dL_stateByReplay_12 : decode cL_stateByReplay 12 = .ok (.bipush (-75), 2) := by decide +kernel
theorem dL_stateByReplay_14 : decode cL_stateByReplay 14 = .ok (.ireturn, 1) := by decide +kernel
theorem dL_outdated_0 : decode cL_outdated 0 = .ok (.aload_n 0, 1) := by decide +kernel
theorem dL_outdated_1 : decode cL_outdated 1 = .ok (.iload_n 1, 1) := by decide +kernel
theorem dL_outdated_2 : decode cL_outdated 2 = .ok (.invokevirtual 95, 3) := by decide +kernel
theorem dL_outdated_5 : decode cL_outdated 5 = .ok (.ireturn, 1) := by decide +kernel
theorem dL_outdated_6 : decode cL_outdated 6 = .ok (.astore_n 2, 1) := by decide +kernel
theorem dL_outdated_7 : decode cL_outdated 7 = .ok (.bipush (-77), 2) := by decide +kernel
theorem dL_outdated_9 : decode cL_outdated 9 = .ok (.ireturn, 1) := by decide +kernel
theorem dL_law_0 : decode cL_law 0 = .ok (.new 15, 3) := by decide +kernel
theorem dL_law_3 : decode cL_law 3 = .ok (.dup, 1) := by decide +kernel
theorem dL_law_4 : decode cL_law 4 = .ok (.invokespecial 98, 3) := by decide +kernel
theorem dL_law_7 : decode cL_law 7 = .ok (.astore_n 1, 1) := by decide +kernel
theorem dL_law_8 : decode cL_law 8 = .ok (.iconst 3, 1) := by decide +kernel
theorem dL_law_9 : decode cL_law 9 = .ok (.bipush 16, 2) := by decide +kernel
theorem dL_law_11 : decode cL_law 11 = .ok (.multianewarray 99 2, 4) := by decide +kernel
theorem dL_law_15 : decode cL_law 15 = .ok (.astore_n 2, 1) := by decide +kernel
theorem dL_law_16 : decode cL_law 16 = .ok (.iconst 3, 1) := by decide +kernel
theorem dL_law_17 : decode cL_law 17 = .ok (.newarray .int, 2) := by decide +kernel
theorem dL_law_19 : decode cL_law 19 = .ok (.astore_n 3, 1) := by decide +kernel
theorem dL_law_20 : decode cL_law 20 = .ok (.iconst 3, 1) := by decide +kernel
theorem dL_law_21 : decode cL_law 21 = .ok (.newarray .char, 2) := by decide +kernel
theorem dL_law_23 : decode cL_law 23 = .ok (.astore 4, 2) := by decide +kernel
theorem dL_law_25 : decode cL_law 25 = .ok (.bipush 100, 2) := by decide +kernel
theorem dL_law_27 : decode cL_law 27 = .ok (.newarray .int, 2) := by decide +kernel
theorem dL_law_29 : decode cL_law 29 = .ok (.astore 5, 2) := by decide +kernel
theorem dL_law_31 : decode cL_law 31 = .ok (.lconst 0, 1) := by decide +kernel
theorem dL_law_32 : decode cL_law 32 = .ok (.lstore 6, 2) := by decide +kernel
theorem dL_law_34 : decode cL_law 34 = .ok (.lconst 0, 1) := by decide +kernel
theorem dL_law_35 : decode cL_law 35 = .ok (.lstore 8, 2) := by decide +kernel
theorem dL_law_37 : decode cL_law 37 = .ok (.iconst 1, 1) := by decide +kernel
theorem dL_law_38 : decode cL_law 38 = .ok (.istore 10, 2) := by decide +kernel
theorem dL_law_40 : decode cL_law 40 = .ok (.iconst 0, 1) := by decide +kernel
theorem dL_law_41 : decode cL_law 41 = .ok (.istore 11, 2) := by decide +kernel
theorem dL_law_43 : decode cL_law 43 = .ok (.iconst 0, 1) := by decide +kernel
theorem dL_law_44 : decode cL_law 44 = .ok (.istore 12, 2) := by decide +kernel
theorem dL_law_46 : decode cL_law 46 = .ok (.iload 12, 2) := by decide +kernel
theorem dL_law_48 : decode cL_law 48 = .ok (.iconst 4, 1) := by decide +kernel
theorem dL_law_49 : decode cL_law 49 = .ok (.if_icmp .ge 28, 3) := by decide +kernel
theorem dL_law_52 : decode cL_law 52 = .ok (.iload 10, 2) := by decide +kernel
theorem dL_law_54 : decode cL_law 54 = .ok (.aload_n 1, 1) := by decide +kernel
theorem dL_law_55 : decode cL_law 55 = .ok (.invokestatic 101, 3) := by decide +kernel
theorem dL_law_58 : decode cL_law 58 = .ok (.iload 12, 2) := by decide +kernel
theorem dL_law_60 : decode cL_law 60 = .ok (.if_icmp .ne 7, 3) := by decide +kernel
theorem dL_law_63 : decode cL_law 63 = .ok (.iconst 1, 1) := by decide +kernel
theorem dL_law_64 : decode cL_law 64 = .ok (.goto 4, 3) := by decide +kernel
theorem dL_law_67 : decode cL_law 67 = .ok (.iconst 0, 1) := by decide +kernel
theorem dL_law_68 : decode cL_law 68 = .ok (.iand, 1) := by decide +kernel
theorem dL_law_69 : decode cL_law 69 = .ok (.istore 10, 2) := by decide +kernel
theorem dL_law_71 : decode cL_law 71 = .ok (.iinc 12 1, 3) := by decide +kernel
theorem dL_law_74 : decode cL_law 74 = .ok (.goto (-28), 3) := by decide +kernel
theorem dL_law_77 : decode cL_law 77 = .ok (.iconst 0, 1) := by decide +kernel
theorem dL_law_78 : decode cL_law 78 = .ok (.istore 12, 2) := by decide +kernel
theorem dL_law_80 : decode cL_law 80 = .ok (.iload 12, 2) := by decide +kernel
theorem dL_law_82 : decode cL_law 82 = .ok (.iconst 3, 1) := by decide +kernel
theorem dL_law_83 : decode cL_law 83 = .ok (.if_icmp .ge 151, 3) := by decide +kernel
theorem dL_law_86 : decode cL_law 86 = .ok (.aload 4, 2) := by decide +kernel
theorem dL_law_88 : decode cL_law 88 = .ok (.iload 12, 2) := by decide +kernel
theorem dL_law_90 : decode cL_law 90 = .ok (.aload_n 0, 1) := by decide +kernel
theorem dL_law_91 : decode cL_law 91 = .ok (.iload 11, 2) := by decide +kernel
theorem dL_law_93 : decode cL_law 93 = .ok (.iconst 3, 1) := by decide +kernel
theorem dL_law_94 : decode cL_law 94 = .ok (.invokestatic 104, 3) := by decide +kernel
theorem dL_law_97 : decode cL_law 97 = .ok (.ifCond .ne 8, 3) := by decide +kernel
theorem dL_law_100 : decode cL_law 100 = .ok (.bipush 115, 2) := by decide +kernel
theorem dL_law_102 : decode cL_law 102 = .ok (.goto 21, 3) := by decide +kernel
theorem dL_law_105 : decode cL_law 105 = .ok (.aload_n 0, 1) := by decide +kernel
theorem dL_law_106 : decode cL_law 106 = .ok (.iload 11, 2) := by decide +kernel
theorem dL_law_108 : decode cL_law 108 = .ok (.iconst 3, 1) := by decide +kernel
theorem dL_law_109 : decode cL_law 109 = .ok (.invokestatic 104, 3) := by decide +kernel
theorem dL_law_112 : decode cL_law 112 = .ok (.iconst 1, 1) := by decide +kernel
theorem dL_law_113 : decode cL_law 113 = .ok (.if_icmp .ne 8, 3) := by decide +kernel
theorem dL_law_116 : decode cL_law 116 = .ok (.bipush 112, 2) := by decide +kernel
theorem dL_law_118 : decode cL_law 118 = .ok (.goto 5, 3) := by decide +kernel
theorem dL_law_121 : decode cL_law 121 = .ok (.bipush 119, 2) := by decide +kernel
theorem dL_law_123 : decode cL_law 123 = .ok (.castore, 1) := by decide +kernel
theorem dL_law_124 : decode cL_law 124 = .ok (.iload 10, 2) := by decide +kernel
theorem dL_law_126 : decode cL_law 126 = .ok (.aload_n 1, 1) := by decide +kernel
theorem dL_law_127 : decode cL_law 127 = .ok (.aload 4, 2) := by decide +kernel
theorem dL_law_129 : decode cL_law 129 = .ok (.iload 12, 2) := by decide +kernel
theorem dL_law_131 : decode cL_law 131 = .ok (.caload, 1) := by decide +kernel
theorem dL_law_132 : decode cL_law 132 = .ok (.invokestatic 108, 3) := by decide +kernel
theorem dL_law_135 : decode cL_law 135 = .ok (.iload 12, 2) := by decide +kernel
theorem dL_law_137 : decode cL_law 137 = .ok (.if_icmp .ne 7, 3) := by decide +kernel
theorem dL_law_140 : decode cL_law 140 = .ok (.iconst 1, 1) := by decide +kernel
theorem dL_law_141 : decode cL_law 141 = .ok (.goto 4, 3) := by decide +kernel
theorem dL_law_144 : decode cL_law 144 = .ok (.iconst 0, 1) := by decide +kernel
theorem dL_law_145 : decode cL_law 145 = .ok (.iand, 1) := by decide +kernel
theorem dL_law_146 : decode cL_law 146 = .ok (.istore 10, 2) := by decide +kernel
theorem dL_law_148 : decode cL_law 148 = .ok (.iinc 11 1, 3) := by decide +kernel
theorem dL_law_151 : decode cL_law 151 = .ok (.iconst 0, 1) := by decide +kernel
theorem dL_law_152 : decode cL_law 152 = .ok (.istore 13, 2) := by decide +kernel
theorem dL_law_154 : decode cL_law 154 = .ok (.iload 13, 2) := by decide +kernel
theorem dL_law_156 : decode cL_law 156 = .ok (.iconst 4, 1) := by decide +kernel
theorem dL_law_157 : decode cL_law 157 = .ok (.iconst 1, 1) := by decide +kernel
theorem dL_law_158 : decode cL_law 158 = .ok (.iload 12, 2) := by decide +kernel
theorem dL_law_160 : decode cL_law 160 = .ok (.iconst 2, 1) := by decide +kernel
theorem dL_law_161 : decode cL_law 161 = .ok (.irem, 1) := by decide +kernel
theorem dL_law_162 : decode cL_law 162 = .ok (.iadd, 1) := by decide +kernel
theorem dL_law_163 : decode cL_law 163 = .ok (.imul, 1) := by decide +kernel
theorem dL_law_164 : decode cL_law 164 = .ok (.if_icmp .ge 64, 3) := by decide +kernel
theorem dL_law_167 : decode cL_law 167 = .ok (.aload_n 2, 1) := by decide +kernel
theorem dL_law_168 : decode cL_law 168 = .ok (.iload 12, 2) := by decide +kernel
theorem dL_law_170 : decode cL_law 170 = .ok (.aaload, 1) := by decide +kernel
theorem dL_law_171 : decode cL_law 171 = .ok (.iload 13, 2) := by decide +kernel
theorem dL_law_173 : decode cL_law 173 = .ok (.aload_n 0, 1) := by decide +kernel
theorem dL_law_174 : decode cL_law 174 = .ok (.iload 11, 2) := by decide +kernel
theorem dL_law_176 : decode cL_law 176 = .ok (.iconst 4, 1) := by decide +kernel
theorem dL_law_177 : decode cL_law 177 = .ok (.invokestatic 104, 3) := by decide +kernel
theorem dL_law_180 : decode cL_law 180 = .ok (.iastore, 1) := by decide +kernel
theorem dL_law_181 : decode cL_law 181 = .ok (.iload 10, 2) := by decide +kernel
theorem dL_law_183 : decode cL_law 183 = .ok (.aload_n 1, 1) := by decide +kernel
theorem dL_law_184 : decode cL_law 184 = .ok (.iload 12, 2) := by decide +kernel
theorem dL_law_186 : decode cL_law 186 = .ok (.aload_n 2, 1) := by decide +kernel
theorem dL_law_187 : decode cL_law 187 = .ok (.iload 12, 2) := by decide +kernel
theorem dL_law_189 : decode cL_law 189 = .ok (.aaload, 1) := by decide +kernel
theorem dL_law_190 : decode cL_law 190 = .ok (.iload 13, 2) := by decide +kernel
theorem dL_law_192 : decode cL_law 192 = .ok (.iaload, 1) := by decide +kernel
theorem dL_law_193 : decode cL_law 193 = .ok (.invokestatic 111, 3) := by decide +kernel
theorem dL_law_196 : decode cL_law 196 = .ok (.iload 13, 2) := by decide +kernel
theorem dL_law_198 : decode cL_law 198 = .ok (.iconst 1, 1) := by decide +kernel
theorem dL_law_199 : decode cL_law 199 = .ok (.iadd, 1) := by decide +kernel
theorem dL_law_200 : decode cL_law 200 = .ok (.if_icmp .ne 7, 3) := by decide +kernel
theorem dL_law_203 : decode cL_law 203 = .ok (.iconst 1, 1) := by decide +kernel
theorem dL_law_204 : decode cL_law 204 = .ok (.goto 4, 3) := by decide +kernel
theorem dL_law_207 : decode cL_law 207 = .ok (.iconst 0, 1) := by decide +kernel
theorem dL_law_208 : decode cL_law 208 = .ok (.iand, 1) := by decide +kernel
theorem dL_law_209 : decode cL_law 209 = .ok (.istore 10, 2) := by decide +kernel
theorem dL_law_211 : decode cL_law 211 = .ok (.aload_n 3, 1) := by decide +kernel
theorem dL_law_212 : decode cL_law 212 = .ok (.iload 12, 2) := by decide +kernel
theorem dL_law_214 : decode cL_law 214 = .ok (.dup2, 1) := by decide +kernel
theorem dL_law_215 : decode cL_law 215 = .ok (.iaload, 1) := by decide +kernel
theorem dL_law_216 : decode cL_law 216 = .ok (.iconst 1, 1) := by decide +kernel
theorem dL_law_217 : decode cL_law 217 = .ok (.iadd, 1) := by decide +kernel
theorem dL_law_218 : decode cL_law 218 = .ok (.iastore, 1) := by decide +kernel
theorem dL_law_219 : decode cL_law 219 = .ok (.iinc 11 1, 3) := by decide +kernel
theorem dL_law_222 : decode cL_law 222 = .ok (.iinc 13 1, 3) := by decide +kernel
theorem dL_law_225 : decode cL_law 225 = .ok (.goto (-71), 3) := by decide +kernel
theorem dL_law_228 : decode cL_law 228 = .ok (.iinc 12 1, 3) := by decide +kernel
theorem dL_law_231 : decode cL_law 231 = .ok (.goto (-151), 3) := by decide +kernel
theorem dL_law_234 : decode cL_law 234 = .ok (.iconst 0, 1) := by decide +kernel
theorem dL_law_235 : decode cL_law 235 = .ok (.istore 12, 2) := by decide +kernel
theorem dL_law_237 : decode cL_law 237 = .ok (.iload 12, 2) := by decide +kernel
theorem dL_law_239 : decode cL_law 239 = .ok (.bipush 100, 2) := by decide +kernel
theorem dL_law_241 : decode cL_law 241 = .ok (.if_icmp .ge 652, 3) := by decide +kernel
theorem dL_law_244 : decode cL_law 244 = .ok (.iload 10, 2) := by decide +kernel
theorem dL_law_246 : decode cL_law 246 = .ok (.ifCond .eq 647, 3) := by decide +kernel
theorem dL_law_249 : decode cL_law 249 = .ok (.aload_n 1, 1) := by decide +kernel
theorem dL_law_250 : decode cL_law 250 = .ok (.invokestatic 114, 3) := by decide +kernel
theorem dL_law_253 : decode cL_law 253 = .ok (.lstore 13, 2) := by decide +kernel
theorem dL_law_255 : decode cL_law 255 = .ok (.aload_n 0, 1) := by decide +kernel
theorem dL_law_256 : decode cL_law 256 = .ok (.iload 11, 2) := by decide +kernel
theorem dL_law_258 : decode cL_law 258 = .ok (.bipush 24, 2) := by decide +kernel
theorem dL_law_260 : decode cL_law 260 = .ok (.invokestatic 104, 3) := by decide +kernel
theorem dL_law_263 : decode cL_law 263 = .ok (.istore 15, 2) := by decide +kernel
theorem dL_law_265 : decode cL_law 265 = .ok (.aload_n 0, 1) := by decide +kernel
theorem dL_law_266 : decode cL_law 266 = .ok (.iload 11, 2) := by decide +kernel
theorem dL_law_268 : decode cL_law 268 = .ok (.iconst 1, 1) := by decide +kernel
theorem dL_law_269 : decode cL_law 269 = .ok (.iadd, 1) := by decide +kernel
theorem dL_law_270 : decode cL_law 270 = .ok (.bipush 40, 2) := by decide +kernel
theorem dL_law_272 : decode cL_law 272 = .ok (.invokestatic 104, 3) := by decide +kernel
theorem dL_law_275 : decode cL_law 275 = .ok (.ifCond .ne 7, 3) := by decide +kernel
theorem dL_law_278 : decode cL_law 278 = .ok (.iconst 4, 1) := by decide +kernel
theorem dL_law_279 : decode cL_law 279 = .ok (.goto 12, 3) := by decide +kernel
theorem dL_law_282 : decode cL_law 282 = .ok (.aload_n 0, 1) := by decide +kernel
theorem dL_law_283 : decode cL_law 283 = .ok (.iload 11, 2) := by decide +kernel
theorem dL_law_285 : decode cL_law 285 = .ok (.iconst 1, 1) := by decide +kernel
theorem dL_law_286 : decode cL_law 286 = .ok (.iadd, 1) := by decide +kernel
theorem dL_law_287 : decode cL_law 287 = .ok (.iconst 4, 1) := by decide +kernel
theorem dL_law_288 : decode cL_law 288 = .ok (.invokestatic 104, 3) := by decide +kernel
theorem dL_law_291 : decode cL_law 291 = .ok (.istore 16, 2) := by decide +kernel
theorem dL_law_293 : decode cL_law 293 = .ok (.aload_n 0, 1) := by decide +kernel
theorem dL_law_294 : decode cL_law 294 = .ok (.iload 11, 2) := by decide +kernel
theorem dL_law_296 : decode cL_law 296 = .ok (.iconst 2, 1) := by decide +kernel
theorem dL_law_297 : decode cL_law 297 = .ok (.iadd, 1) := by decide +kernel
theorem dL_law_298 : decode cL_law 298 = .ok (.bipush 40, 2) := by decide +kernel
theorem dL_law_300 : decode cL_law 300 = .ok (.invokestatic 104, 3) := by decide +kernel
theorem dL_law_303 : decode cL_law 303 = .ok (.ifCond .ne 7, 3) := by decide +kernel
theorem dL_law_306 : decode cL_law 306 = .ok (.iconst 3, 1) := by decide +kernel
theorem dL_law_307 : decode cL_law 307 = .ok (.goto 12, 3) := by decide +kernel
theorem dL_law_310 : decode cL_law 310 = .ok (.aload_n 0, 1) := by decide +kernel
theorem dL_law_311 : decode cL_law 311 = .ok (.iload 11, 2) := by decide +kernel
theorem dL_law_313 : decode cL_law 313 = .ok (.iconst 2, 1) := by decide +kernel
theorem dL_law_314 : decode cL_law 314 = .ok (.iadd, 1) := by decide +kernel
theorem dL_law_315 : decode cL_law 315 = .ok (.iconst 3, 1) := by decide +kernel
theorem dL_law_316 : decode cL_law 316 = .ok (.invokestatic 104, 3) := by decide +kernel
theorem dL_law_319 : decode cL_law 319 = .ok (.istore 17, 2) := by decide +kernel
theorem dL_law_321 : decode cL_law 321 = .ok (.aload_n 0, 1) := by decide +kernel
theorem dL_law_322 : decode cL_law 322 = .ok (.iload 11, 2) := by decide +kernel
theorem dL_law_324 : decode cL_law 324 = .ok (.iconst 3, 1) := by decide +kernel
theorem dL_law_325 : decode cL_law 325 = .ok (.iadd, 1) := by decide +kernel
theorem dL_law_326 : decode cL_law 326 = .ok (.sipush 1000, 3) := by decide +kernel
theorem dL_law_329 : decode cL_law 329 = .ok (.invokestatic 104, 3) := by decide +kernel
theorem dL_law_332 : decode cL_law 332 = .ok (.istore 18, 2) := by decide +kernel
theorem dL_law_334 : decode cL_law 334 = .ok (.iconst 0, 1) := by decide +kernel
theorem dL_law_335 : decode cL_law 335 = .ok (.istore 19, 2) := by decide +kernel
theorem dL_law_337 : decode cL_law 337 = .ok (.iload 15, 2) := by decide +kernel
theorem dL_law_339 : decode cL_law 339 = .ok (.iconst 5, 1) := by decide +kernel
theorem dL_law_340 : decode cL_law 340 = .ok (.if_icmp .ge 14, 3) := by decide +kernel
theorem dL_law_343 : decode cL_law 343 = .ok (.aload_n 1, 1) := by decide +kernel
theorem dL_law_344 : decode cL_law 344 = .ok (.iload 16, 2) := by decide +kernel
theorem dL_law_346 : decode cL_law 346 = .ok (.invokestatic 118, 3) := by decide +kernel
theorem dL_law_349 : decode cL_law 349 = .ok (.istore 19, 2) := by decide +kernel
theorem dL_law_351 : decode cL_law 351 = .ok (.goto 473, 3) := by decide +kernel
theorem dL_law_354 : decode cL_law 354 = .ok (.iload 15, 2) := by decide +kernel
theorem dL_law_356 : decode cL_law 356 = .ok (.bipush 7, 2) := by decide +kernel
theorem dL_law_358 : decode cL_law 358 = .ok (.if_icmp .ge 76, 3) := by decide +kernel
theorem dL_law_361 : decode cL_law 361 = .ok (.aload_n 1, 1) := by decide +kernel
theorem dL_law_362 : decode cL_law 362 = .ok (.invokevirtual 121, 3) := by decide +kernel
theorem dL_law_365 : decode cL_law 365 = .ok (.lstore 20, 2) := by decide +kernel
theorem dL_law_367 : decode cL_law 367 = .ok (.aload_n 1, 1) := by decide +kernel
theorem dL_law_368 : decode cL_law 368 = .ok (.iload 16, 2) := by decide +kernel
theorem dL_law_370 : decode cL_law 370 = .ok (.invokestatic 125, 3) := by decide +kernel
theorem dL_law_373 : decode cL_law 373 = .ok (.istore 22, 2) := by decide +kernel
theorem dL_law_375 : decode cL_law 375 = .ok (.aload_n 1, 1) := by decide +kernel
theorem dL_law_376 : decode cL_law 376 = .ok (.iload 16, 2) := by decide +kernel
theorem dL_law_378 : decode cL_law 378 = .ok (.invokestatic 127, 3) := by decide +kernel
theorem dL_law_381 : decode cL_law 381 = .ok (.istore 19, 2) := by decide +kernel
theorem dL_law_383 : decode cL_law 383 = .ok (.iload 19, 2) := by decide +kernel
theorem dL_law_385 : decode cL_law 385 = .ok (.ifCond .lt 39, 3) := by decide +kernel
theorem dL_law_388 : decode cL_law 388 = .ok (.aload_n 1, 1) := by decide +kernel
theorem dL_law_389 : decode cL_law 389 = .ok (.iload 16, 2) := by decide +kernel
theorem dL_law_391 : decode cL_law 391 = .ok (.invokestatic 125, 3) := by decide +kernel
theorem dL_law_394 : decode cL_law 394 = .ok (.iload 22, 2) := by decide +kernel
theorem dL_law_396 : decode cL_law 396 = .ok (.iconst 1, 1) := by decide +kernel
theorem dL_law_397 : decode cL_law 397 = .ok (.iadd, 1) := by decide +kernel
theorem dL_law_398 : decode cL_law 398 = .ok (.if_icmp .ne 30, 3) := by decide +kernel
theorem dL_law_401 : decode cL_law 401 = .ok (.aload_n 1, 1) := by decide +kernel
theorem dL_law_402 : decode cL_law 402 = .ok (.invokevirtual 121, 3) := by decide +kernel
theorem dL_law_405 : decode cL_law 405 = .ok (.lload 20, 2) := by decide +kernel
theorem dL_law_407 : decode cL_law 407 = .ok (.iload 19, 2) := by decide +kernel
theorem dL_law_409 : decode cL_law 409 = .ok (.i2l, 1) := by decide +kernel
theorem dL_law_410 : decode cL_law 410 = .ok (.ladd, 1) := by decide +kernel
theorem dL_law_411 : decode cL_law 411 = .ok (.lcmp, 1) := by decide +kernel
theorem dL_law_412 : decode cL_law 412 = .ok (.ifCond .ne 16, 3) := by decide +kernel
theorem dL_law_415 : decode cL_law 415 = .ok (.aload_n 1, 1) := by decide +kernel
theorem dL_law_416 : decode cL_law 416 = .ok (.iload 16, 2) := by decide +kernel
theorem dL_law_418 : decode cL_law 418 = .ok (.invokestatic 118, 3) := by decide +kernel
theorem dL_law_421 : decode cL_law 421 = .ok (.ifCond .ne 7, 3) := by decide +kernel
theorem dL_law_424 : decode cL_law 424 = .ok (.iconst 1, 1) := by decide +kernel
theorem dL_law_425 : decode cL_law 425 = .ok (.goto 4, 3) := by decide +kernel
theorem dL_law_428 : decode cL_law 428 = .ok (.iconst 0, 1) := by decide +kernel
theorem dL_law_429 : decode cL_law 429 = .ok (.istore 10, 2) := by decide +kernel
theorem dL_law_431 : decode cL_law 431 = .ok (.goto 393, 3) := by decide +kernel
theorem dL_law_434 : decode cL_law 434 = .ok (.iload 15, 2) := by decide +kernel
theorem dL_law_436 : decode cL_law 436 = .ok (.bipush 7, 2) := by decide +kernel
theorem dL_law_438 : decode cL_law 438 = .ok (.if_icmp .ne 80, 3) := by decide +kernel
theorem dL_law_441 : decode cL_law 441 = .ok (.iload 18, 2) := by decide +kernel
theorem dL_law_443 : decode cL_law 443 = .ok (.iconst 4, 1) := by decide +kernel
theorem dL_law_444 : decode cL_law 444 = .ok (.irem, 1) := by decide +kernel
theorem dL_law_445 : decode cL_law 445 = .ok (.ifCond .le 7, 3) := by decide +kernel
theorem dL_law_448 : decode cL_law 448 = .ok (.iconst 0, 1) := by decide +kernel
theorem dL_law_449 : decode cL_law 449 = .ok (.goto 11, 3) := by decide +kernel
theorem dL_law_452 : decode cL_law 452 = .ok (.aload_n 1, 1) := by decide +kernel
theorem dL_law_453 : decode cL_law 453 = .ok (.iload 17, 2) := by decide +kernel
theorem dL_law_455 : decode cL_law 455 = .ok (.iload 16, 2) := by decide +kernel
theorem dL_law_457 : decode cL_law 457 = .ok (.invokestatic 111, 3) := by decide +kernel
theorem dL_law_460 : decode cL_law 460 = .ok (.istore 19, 2) := by decide +kernel
theorem dL_law_462 : decode cL_law 462 = .ok (.iload 19, 2) := by decide +kernel
theorem dL_law_464 : decode cL_law 464 = .ok (.ifCond .le 360, 3) := by decide +kernel
theorem dL_law_467 : decode cL_law 467 = .ok (.aload_n 2, 1) := by decide +kernel
theorem dL_law_468 : decode cL_law 468 = .ok (.iload 17, 2) := by decide +kernel
theorem dL_law_470 : decode cL_law 470 = .ok (.aaload, 1) := by decide +kernel
theorem dL_law_471 : decode cL_law 471 = .ok (.iload 19, 2) := by decide +kernel
theorem dL_law_473 : decode cL_law 473 = .ok (.iconst 1, 1) := by decide +kernel
theorem dL_law_474 : decode cL_law 474 = .ok (.isub, 1) := by decide +kernel
theorem dL_law_475 : decode cL_law 475 = .ok (.iload 16, 2) := by decide +kernel
theorem dL_law_477 : decode cL_law 477 = .ok (.iastore, 1) := by decide +kernel
theorem dL_law_478 : decode cL_law 478 = .ok (.iload 19, 2) := by decide +kernel
theorem dL_law_480 : decode cL_law 480 = .ok (.aload_n 3, 1) := by decide +kernel
theorem dL_law_481 : decode cL_law 481 = .ok (.iload 17, 2) := by decide +kernel
theorem dL_law_483 : decode cL_law 483 = .ok (.iaload, 1) := by decide +kernel
theorem dL_law_484 : decode cL_law 484 = .ok (.iconst 1, 1) := by decide +kernel
theorem dL_law_485 : decode cL_law 485 = .ok (.iadd, 1) := by decide +kernel
theorem dL_law_486 : decode cL_law 486 = .ok (.if_icmp .ne 18, 3) := by decide +kernel
theorem dL_law_489 : decode cL_law 489 = .ok (.aload_n 1, 1) := by decide +kernel
theorem dL_law_490 : decode cL_law 490 = .ok (.iload 17, 2) := by decide +kernel
theorem dL_law_492 : decode cL_law 492 = .ok (.invokestatic 129, 3) := by decide +kernel
theorem dL_law_495 : decode cL_law 495 = .ok (.iload 19, 2) := by decide +kernel
theorem dL_law_497 : decode cL_law 497 = .ok (.if_icmp .ne 7, 3) := by decide +kernel
theorem dL_law_500 : decode cL_law 500 = .ok (.iconst 1, 1) := by decide +kernel
theorem dL_law_501 : decode cL_law 501 = .ok (.goto 4, 3) := by decide +kernel
theorem dL_law_504 : decode cL_law 504 = .ok (.iconst 0, 1) := by decide +kernel
theorem dL_law_505 : decode cL_law 505 = .ok (.istore 10, 2) := by decide +kernel
theorem dL_law_507 : decode cL_law 507 = .ok (.aload_n 3, 1) := by decide +kernel
theorem dL_law_508 : decode cL_law 508 = .ok (.iload 17, 2) := by decide +kernel
theorem dL_law_510 : decode cL_law 510 = .ok (.dup2, 1) := by decide +kernel
theorem dL_law_511 : decode cL_law 511 = .ok (.iaload, 1) := by decide +kernel
theorem dL_law_512 : decode cL_law 512 = .ok (.iconst 1, 1) := by decide +kernel
theorem dL_law_513 : decode cL_law 513 = .ok (.iadd, 1) := by decide +kernel
theorem dL_law_514 : decode cL_law 514 = .ok (.iastore, 1) := by decide +kernel
theorem dL_law_515 : decode cL_law 515 = .ok (.goto 309, 3) := by decide +kernel
theorem dL_law_518 : decode cL_law 518 = .ok (.iload 15, 2) := by decide +kernel
theorem dL_law_520 : decode cL_law 520 = .ok (.bipush 17, 2) := by decide +kernel
theorem dL_law_522 : decode cL_law 522 = .ok (.if_icmp .ge 176, 3) := by decide +kernel
theorem dL_law_525 : decode cL_law 525 = .ok (.iload 18, 2) := by decide +kernel
theorem dL_law_527 : decode cL_law 527 = .ok (.iconst 5, 1) := by decide +kernel
theorem dL_law_528 : decode cL_law 528 = .ok (.irem, 1) := by decide +kernel
theorem dL_law_529 : decode cL_law 529 = .ok (.istore 20, 2) := by decide +kernel
theorem dL_law_531 : decode cL_law 531 = .ok (.iload 18, 2) := by decide +kernel
theorem dL_law_533 : decode cL_law 533 = .ok (.bipush 31, 2) := by decide +kernel
theorem dL_law_535 : decode cL_law 535 = .ok (.irem, 1) := by decide +kernel
theorem dL_law_536 : decode cL_law 536 = .ok (.ifCond .ne 7, 3) := by decide +kernel
theorem dL_law_539 : decode cL_law 539 = .ok (.iconst 0, 1) := by decide +kernel
theorem dL_law_540 : decode cL_law 540 = .ok (.goto 10, 3) := by decide +kernel
theorem dL_law_543 : decode cL_law 543 = .ok (.iconst 1, 1) := by decide +kernel
theorem dL_law_544 : decode cL_law 544 = .ok (.iload 18, 2) := by decide +kernel
theorem dL_law_546 : decode cL_law 546 = .ok (.bipush 20, 2) := by decide +kernel
theorem dL_law_548 : decode cL_law 548 = .ok (.irem, 1) := by decide +kernel
theorem dL_law_549 : decode cL_law 549 = .ok (.iadd, 1) := by decide +kernel
theorem dL_law_550 : decode cL_law 550 = .ok (.istore 21, 2) := by decide +kernel
theorem dL_law_552 : decode cL_law 552 = .ok (.aload_n 1, 1) := by decide +kernel
theorem dL_law_553 : decode cL_law 553 = .ok (.iload 17, 2) := by decide +kernel
theorem dL_law_555 : decode cL_law 555 = .ok (.iload 20, 2) := by decide +kernel
theorem dL_law_557 : decode cL_law 557 = .ok (.invokestatic 131, 3) := by decide +kernel
theorem dL_law_560 : decode cL_law 560 = .ok (.istore 22, 2) := by decide +kernel
theorem dL_law_562 : decode cL_law 562 = .ok (.aload_n 1, 1) := by decide +kernel
theorem dL_law_563 : decode cL_law 563 = .ok (.iload 17, 2) := by decide +kernel
theorem dL_law_565 : decode cL_law 565 = .ok (.iload 20, 2) := by decide +kernel
theorem dL_law_567 : decode cL_law 567 = .ok (.invokestatic 133, 3) := by decide +kernel
theorem dL_law_570 : decode cL_law 570 = .ok (.istore 23, 2) := by decide +kernel
theorem dL_law_572 : decode cL_law 572 = .ok (.aload_n 1, 1) := by decide +kernel
theorem dL_law_573 : decode cL_law 573 = .ok (.invokevirtual 135, 3) := by decide +kernel
theorem dL_law_576 : decode cL_law 576 = .ok (.istore 24, 2) := by decide +kernel
theorem dL_law_578 : decode cL_law 578 = .ok (.aload_n 1, 1) := by decide +kernel
theorem dL_law_579 : decode cL_law 579 = .ok (.iload 17, 2) := by decide +kernel
theorem dL_law_581 : decode cL_law 581 = .ok (.invokestatic 138, 3) := by decide +kernel
theorem dL_law_584 : decode cL_law 584 = .ok (.istore 25, 2) := by decide +kernel
theorem dL_law_586 : decode cL_law 586 = .ok (.aload_n 1, 1) := by decide +kernel
theorem dL_law_587 : decode cL_law 587 = .ok (.iload 17, 2) := by decide +kernel
theorem dL_law_589 : decode cL_law 589 = .ok (.iload 20, 2) := by decide +kernel
theorem dL_law_591 : decode cL_law 591 = .ok (.iload 21, 2) := by decide +kernel
theorem dL_law_593 : decode cL_law 593 = .ok (.invokestatic 140, 3) := by decide +kernel
theorem dL_law_596 : decode cL_law 596 = .ok (.istore 19, 2) := by decide +kernel
theorem dL_law_598 : decode cL_law 598 = .ok (.aload_n 1, 1) := by decide +kernel
theorem dL_law_599 : decode cL_law 599 = .ok (.invokevirtual 135, 3) := by decide +kernel
theorem dL_law_602 : decode cL_law 602 = .ok (.iload 24, 2) := by decide +kernel
theorem dL_law_604 : decode cL_law 604 = .ok (.isub, 1) := by decide +kernel
theorem dL_law_605 : decode cL_law 605 = .ok (.istore 26, 2) := by decide +kernel
theorem dL_law_607 : decode cL_law 607 = .ok (.iload 19, 2) := by decide +kernel
theorem dL_law_609 : decode cL_law 609 = .ok (.ifCond .lt 62, 3) := by decide +kernel
theorem dL_law_612 : decode cL_law 612 = .ok (.iload 19, 2) := by decide +kernel
theorem dL_law_614 : decode cL_law 614 = .ok (.iload 22, 2) := by decide +kernel
theorem dL_law_616 : decode cL_law 616 = .ok (.if_icmp .ne 59, 3) := by decide +kernel
theorem dL_law_619 : decode cL_law 619 = .ok (.aload_n 1, 1) := by decide +kernel
theorem dL_law_620 : decode cL_law 620 = .ok (.iload 17, 2) := by decide +kernel
theorem dL_law_622 : decode cL_law 622 = .ok (.iload 20, 2) := by decide +kernel
theorem dL_law_624 : decode cL_law 624 = .ok (.invokestatic 133, 3) := by decide +kernel
theorem dL_law_627 : decode cL_law 627 = .ok (.iload 23, 2) := by decide +kernel
theorem dL_law_629 : decode cL_law 629 = .ok (.iload 21, 2) := by decide +kernel
theorem dL_law_631 : decode cL_law 631 = .ok (.iadd, 1) := by decide +kernel
theorem dL_law_632 : decode cL_law 632 = .ok (.if_icmp .ne 43, 3) := by decide +kernel
theorem dL_law_635 : decode cL_law 635 = .ok (.aload_n 1, 1) := by decide +kernel
theorem dL_law_636 : decode cL_law 636 = .ok (.iload 17, 2) := by decide +kernel
theorem dL_law_638 : decode cL_law 638 = .ok (.iload 20, 2) := by decide +kernel
theorem dL_law_640 : decode cL_law 640 = .ok (.invokestatic 131, 3) := by decide +kernel
theorem dL_law_643 : decode cL_law 643 = .ok (.ifCond .ne 32, 3) := by decide +kernel
theorem dL_law_646 : decode cL_law 646 = .ok (.iload 26, 2) := by decide +kernel
theorem dL_law_648 : decode cL_law 648 = .ok (.ifCond .lt 27, 3) := by decide +kernel
theorem dL_law_651 : decode cL_law 651 = .ok (.iload 26, 2) := by decide +kernel
theorem dL_law_653 : decode cL_law 653 = .ok (.iconst 2, 1) := by decide +kernel
theorem dL_law_654 : decode cL_law 654 = .ok (.if_icmp .gt 21, 3) := by decide +kernel
theorem dL_law_657 : decode cL_law 657 = .ok (.aload_n 1, 1) := by decide +kernel
theorem dL_law_658 : decode cL_law 658 = .ok (.iload 17, 2) := by decide +kernel
theorem dL_law_660 : decode cL_law 660 = .ok (.invokestatic 138, 3) := by decide +kernel
theorem dL_law_663 : decode cL_law 663 = .ok (.iload 25, 2) := by decide +kernel
theorem dL_law_665 : decode cL_law 665 = .ok (.iload 26, 2) := by decide +kernel
theorem dL_law_667 : decode cL_law 667 = .ok (.isub, 1) := by decide +kernel
theorem dL_law_668 : decode cL_law 668 = .ok (.if_icmp .ne 7, 3) := by decide +kernel
theorem dL_law_671 : decode cL_law 671 = .ok (.iconst 1, 1) := by decide +kernel
theorem dL_law_672 : decode cL_law 672 = .ok (.goto 4, 3) := by decide +kernel
theorem dL_law_675 : decode cL_law 675 = .ok (.iconst 0, 1) := by decide +kernel
theorem dL_law_676 : decode cL_law 676 = .ok (.istore 10, 2) := by decide +kernel
theorem dL_law_678 : decode cL_law 678 = .ok (.lload 6, 2) := by decide +kernel
theorem dL_law_680 : decode cL_law 680 = .ok (.iload 19, 2) := by decide +kernel
theorem dL_law_682 : decode cL_law 682 = .ok (.ifCond .ge 7, 3) := by decide +kernel
theorem dL_law_685 : decode cL_law 685 = .ok (.lconst 0, 1) := by decide +kernel
theorem dL_law_686 : decode cL_law 686 = .ok (.goto 6, 3) := by decide +kernel
theorem dL_law_689 : decode cL_law 689 = .ok (.iload 21, 2) := by decide +kernel
theorem dL_law_691 : decode cL_law 691 = .ok (.i2l, 1) := by decide +kernel
theorem dL_law_692 : decode cL_law 692 = .ok (.ladd, 1) := by decide +kernel
theorem dL_law_693 : decode cL_law 693 = .ok (.lstore 6, 2) := by decide +kernel
theorem dL_law_695 : decode cL_law 695 = .ok (.goto 129, 3) := by decide +kernel
theorem dL_law_698 : decode cL_law 698 = .ok (.iload 18, 2) := by decide +kernel
theorem dL_law_700 : decode cL_law 700 = .ok (.bipush 37, 2) := by decide +kernel
theorem dL_law_702 : decode cL_law 702 = .ok (.irem, 1) := by decide +kernel
theorem dL_law_703 : decode cL_law 703 = .ok (.ifCond .ne 7, 3) := by decide +kernel
theorem dL_law_706 : decode cL_law 706 = .ok (.iconst 0, 1) := by decide +kernel
theorem dL_law_707 : decode cL_law 707 = .ok (.goto 10, 3) := by decide +kernel
theorem dL_law_710 : decode cL_law 710 = .ok (.iconst 1, 1) := by decide +kernel
theorem dL_law_711 : decode cL_law 711 = .ok (.iload 18, 2) := by decide +kernel
theorem dL_law_713 : decode cL_law 713 = .ok (.bipush 8, 2) := by decide +kernel
theorem dL_law_715 : decode cL_law 715 = .ok (.irem, 1) := by decide +kernel
theorem dL_law_716 : decode cL_law 716 = .ok (.iadd, 1) := by decide +kernel
theorem dL_law_717 : decode cL_law 717 = .ok (.istore 20, 2) := by decide +kernel
theorem dL_law_719 : decode cL_law 719 = .ok (.aload_n 1, 1) := by decide +kernel
theorem dL_law_720 : decode cL_law 720 = .ok (.iload 17, 2) := by decide +kernel
theorem dL_law_722 : decode cL_law 722 = .ok (.iload 20, 2) := by decide +kernel
theorem dL_law_724 : decode cL_law 724 = .ok (.invokestatic 143, 3) := by decide +kernel
theorem dL_law_727 : decode cL_law 727 = .ok (.istore 21, 2) := by decide +kernel
theorem dL_law_729 : decode cL_law 729 = .ok (.aload_n 1, 1) := by decide +kernel
theorem dL_law_730 : decode cL_law 730 = .ok (.iload 17, 2) := by decide +kernel
theorem dL_law_732 : decode cL_law 732 = .ok (.iload 20, 2) := by decide +kernel
theorem dL_law_734 : decode cL_law 734 = .ok (.invokestatic 145, 3) := by decide +kernel
theorem dL_law_737 : decode cL_law 737 = .ok (.istore 19, 2) := by decide +kernel
theorem dL_law_739 : decode cL_law 739 = .ok (.iload 19, 2) := by decide +kernel
theorem dL_law_741 : decode cL_law 741 = .ok (.ifCond .lt 7, 3) := by decide +kernel
theorem dL_law_744 : decode cL_law 744 = .ok (.iconst 1, 1) := by decide +kernel
theorem dL_law_745 : decode cL_law 745 = .ok (.goto 4, 3) := by decide +kernel
theorem dL_law_748 : decode cL_law 748 = .ok (.iconst 0, 1) := by decide +kernel
theorem dL_law_749 : decode cL_law 749 = .ok (.iload 21, 2) := by decide +kernel
theorem dL_law_751 : decode cL_law 751 = .ok (.ifCond .ne 7, 3) := by decide +kernel
theorem dL_law_754 : decode cL_law 754 = .ok (.iconst 1, 1) := by decide +kernel
theorem dL_law_755 : decode cL_law 755 = .ok (.goto 4, 3) := by decide +kernel
theorem dL_law_758 : decode cL_law 758 = .ok (.iconst 0, 1) := by decide +kernel
theorem dL_law_759 : decode cL_law 759 = .ok (.if_icmp .ne 34, 3) := by decide +kernel
theorem dL_law_762 : decode cL_law 762 = .ok (.iload 19, 2) := by decide +kernel
theorem dL_law_764 : decode cL_law 764 = .ok (.ifCond .lt 25, 3) := by decide +kernel
theorem dL_law_767 : decode cL_law 767 = .ok (.iload 19, 2) := by decide +kernel
theorem dL_law_769 : decode cL_law 769 = .ok (.aload_n 1, 1) := by decide +kernel
theorem dL_law_770 : decode cL_law 770 = .ok (.invokevirtual 147, 3) := by decide +kernel
theorem dL_law_773 : decode cL_law 773 = .ok (.iconst 1, 1) := by decide +kernel
theorem dL_law_774 : decode cL_law 774 = .ok (.isub, 1) := by decide +kernel
theorem dL_law_775 : decode cL_law 775 = .ok (.if_icmp .ne 18, 3) := by decide +kernel
theorem dL_law_778 : decode cL_law 778 = .ok (.aload_n 1, 1) := by decide +kernel
theorem dL_law_779 : decode cL_law 779 = .ok (.iload 19, 2) := by decide +kernel
theorem dL_law_781 : decode cL_law 781 = .ok (.invokestatic 150, 3) := by decide +kernel
theorem dL_law_784 : decode cL_law 784 = .ok (.iload 20, 2) := by decide +kernel
theorem dL_law_786 : decode cL_law 786 = .ok (.if_icmp .ne 7, 3) := by decide +kernel
theorem dL_law_789 : decode cL_law 789 = .ok (.iconst 1, 1) := by decide +kernel
theorem dL_law_790 : decode cL_law 790 = .ok (.goto 4, 3) := by decide +kernel
theorem dL_law_793 : decode cL_law 793 = .ok (.iconst 0, 1) := by decide +kernel
theorem dL_law_794 : decode cL_law 794 = .ok (.istore 10, 2) := by decide +kernel
theorem dL_law_796 : decode cL_law 796 = .ok (.iload 19, 2) := by decide +kernel
theorem dL_law_798 : decode cL_law 798 = .ok (.ifCond .lt 26, 3) := by decide +kernel
theorem dL_law_801 : decode cL_law 801 = .ok (.aload 5, 2) := by decide +kernel
theorem dL_law_803 : decode cL_law 803 = .ok (.iload 19, 2) := by decide +kernel
theorem dL_law_805 : decode cL_law 805 = .ok (.iload 17, 2) := by decide +kernel
theorem dL_law_807 : decode cL_law 807 = .ok (.iastore, 1) := by decide +kernel
theorem dL_law_808 : decode cL_law 808 = .ok (.lload 8, 2) := by decide +kernel
theorem dL_law_810 : decode cL_law 810 = .ok (.iload 20, 2) := by decide +kernel
theorem dL_law_812 : decode cL_law 812 = .ok (.i2l, 1) := by decide +kernel
theorem dL_law_813 : decode cL_law 813 = .ok (.aload_n 1, 1) := by decide +kernel
theorem dL_law_814 : decode cL_law 814 = .ok (.iload 17, 2) := by decide +kernel
theorem dL_law_816 : decode cL_law 816 = .ok (.invokestatic 152, 3) := by decide +kernel
theorem dL_law_819 : decode cL_law 819 = .ok (.i2l, 1) := by decide +kernel
theorem dL_law_820 : decode cL_law 820 = .ok (.lmul, 1) := by decide +kernel
theorem dL_law_821 : decode cL_law 821 = .ok (.ladd, 1) := by decide +kernel
theorem dL_law_822 : decode cL_law 822 = .ok (.lstore 8, 2) := by decide +kernel
theorem dL_law_824 : decode cL_law 824 = .ok (.iinc 11 4, 3) := by decide +kernel
theorem dL_law_827 : decode cL_law 827 = .ok (.iload 10, 2) := by decide +kernel
theorem dL_law_829 : decode cL_law 829 = .ok (.iload 19, 2) := by decide +kernel
theorem dL_law_831 : decode cL_law 831 = .ok (.ifCond .ge 13, 3) := by decide +kernel
theorem dL_law_834 : decode cL_law 834 = .ok (.aload_n 1, 1) := by decide +kernel
theorem dL_law_835 : decode cL_law 835 = .ok (.invokestatic 114, 3) := by decide +kernel
theorem dL_law_838 : decode cL_law 838 = .ok (.lload 13, 2) := by decide +kernel
theorem dL_law_840 : decode cL_law 840 = .ok (.lcmp, 1) := by decide +kernel
theorem dL_law_841 : decode cL_law 841 = .ok (.ifCond .ne 7, 3) := by decide +kernel
theorem dL_law_844 : decode cL_law 844 = .ok (.iconst 1, 1) := by decide +kernel
theorem dL_law_845 : decode cL_law 845 = .ok (.goto 4, 3) := by decide +kernel
theorem dL_law_848 : decode cL_law 848 = .ok (.iconst 0, 1) := by decide +kernel
theorem dL_law_849 : decode cL_law 849 = .ok (.iand, 1) := by decide +kernel
theorem dL_law_850 : decode cL_law 850 = .ok (.istore 10, 2) := by decide +kernel
theorem dL_law_852 : decode cL_law 852 = .ok (.iload 10, 2) := by decide +kernel
theorem dL_law_854 : decode cL_law 854 = .ok (.aload_n 1, 1) := by decide +kernel
theorem dL_law_855 : decode cL_law 855 = .ok (.lload 6, 2) := by decide +kernel
theorem dL_law_857 : decode cL_law 857 = .ok (.lload 8, 2) := by decide +kernel
theorem dL_law_859 : decode cL_law 859 = .ok (.lsub, 1) := by decide +kernel
theorem dL_law_860 : decode cL_law 860 = .ok (.aload_n 3, 1) := by decide +kernel
theorem dL_law_861 : decode cL_law 861 = .ok (.aload 4, 2) := by decide +kernel
theorem dL_law_863 : decode cL_law 863 = .ok (.invokestatic 154, 3) := by decide +kernel
theorem dL_law_866 : decode cL_law 866 = .ok (.ifCond .eq 17, 3) := by decide +kernel
theorem dL_law_869 : decode cL_law 869 = .ok (.aload_n 1, 1) := by decide +kernel
theorem dL_law_870 : decode cL_law 870 = .ok (.aload_n 2, 1) := by decide +kernel
theorem dL_law_871 : decode cL_law 871 = .ok (.aload 5, 2) := by decide +kernel
theorem dL_law_873 : decode cL_law 873 = .ok (.invokestatic 158, 3) := by decide +kernel
theorem dL_law_876 : decode cL_law 876 = .ok (.ifCond .eq 7, 3) := by decide +kernel
theorem dL_law_879 : decode cL_law 879 = .ok (.iconst 1, 1) := by decide +kernel
theorem dL_law_880 : decode cL_law 880 = .ok (.goto 4, 3) := by decide +kernel
theorem dL_law_883 : decode cL_law 883 = .ok (.iconst 0, 1) := by decide +kernel
theorem dL_law_884 : decode cL_law 884 = .ok (.iand, 1) := by decide +kernel
theorem dL_law_885 : decode cL_law 885 = .ok (.istore 10, 2) := by decide +kernel
theorem dL_law_887 : decode cL_law 887 = .ok (.iinc 12 1, 3) := by decide +kernel
theorem dL_law_890 : decode cL_law 890 = .ok (.goto (-653), 3) := by decide +kernel
theorem dL_law_893 : decode cL_law 893 = .ok (.iload 10, 2) := by decide +kernel
theorem dL_law_895 : decode cL_law 895 = .ok (.ifCond .eq 17, 3) := by decide +kernel
theorem dL_law_898 : decode cL_law 898 = .ok (.aload_n 1, 1) := by decide +kernel
theorem dL_law_899 : decode cL_law 899 = .ok (.aload_n 3, 1) := by decide +kernel
theorem dL_law_900 : decode cL_law 900 = .ok (.aload 4, 2) := by decide +kernel
theorem dL_law_902 : decode cL_law 902 = .ok (.invokestatic 162, 3) := by decide +kernel
theorem dL_law_905 : decode cL_law 905 = .ok (.ifCond .eq 7, 3) := by decide +kernel
theorem dL_law_908 : decode cL_law 908 = .ok (.iconst 1, 1) := by decide +kernel
theorem dL_law_909 : decode cL_law 909 = .ok (.goto 4, 3) := by decide +kernel
theorem dL_law_912 : decode cL_law 912 = .ok (.iconst 0, 1) := by decide +kernel
theorem dL_law_913 : decode cL_law 913 = .ok (.ireturn, 1) := by decide +kernel
theorem dL_sum_0 : decode cL_sum 0 = .ok (.ldc2_w 166, 3) := by decide +kernel
theorem dL_sum_3 : decode cL_sum 3 = .ok (.aload_n 0, 1) := by decide +kernel
theorem dL_sum_4 : decode cL_sum 4 = .ok (.invokevirtual 135, 3) := by decide +kernel
theorem dL_sum_7 : decode cL_sum 7 = .ok (.i2l, 1) := by decide +kernel
theorem dL_sum_8 : decode cL_sum 8 = .ok (.lmul, 1) := by decide +kernel
theorem dL_sum_9 : decode cL_sum 9 = .ok (.ldc2_w 168, 3) := by decide +kernel
theorem dL_sum_12 : decode cL_sum 12 = .ok (.aload_n 0, 1) := by decide +kernel
theorem dL_sum_13 : decode cL_sum 13 = .ok (.invokevirtual 147, 3) := by decide +kernel
theorem dL_sum_16 : decode cL_sum 16 = .ok (.i2l, 1) := by decide +kernel
theorem dL_sum_17 : decode cL_sum 17 = .ok (.lmul, 1) := by decide +kernel
theorem dL_sum_18 : decode cL_sum 18 = .ok (.ladd, 1) := by decide +kernel
theorem dL_sum_19 : decode cL_sum 19 = .ok (.ldc2_w 170, 3) := by decide +kernel
theorem dL_sum_22 : decode cL_sum 22 = .ok (.aload_n 0, 1) := by decide +kernel
theorem dL_sum_23 : decode cL_sum 23 = .ok (.invokevirtual 121, 3) := by decide +kernel
theorem dL_sum_26 : decode cL_sum 26 = .ok (.lmul, 1) := by decide +kernel
theorem dL_sum_27 : decode cL_sum 27 = .ok (.ladd, 1) := by decide +kernel
theorem dL_sum_28 : decode cL_sum 28 = .ok (.lstore_n 1, 1) := by decide +kernel
theorem dL_sum_29 : decode cL_sum 29 = .ok (.iconst 0, 1) := by decide +kernel
theorem dL_sum_30 : decode cL_sum 30 = .ok (.istore_n 3, 1) := by decide +kernel
theorem dL_sum_31 : decode cL_sum 31 = .ok (.iload_n 3, 1) := by decide +kernel
theorem dL_sum_32 : decode cL_sum 32 = .ok (.iconst 4, 1) := by decide +kernel
theorem dL_sum_33 : decode cL_sum 33 = .ok (.if_icmp .ge 33, 3) := by decide +kernel
theorem dL_sum_36 : decode cL_sum 36 = .ok (.ldc2_w 166, 3) := by decide +kernel
theorem dL_sum_39 : decode cL_sum 39 = .ok (.lload_n 1, 1) := by decide +kernel
theorem dL_sum_40 : decode cL_sum 40 = .ok (.lmul, 1) := by decide +kernel
theorem dL_sum_41 : decode cL_sum 41 = .ok (.aload_n 0, 1) := by decide +kernel
theorem dL_sum_42 : decode cL_sum 42 = .ok (.iload_n 3, 1) := by decide +kernel
theorem dL_sum_43 : decode cL_sum 43 = .ok (.invokestatic 125, 3) := by decide +kernel
theorem dL_sum_46 : decode cL_sum 46 = .ok (.i2l, 1) := by decide +kernel
theorem dL_sum_47 : decode cL_sum 47 = .ok (.ladd, 1) := by decide +kernel
theorem dL_sum_48 : decode cL_sum 48 = .ok (.ldc2_w 172, 3) := by decide +kernel
theorem dL_sum_51 : decode cL_sum 51 = .ok (.aload_n 0, 1) := by decide +kernel
theorem dL_sum_52 : decode cL_sum 52 = .ok (.iload_n 3, 1) := by decide +kernel
theorem dL_sum_53 : decode cL_sum 53 = .ok (.invokestatic 174, 3) := by decide +kernel
theorem dL_sum_56 : decode cL_sum 56 = .ok (.i2l, 1) := by decide +kernel
theorem dL_sum_57 : decode cL_sum 57 = .ok (.lmul, 1) := by decide +kernel
theorem dL_sum_58 : decode cL_sum 58 = .ok (.ladd, 1) := by decide +kernel
theorem dL_sum_59 : decode cL_sum 59 = .ok (.lstore_n 1, 1) := by decide +kernel
theorem dL_sum_60 : decode cL_sum 60 = .ok (.iinc 3 1, 3) := by decide +kernel
theorem dL_sum_63 : decode cL_sum 63 = .ok (.goto (-32), 3) := by decide +kernel
theorem dL_sum_66 : decode cL_sum 66 = .ok (.iconst 0, 1) := by decide +kernel
theorem dL_sum_67 : decode cL_sum 67 = .ok (.istore_n 3, 1) := by decide +kernel
theorem dL_sum_68 : decode cL_sum 68 = .ok (.iload_n 3, 1) := by decide +kernel
theorem dL_sum_69 : decode cL_sum 69 = .ok (.iconst 3, 1) := by decide +kernel
theorem dL_sum_70 : decode cL_sum 70 = .ok (.if_icmp .ge 76, 3) := by decide +kernel
theorem dL_sum_73 : decode cL_sum 73 = .ok (.ldc2_w 166, 3) := by decide +kernel
theorem dL_sum_76 : decode cL_sum 76 = .ok (.lload_n 1, 1) := by decide +kernel
theorem dL_sum_77 : decode cL_sum 77 = .ok (.lmul, 1) := by decide +kernel
theorem dL_sum_78 : decode cL_sum 78 = .ok (.aload_n 0, 1) := by decide +kernel
theorem dL_sum_79 : decode cL_sum 79 = .ok (.iload_n 3, 1) := by decide +kernel
theorem dL_sum_80 : decode cL_sum 80 = .ok (.invokestatic 129, 3) := by decide +kernel
theorem dL_sum_83 : decode cL_sum 83 = .ok (.i2l, 1) := by decide +kernel
theorem dL_sum_84 : decode cL_sum 84 = .ok (.ladd, 1) := by decide +kernel
theorem dL_sum_85 : decode cL_sum 85 = .ok (.ldc2_w 170, 3) := by decide +kernel
theorem dL_sum_88 : decode cL_sum 88 = .ok (.aload_n 0, 1) := by decide +kernel
theorem dL_sum_89 : decode cL_sum 89 = .ok (.iload_n 3, 1) := by decide +kernel
theorem dL_sum_90 : decode cL_sum 90 = .ok (.invokestatic 138, 3) := by decide +kernel
theorem dL_sum_93 : decode cL_sum 93 = .ok (.i2l, 1) := by decide +kernel
theorem dL_sum_94 : decode cL_sum 94 = .ok (.lmul, 1) := by decide +kernel
theorem dL_sum_95 : decode cL_sum 95 = .ok (.ladd, 1) := by decide +kernel
theorem dL_sum_96 : decode cL_sum 96 = .ok (.lstore_n 1, 1) := by decide +kernel
theorem dL_sum_97 : decode cL_sum 97 = .ok (.iconst 0, 1) := by decide +kernel
theorem dL_sum_98 : decode cL_sum 98 = .ok (.istore 4, 2) := by decide +kernel
theorem dL_sum_100 : decode cL_sum 100 = .ok (.iload 4, 2) := by decide +kernel
theorem dL_sum_102 : decode cL_sum 102 = .ok (.iconst 4, 1) := by decide +kernel
theorem dL_sum_103 : decode cL_sum 103 = .ok (.if_icmp .ge 37, 3) := by decide +kernel
theorem dL_sum_106 : decode cL_sum 106 = .ok (.ldc2_w 166, 3) := by decide +kernel
theorem dL_sum_109 : decode cL_sum 109 = .ok (.lload_n 1, 1) := by decide +kernel
theorem dL_sum_110 : decode cL_sum 110 = .ok (.lmul, 1) := by decide +kernel
theorem dL_sum_111 : decode cL_sum 111 = .ok (.aload_n 0, 1) := by decide +kernel
theorem dL_sum_112 : decode cL_sum 112 = .ok (.iload_n 3, 1) := by decide +kernel
theorem dL_sum_113 : decode cL_sum 113 = .ok (.iload 4, 2) := by decide +kernel
theorem dL_sum_115 : decode cL_sum 115 = .ok (.invokestatic 133, 3) := by decide +kernel
theorem dL_sum_118 : decode cL_sum 118 = .ok (.i2l, 1) := by decide +kernel
theorem dL_sum_119 : decode cL_sum 119 = .ok (.ladd, 1) := by decide +kernel
theorem dL_sum_120 : decode cL_sum 120 = .ok (.ldc2_w 170, 3) := by decide +kernel
theorem dL_sum_123 : decode cL_sum 123 = .ok (.aload_n 0, 1) := by decide +kernel
theorem dL_sum_124 : decode cL_sum 124 = .ok (.iload_n 3, 1) := by decide +kernel
theorem dL_sum_125 : decode cL_sum 125 = .ok (.iload 4, 2) := by decide +kernel
theorem dL_sum_127 : decode cL_sum 127 = .ok (.invokestatic 131, 3) := by decide +kernel
theorem dL_sum_130 : decode cL_sum 130 = .ok (.i2l, 1) := by decide +kernel
theorem dL_sum_131 : decode cL_sum 131 = .ok (.lmul, 1) := by decide +kernel
theorem dL_sum_132 : decode cL_sum 132 = .ok (.ladd, 1) := by decide +kernel
theorem dL_sum_133 : decode cL_sum 133 = .ok (.lstore_n 1, 1) := by decide +kernel
theorem dL_sum_134 : decode cL_sum 134 = .ok (.iinc 4 1, 3) := by decide +kernel
theorem dL_sum_137 : decode cL_sum 137 = .ok (.goto (-37), 3) := by decide +kernel
theorem dL_sum_140 : decode cL_sum 140 = .ok (.iinc 3 1, 3) := by decide +kernel
theorem dL_sum_143 : decode cL_sum 143 = .ok (.goto (-75), 3) := by decide +kernel
theorem dL_sum_146 : decode cL_sum 146 = .ok (.lload_n 1, 1) := by decide +kernel
theorem dL_sum_147 : decode cL_sum 147 = .ok (.lreturn, 1) := by decide +kernel
theorem dL_areJobs_0 : decode cL_areJobs 0 = .ok (.aload_n 0, 1) := by decide +kernel
theorem dL_areJobs_1 : decode cL_areJobs 1 = .ok (.invokevirtual 121, 3) := by decide +kernel
theorem dL_areJobs_4 : decode cL_areJobs 4 = .ok (.lstore 5, 2) := by decide +kernel
theorem dL_areJobs_6 : decode cL_areJobs 6 = .ok (.iconst 1, 1) := by decide +kernel
theorem dL_areJobs_7 : decode cL_areJobs 7 = .ok (.istore 7, 2) := by decide +kernel
theorem dL_areJobs_9 : decode cL_areJobs 9 = .ok (.iconst 0, 1) := by decide +kernel
theorem dL_areJobs_10 : decode cL_areJobs 10 = .ok (.istore 8, 2) := by decide +kernel
theorem dL_areJobs_12 : decode cL_areJobs 12 = .ok (.iload 8, 2) := by decide +kernel
theorem dL_areJobs_14 : decode cL_areJobs 14 = .ok (.iconst 3, 1) := by decide +kernel
theorem dL_areJobs_15 : decode cL_areJobs 15 = .ok (.if_icmp .ge 361, 3) := by decide +kernel
theorem dL_areJobs_18 : decode cL_areJobs 18 = .ok (.aload 4, 2) := by decide +kernel
theorem dL_areJobs_20 : decode cL_areJobs 20 = .ok (.iload 8, 2) := by decide +kernel
theorem dL_areJobs_22 : decode cL_areJobs 22 = .ok (.caload, 1) := by decide +kernel
theorem dL_areJobs_23 : decode cL_areJobs 23 = .ok (.bipush 119, 2) := by decide +kernel
theorem dL_areJobs_25 : decode cL_areJobs 25 = .ok (.if_icmp .ne 7, 3) := by decide +kernel
theorem dL_areJobs_28 : decode cL_areJobs 28 = .ok (.iconst 2, 1) := by decide +kernel
theorem dL_areJobs_29 : decode cL_areJobs 29 = .ok (.goto 4, 3) := by decide +kernel
theorem dL_areJobs_32 : decode cL_areJobs 32 = .ok (.iconst 4, 1) := by decide +kernel
theorem dL_areJobs_33 : decode cL_areJobs 33 = .ok (.istore 9, 2) := by decide +kernel
theorem dL_areJobs_35 : decode cL_areJobs 35 = .ok (.aload_n 3, 1) := by decide +kernel
theorem dL_areJobs_36 : decode cL_areJobs 36 = .ok (.iload 8, 2) := by decide +kernel
theorem dL_areJobs_38 : decode cL_areJobs 38 = .ok (.iaload, 1) := by decide +kernel
theorem dL_areJobs_39 : decode cL_areJobs 39 = .ok (.iload 9, 2) := by decide +kernel
theorem dL_areJobs_41 : decode cL_areJobs 41 = .ok (.irem, 1) := by decide +kernel
theorem dL_areJobs_42 : decode cL_areJobs 42 = .ok (.ifCond .ne 7, 3) := by decide +kernel
theorem dL_areJobs_45 : decode cL_areJobs 45 = .ok (.iconst 1, 1) := by decide +kernel
theorem dL_areJobs_46 : decode cL_areJobs 46 = .ok (.goto 4, 3) := by decide +kernel
theorem dL_areJobs_49 : decode cL_areJobs 49 = .ok (.iconst 0, 1) := by decide +kernel
theorem dL_areJobs_50 : decode cL_areJobs 50 = .ok (.istore 10, 2) := by decide +kernel
theorem dL_areJobs_52 : decode cL_areJobs 52 = .ok (.iload 7, 2) := by decide +kernel
theorem dL_areJobs_54 : decode cL_areJobs 54 = .ok (.aload_n 0, 1) := by decide +kernel
theorem dL_areJobs_55 : decode cL_areJobs 55 = .ok (.iload 8, 2) := by decide +kernel
theorem dL_areJobs_57 : decode cL_areJobs 57 = .ok (.invokestatic 129, 3) := by decide +kernel
theorem dL_areJobs_60 : decode cL_areJobs 60 = .ok (.aload_n 3, 1) := by decide +kernel
theorem dL_areJobs_61 : decode cL_areJobs 61 = .ok (.iload 8, 2) := by decide +kernel
theorem dL_areJobs_63 : decode cL_areJobs 63 = .ok (.iaload, 1) := by decide +kernel
theorem dL_areJobs_64 : decode cL_areJobs 64 = .ok (.if_icmp .ne 42, 3) := by decide +kernel
theorem dL_areJobs_67 : decode cL_areJobs 67 = .ok (.iload 10, 2) := by decide +kernel
theorem dL_areJobs_69 : decode cL_areJobs 69 = .ok (.ifCond .eq 22, 3) := by decide +kernel
theorem dL_areJobs_72 : decode cL_areJobs 72 = .ok (.aload_n 0, 1) := by decide +kernel
theorem dL_areJobs_73 : decode cL_areJobs 73 = .ok (.iload 8, 2) := by decide +kernel
theorem dL_areJobs_75 : decode cL_areJobs 75 = .ok (.invokestatic 152, 3) := by decide +kernel
theorem dL_areJobs_78 : decode cL_areJobs 78 = .ok (.aload_n 3, 1) := by decide +kernel
theorem dL_areJobs_79 : decode cL_areJobs 79 = .ok (.iload 8, 2) := by decide +kernel
theorem dL_areJobs_81 : decode cL_areJobs 81 = .ok (.iaload, 1) := by decide +kernel
theorem dL_areJobs_82 : decode cL_areJobs 82 = .ok (.iload 9, 2) := by decide +kernel
theorem dL_areJobs_84 : decode cL_areJobs 84 = .ok (.idiv, 1) := by decide +kernel
theorem dL_areJobs_85 : decode cL_areJobs 85 = .ok (.if_icmp .ne 21, 3) := by decide +kernel
theorem dL_areJobs_88 : decode cL_areJobs 88 = .ok (.goto 14, 3) := by decide +kernel
theorem dL_areJobs_91 : decode cL_areJobs 91 = .ok (.aload_n 0, 1) := by decide +kernel
theorem dL_areJobs_92 : decode cL_areJobs 92 = .ok (.iload 8, 2) := by decide +kernel
theorem dL_areJobs_94 : decode cL_areJobs 94 = .ok (.invokestatic 152, 3) := by decide +kernel
theorem dL_areJobs_97 : decode cL_areJobs 97 = .ok (.bipush (-79), 2) := by decide +kernel
theorem dL_areJobs_99 : decode cL_areJobs 99 = .ok (.if_icmp .ne 7, 3) := by decide +kernel
theorem dL_areJobs_102 : decode cL_areJobs 102 = .ok (.iconst 1, 1) := by decide +kernel
theorem dL_areJobs_103 : decode cL_areJobs 103 = .ok (.goto 4, 3) := by decide +kernel
theorem dL_areJobs_106 : decode cL_areJobs 106 = .ok (.iconst 0, 1) := by decide +kernel
theorem dL_areJobs_107 : decode cL_areJobs 107 = .ok (.iand, 1) := by decide +kernel
theorem dL_areJobs_108 : decode cL_areJobs 108 = .ok (.istore 7, 2) := by decide +kernel
theorem dL_areJobs_110 : decode cL_areJobs 110 = .ok (.bipush 17, 2) := by decide +kernel
theorem dL_areJobs_112 : decode cL_areJobs 112 = .ok (.newarray .int, 2) := by decide +kernel
theorem dL_areJobs_114 : decode cL_areJobs 114 = .ok (.astore 11, 2) := by decide +kernel
theorem dL_areJobs_116 : decode cL_areJobs 116 = .ok (.iconst 0, 1) := by decide +kernel
theorem dL_areJobs_117 : decode cL_areJobs 117 = .ok (.istore 12, 2) := by decide +kernel
theorem dL_areJobs_119 : decode cL_areJobs 119 = .ok (.iload 12, 2) := by decide +kernel
theorem dL_areJobs_121 : decode cL_areJobs 121 = .ok (.aload_n 0, 1) := by decide +kernel
theorem dL_areJobs_122 : decode cL_areJobs 122 = .ok (.iload 8, 2) := by decide +kernel
theorem dL_areJobs_124 : decode cL_areJobs 124 = .ok (.invokestatic 152, 3) := by decide +kernel
theorem dL_areJobs_127 : decode cL_areJobs 127 = .ok (.if_icmp .ge 169, 3) := by decide +kernel
theorem dL_areJobs_130 : decode cL_areJobs 130 = .ok (.aload_n 0, 1) := by decide +kernel
theorem dL_areJobs_131 : decode cL_areJobs 131 = .ok (.iload 8, 2) := by decide +kernel
theorem dL_areJobs_133 : decode cL_areJobs 133 = .ok (.iload 12, 2) := by decide +kernel
theorem dL_areJobs_135 : decode cL_areJobs 135 = .ok (.invokestatic 131, 3) := by decide +kernel
theorem dL_areJobs_138 : decode cL_areJobs 138 = .ok (.istore 13, 2) := by decide +kernel
theorem dL_areJobs_140 : decode cL_areJobs 140 = .ok (.lload 5, 2) := by decide +kernel
theorem dL_areJobs_142 : decode cL_areJobs 142 = .ok (.aload_n 0, 1) := by decide +kernel
theorem dL_areJobs_143 : decode cL_areJobs 143 = .ok (.iload 8, 2) := by decide +kernel
theorem dL_areJobs_145 : decode cL_areJobs 145 = .ok (.iload 12, 2) := by decide +kernel
theorem dL_areJobs_147 : decode cL_areJobs 147 = .ok (.invokestatic 133, 3) := by decide +kernel
theorem dL_areJobs_150 : decode cL_areJobs 150 = .ok (.i2l, 1) := by decide +kernel
theorem dL_areJobs_151 : decode cL_areJobs 151 = .ok (.ladd, 1) := by decide +kernel
theorem dL_areJobs_152 : decode cL_areJobs 152 = .ok (.lstore 5, 2) := by decide +kernel
theorem dL_areJobs_154 : decode cL_areJobs 154 = .ok (.iload 7, 2) := by decide +kernel
theorem dL_areJobs_156 : decode cL_areJobs 156 = .ok (.aload_n 0, 1) := by decide +kernel
theorem dL_areJobs_157 : decode cL_areJobs 157 = .ok (.iload 8, 2) := by decide +kernel
theorem dL_areJobs_159 : decode cL_areJobs 159 = .ok (.iload 12, 2) := by decide +kernel
theorem dL_areJobs_161 : decode cL_areJobs 161 = .ok (.invokestatic 133, 3) := by decide +kernel
theorem dL_areJobs_164 : decode cL_areJobs 164 = .ok (.ifCond .lt 47, 3) := by decide +kernel
theorem dL_areJobs_167 : decode cL_areJobs 167 = .ok (.iload 13, 2) := by decide +kernel
theorem dL_areJobs_169 : decode cL_areJobs 169 = .ok (.ifCond .eq 38, 3) := by decide +kernel
theorem dL_areJobs_172 : decode cL_areJobs 172 = .ok (.iload 13, 2) := by decide +kernel
theorem dL_areJobs_174 : decode cL_areJobs 174 = .ok (.bipush 15, 2) := by decide +kernel
theorem dL_areJobs_176 : decode cL_areJobs 176 = .ok (.if_icmp .eq 31, 3) := by decide +kernel
theorem dL_areJobs_179 : decode cL_areJobs 179 = .ok (.iload 13, 2) := by decide +kernel
theorem dL_areJobs_181 : decode cL_areJobs 181 = .ok (.bipush 20, 2) := by decide +kernel
theorem dL_areJobs_183 : decode cL_areJobs 183 = .ok (.if_icmp .eq 24, 3) := by decide +kernel
theorem dL_areJobs_186 : decode cL_areJobs 186 = .ok (.iload 13, 2) := by decide +kernel
theorem dL_areJobs_188 : decode cL_areJobs 188 = .ok (.bipush 35, 2) := by decide +kernel
theorem dL_areJobs_190 : decode cL_areJobs 190 = .ok (.if_icmp .eq 17, 3) := by decide +kernel
theorem dL_areJobs_193 : decode cL_areJobs 193 = .ok (.iload 13, 2) := by decide +kernel
theorem dL_areJobs_195 : decode cL_areJobs 195 = .ok (.bipush 40, 2) := by decide +kernel
theorem dL_areJobs_197 : decode cL_areJobs 197 = .ok (.if_icmp .eq 10, 3) := by decide +kernel
theorem dL_areJobs_200 : decode cL_areJobs 200 = .ok (.iload 13, 2) := by decide +kernel
theorem dL_areJobs_202 : decode cL_areJobs 202 = .ok (.bipush 55, 2) := by decide +kernel
theorem dL_areJobs_204 : decode cL_areJobs 204 = .ok (.if_icmp .ne 7, 3) := by decide +kernel
theorem dL_areJobs_207 : decode cL_areJobs 207 = .ok (.iconst 1, 1) := by decide +kernel
theorem dL_areJobs_208 : decode cL_areJobs 208 = .ok (.goto 4, 3) := by decide +kernel
theorem dL_areJobs_211 : decode cL_areJobs 211 = .ok (.iconst 0, 1) := by decide +kernel
theorem dL_areJobs_212 : decode cL_areJobs 212 = .ok (.iand, 1) := by decide +kernel
theorem dL_areJobs_213 : decode cL_areJobs 213 = .ok (.istore 7, 2) := by decide +kernel
theorem dL_areJobs_215 : decode cL_areJobs 215 = .ok (.iconst 0, 1) := by decide +kernel
theorem dL_areJobs_216 : decode cL_areJobs 216 = .ok (.istore 14, 2) := by decide +kernel
theorem dL_areJobs_218 : decode cL_areJobs 218 = .ok (.iload 14, 2) := by decide +kernel
theorem dL_areJobs_220 : decode cL_areJobs 220 = .ok (.iload 9, 2) := by decide +kernel
theorem dL_areJobs_222 : decode cL_areJobs 222 = .ok (.if_icmp .ge 68, 3) := by decide +kernel
theorem dL_areJobs_225 : decode cL_areJobs 225 = .ok (.aload_n 0, 1) := by decide +kernel
theorem dL_areJobs_226 : decode cL_areJobs 226 = .ok (.iload 8, 2) := by decide +kernel
theorem dL_areJobs_228 : decode cL_areJobs 228 = .ok (.iload 12, 2) := by decide +kernel
theorem dL_areJobs_230 : decode cL_areJobs 230 = .ok (.iload 14, 2) := by decide +kernel
theorem dL_areJobs_232 : decode cL_areJobs 232 = .ok (.invokestatic 176, 3) := by decide +kernel
theorem dL_areJobs_235 : decode cL_areJobs 235 = .ok (.istore 15, 2) := by decide +kernel
theorem dL_areJobs_237 : decode cL_areJobs 237 = .ok (.iload 7, 2) := by decide +kernel
theorem dL_areJobs_239 : decode cL_areJobs 239 = .ok (.iload 15, 2) := by decide +kernel
theorem dL_areJobs_241 : decode cL_areJobs 241 = .ok (.iconst 1, 1) := by decide +kernel
theorem dL_areJobs_242 : decode cL_areJobs 242 = .ok (.if_icmp .lt 29, 3) := by decide +kernel
theorem dL_areJobs_245 : decode cL_areJobs 245 = .ok (.iload 15, 2) := by decide +kernel
theorem dL_areJobs_247 : decode cL_areJobs 247 = .ok (.aload_n 3, 1) := by decide +kernel
theorem dL_areJobs_248 : decode cL_areJobs 248 = .ok (.iload 8, 2) := by decide +kernel
theorem dL_areJobs_250 : decode cL_areJobs 250 = .ok (.iaload, 1) := by decide +kernel
theorem dL_areJobs_251 : decode cL_areJobs 251 = .ok (.if_icmp .gt 20, 3) := by decide +kernel
theorem dL_areJobs_254 : decode cL_areJobs 254 = .ok (.aload_n 0, 1) := by decide +kernel
theorem dL_areJobs_255 : decode cL_areJobs 255 = .ok (.iload 8, 2) := by decide +kernel
theorem dL_areJobs_257 : decode cL_areJobs 257 = .ok (.iload 15, 2) := by decide +kernel
theorem dL_areJobs_259 : decode cL_areJobs 259 = .ok (.invokestatic 178, 3) := by decide +kernel
theorem dL_areJobs_262 : decode cL_areJobs 262 = .ok (.iload 12, 2) := by decide +kernel
theorem dL_areJobs_264 : decode cL_areJobs 264 = .ok (.if_icmp .ne 7, 3) := by decide +kernel
theorem dL_areJobs_267 : decode cL_areJobs 267 = .ok (.iconst 1, 1) := by decide +kernel
theorem dL_areJobs_268 : decode cL_areJobs 268 = .ok (.goto 4, 3) := by decide +kernel
theorem dL_areJobs_271 : decode cL_areJobs 271 = .ok (.iconst 0, 1) := by decide +kernel
theorem dL_areJobs_272 : decode cL_areJobs 272 = .ok (.iand, 1) := by decide +kernel
theorem dL_areJobs_273 : decode cL_areJobs 273 = .ok (.istore 7, 2) := by decide +kernel
theorem dL_areJobs_275 : decode cL_areJobs 275 = .ok (.aload 11, 2) := by decide +kernel
theorem dL_areJobs_277 : decode cL_areJobs 277 = .ok (.iload 15, 2) := by decide +kernel
theorem dL_areJobs_279 : decode cL_areJobs 279 = .ok (.dup2, 1) := by decide +kernel
theorem dL_areJobs_280 : decode cL_areJobs 280 = .ok (.iaload, 1) := by decide +kernel
theorem dL_areJobs_281 : decode cL_areJobs 281 = .ok (.iconst 1, 1) := by decide +kernel
theorem dL_areJobs_282 : decode cL_areJobs 282 = .ok (.iadd, 1) := by decide +kernel
theorem dL_areJobs_283 : decode cL_areJobs 283 = .ok (.iastore, 1) := by decide +kernel
theorem dL_areJobs_284 : decode cL_areJobs 284 = .ok (.iinc 14 1, 3) := by decide +kernel
theorem dL_areJobs_287 : decode cL_areJobs 287 = .ok (.goto (-69), 3) := by decide +kernel
theorem dL_areJobs_290 : decode cL_areJobs 290 = .ok (.iinc 12 1, 3) := by decide +kernel
theorem dL_areJobs_293 : decode cL_areJobs 293 = .ok (.goto (-174), 3) := by decide +kernel
theorem dL_areJobs_296 : decode cL_areJobs 296 = .ok (.iconst 1, 1) := by decide +kernel
theorem dL_areJobs_297 : decode cL_areJobs 297 = .ok (.istore 12, 2) := by decide +kernel
theorem dL_areJobs_299 : decode cL_areJobs 299 = .ok (.iload 12, 2) := by decide +kernel
theorem dL_areJobs_301 : decode cL_areJobs 301 = .ok (.aload_n 3, 1) := by decide +kernel
theorem dL_areJobs_302 : decode cL_areJobs 302 = .ok (.iload 8, 2) := by decide +kernel
theorem dL_areJobs_304 : decode cL_areJobs 304 = .ok (.iaload, 1) := by decide +kernel
theorem dL_areJobs_305 : decode cL_areJobs 305 = .ok (.if_icmp .gt 33, 3) := by decide +kernel
theorem dL_areJobs_308 : decode cL_areJobs 308 = .ok (.iload 10, 2) := by decide +kernel
theorem dL_areJobs_310 : decode cL_areJobs 310 = .ok (.ifCond .eq 28, 3) := by decide +kernel
theorem dL_areJobs_313 : decode cL_areJobs 313 = .ok (.iload 7, 2) := by decide +kernel
theorem dL_areJobs_315 : decode cL_areJobs 315 = .ok (.aload 11, 2) := by decide +kernel
theorem dL_areJobs_317 : decode cL_areJobs 317 = .ok (.iload 12, 2) := by decide +kernel
theorem dL_areJobs_319 : decode cL_areJobs 319 = .ok (.iaload, 1) := by decide +kernel
theorem dL_areJobs_320 : decode cL_areJobs 320 = .ok (.iconst 1, 1) := by decide +kernel
theorem dL_areJobs_321 : decode cL_areJobs 321 = .ok (.if_icmp .ne 7, 3) := by decide +kernel
theorem dL_areJobs_324 : decode cL_areJobs 324 = .ok (.iconst 1, 1) := by decide +kernel
theorem dL_areJobs_325 : decode cL_areJobs 325 = .ok (.goto 4, 3) := by decide +kernel
theorem dL_areJobs_328 : decode cL_areJobs 328 = .ok (.iconst 0, 1) := by decide +kernel
theorem dL_areJobs_329 : decode cL_areJobs 329 = .ok (.iand, 1) := by decide +kernel
theorem dL_areJobs_330 : decode cL_areJobs 330 = .ok (.istore 7, 2) := by decide +kernel
theorem dL_areJobs_332 : decode cL_areJobs 332 = .ok (.iinc 12 1, 3) := by decide +kernel
theorem dL_areJobs_335 : decode cL_areJobs 335 = .ok (.goto (-36), 3) := by decide +kernel
theorem dL_areJobs_338 : decode cL_areJobs 338 = .ok (.iload 7, 2) := by decide +kernel
theorem dL_areJobs_340 : decode cL_areJobs 340 = .ok (.iload 10, 2) := by decide +kernel
theorem dL_areJobs_342 : decode cL_areJobs 342 = .ok (.ifCond .eq 20, 3) := by decide +kernel
theorem dL_areJobs_345 : decode cL_areJobs 345 = .ok (.aload_n 0, 1) := by decide +kernel
theorem dL_areJobs_346 : decode cL_areJobs 346 = .ok (.iload 8, 2) := by decide +kernel
theorem dL_areJobs_348 : decode cL_areJobs 348 = .ok (.invokestatic 138, 3) := by decide +kernel
theorem dL_areJobs_351 : decode cL_areJobs 351 = .ok (.iconst 2, 1) := by decide +kernel
theorem dL_areJobs_352 : decode cL_areJobs 352 = .ok (.aload_n 0, 1) := by decide +kernel
theorem dL_areJobs_353 : decode cL_areJobs 353 = .ok (.iload 8, 2) := by decide +kernel
theorem dL_areJobs_355 : decode cL_areJobs 355 = .ok (.invokestatic 152, 3) := by decide +kernel
theorem dL_areJobs_358 : decode cL_areJobs 358 = .ok (.imul, 1) := by decide +kernel
theorem dL_areJobs_359 : decode cL_areJobs 359 = .ok (.if_icmp .gt 7, 3) := by decide +kernel
theorem dL_areJobs_362 : decode cL_areJobs 362 = .ok (.iconst 1, 1) := by decide +kernel
theorem dL_areJobs_363 : decode cL_areJobs 363 = .ok (.goto 4, 3) := by decide +kernel
theorem dL_areJobs_366 : decode cL_areJobs 366 = .ok (.iconst 0, 1) := by decide +kernel
theorem dL_areJobs_367 : decode cL_areJobs 367 = .ok (.iand, 1) := by decide +kernel
theorem dL_areJobs_368 : decode cL_areJobs 368 = .ok (.istore 7, 2) := by decide +kernel
theorem dL_areJobs_370 : decode cL_areJobs 370 = .ok (.iinc 8 1, 3) := by decide +kernel
theorem dL_areJobs_373 : decode cL_areJobs 373 = .ok (.goto (-361), 3) := by decide +kernel
theorem dL_areJobs_376 : decode cL_areJobs 376 = .ok (.iload 7, 2) := by decide +kernel
theorem dL_areJobs_378 : decode cL_areJobs 378 = .ok (.ifCond .eq 14, 3) := by decide +kernel
theorem dL_areJobs_381 : decode cL_areJobs 381 = .ok (.lload 5, 2) := by decide +kernel
theorem dL_areJobs_383 : decode cL_areJobs 383 = .ok (.lload_n 1, 1) := by decide +kernel
theorem dL_areJobs_384 : decode cL_areJobs 384 = .ok (.lcmp, 1) := by decide +kernel
theorem dL_areJobs_385 : decode cL_areJobs 385 = .ok (.ifCond .ne 7, 3) := by decide +kernel
theorem dL_areJobs_388 : decode cL_areJobs 388 = .ok (.iconst 1, 1) := by decide +kernel
theorem dL_areJobs_389 : decode cL_areJobs 389 = .ok (.goto 4, 3) := by decide +kernel
theorem dL_areJobs_392 : decode cL_areJobs 392 = .ok (.iconst 0, 1) := by decide +kernel
theorem dL_areJobs_393 : decode cL_areJobs 393 = .ok (.ireturn, 1) := by decide +kernel
theorem dL_areLots_0 : decode cL_areLots 0 = .ok (.iconst 4, 1) := by decide +kernel
theorem dL_areLots_1 : decode cL_areLots 1 = .ok (.newarray .int, 2) := by decide +kernel
theorem dL_areLots_3 : decode cL_areLots 3 = .ok (.astore_n 3, 1) := by decide +kernel
theorem dL_areLots_4 : decode cL_areLots 4 = .ok (.iconst 1, 1) := by decide +kernel
theorem dL_areLots_5 : decode cL_areLots 5 = .ok (.istore 4, 2) := by decide +kernel
theorem dL_areLots_7 : decode cL_areLots 7 = .ok (.iconst 0, 1) := by decide +kernel
theorem dL_areLots_8 : decode cL_areLots 8 = .ok (.istore 5, 2) := by decide +kernel
theorem dL_areLots_10 : decode cL_areLots 10 = .ok (.iload 5, 2) := by decide +kernel
theorem dL_areLots_12 : decode cL_areLots 12 = .ok (.aload_n 0, 1) := by decide +kernel
theorem dL_areLots_13 : decode cL_areLots 13 = .ok (.invokevirtual 147, 3) := by decide +kernel
theorem dL_areLots_16 : decode cL_areLots 16 = .ok (.if_icmp .ge 202, 3) := by decide +kernel
theorem dL_areLots_19 : decode cL_areLots 19 = .ok (.iconst 4, 1) := by decide +kernel
theorem dL_areLots_20 : decode cL_areLots 20 = .ok (.newarray .int, 2) := by decide +kernel
theorem dL_areLots_22 : decode cL_areLots 22 = .ok (.dup, 1) := by decide +kernel
theorem dL_areLots_23 : decode cL_areLots 23 = .ok (.iconst 0, 1) := by decide +kernel
theorem dL_areLots_24 : decode cL_areLots 24 = .ok (.iconst (-1), 1) := by decide +kernel
theorem dL_areLots_25 : decode cL_areLots 25 = .ok (.iastore, 1) := by decide +kernel
theorem dL_areLots_26 : decode cL_areLots 26 = .ok (.dup, 1) := by decide +kernel
theorem dL_areLots_27 : decode cL_areLots 27 = .ok (.iconst 1, 1) := by decide +kernel
theorem dL_areLots_28 : decode cL_areLots 28 = .ok (.iconst (-1), 1) := by decide +kernel
theorem dL_areLots_29 : decode cL_areLots 29 = .ok (.iastore, 1) := by decide +kernel
theorem dL_areLots_30 : decode cL_areLots 30 = .ok (.dup, 1) := by decide +kernel
theorem dL_areLots_31 : decode cL_areLots 31 = .ok (.iconst 2, 1) := by decide +kernel
theorem dL_areLots_32 : decode cL_areLots 32 = .ok (.iconst (-1), 1) := by decide +kernel
theorem dL_areLots_33 : decode cL_areLots 33 = .ok (.iastore, 1) := by decide +kernel
theorem dL_areLots_34 : decode cL_areLots 34 = .ok (.dup, 1) := by decide +kernel
theorem dL_areLots_35 : decode cL_areLots 35 = .ok (.iconst 3, 1) := by decide +kernel
theorem dL_areLots_36 : decode cL_areLots 36 = .ok (.iconst (-1), 1) := by decide +kernel
theorem dL_areLots_37 : decode cL_areLots 37 = .ok (.iastore, 1) := by decide +kernel
theorem dL_areLots_38 : decode cL_areLots 38 = .ok (.astore 6, 2) := by decide +kernel
theorem dL_areLots_40 : decode cL_areLots 40 = .ok (.iconst 0, 1) := by decide +kernel
theorem dL_areLots_41 : decode cL_areLots 41 = .ok (.istore 7, 2) := by decide +kernel
theorem dL_areLots_43 : decode cL_areLots 43 = .ok (.iconst 1, 1) := by decide +kernel
theorem dL_areLots_44 : decode cL_areLots 44 = .ok (.istore 8, 2) := by decide +kernel
theorem dL_areLots_46 : decode cL_areLots 46 = .ok (.aload_n 0, 1) := by decide +kernel
theorem dL_areLots_47 : decode cL_areLots 47 = .ok (.iload 5, 2) := by decide +kernel
theorem dL_areLots_49 : decode cL_areLots 49 = .ok (.iload 8, 2) := by decide +kernel
theorem dL_areLots_51 : decode cL_areLots 51 = .ok (.invokestatic 180, 3) := by decide +kernel
theorem dL_areLots_54 : decode cL_areLots 54 = .ok (.ifCond .lt 115, 3) := by decide +kernel
theorem dL_areLots_57 : decode cL_areLots 57 = .ok (.aload_n 1, 1) := by decide +kernel
theorem dL_areLots_58 : decode cL_areLots 58 = .ok (.aload_n 2, 1) := by decide +kernel
theorem dL_areLots_59 : decode cL_areLots 59 = .ok (.iload 5, 2) := by decide +kernel
theorem dL_areLots_61 : decode cL_areLots 61 = .ok (.iaload, 1) := by decide +kernel
theorem dL_areLots_62 : decode cL_areLots 62 = .ok (.aaload, 1) := by decide +kernel
theorem dL_areLots_63 : decode cL_areLots 63 = .ok (.iload 8, 2) := by decide +kernel
theorem dL_areLots_65 : decode cL_areLots 65 = .ok (.iconst 1, 1) := by decide +kernel
theorem dL_areLots_66 : decode cL_areLots 66 = .ok (.isub, 1) := by decide +kernel
theorem dL_areLots_67 : decode cL_areLots 67 = .ok (.iaload, 1) := by decide +kernel
theorem dL_areLots_68 : decode cL_areLots 68 = .ok (.istore 9, 2) := by decide +kernel
theorem dL_areLots_70 : decode cL_areLots 70 = .ok (.aload_n 0, 1) := by decide +kernel
theorem dL_areLots_71 : decode cL_areLots 71 = .ok (.iload 5, 2) := by decide +kernel
theorem dL_areLots_73 : decode cL_areLots 73 = .ok (.iload 8, 2) := by decide +kernel
theorem dL_areLots_75 : decode cL_areLots 75 = .ok (.invokestatic 180, 3) := by decide +kernel
theorem dL_areLots_78 : decode cL_areLots 78 = .ok (.istore 10, 2) := by decide +kernel
theorem dL_areLots_80 : decode cL_areLots 80 = .ok (.iload 4, 2) := by decide +kernel
theorem dL_areLots_82 : decode cL_areLots 82 = .ok (.iload 10, 2) := by decide +kernel
theorem dL_areLots_84 : decode cL_areLots 84 = .ok (.aload_n 0, 1) := by decide +kernel
theorem dL_areLots_85 : decode cL_areLots 85 = .ok (.iload 5, 2) := by decide +kernel
theorem dL_areLots_87 : decode cL_areLots 87 = .ok (.iload 8, 2) := by decide +kernel
theorem dL_areLots_89 : decode cL_areLots 89 = .ok (.invokestatic 182, 3) := by decide +kernel
theorem dL_areLots_92 : decode cL_areLots 92 = .ok (.if_icmp .ne 36, 3) := by decide +kernel
theorem dL_areLots_95 : decode cL_areLots 95 = .ok (.iload 10, 2) := by decide +kernel
theorem dL_areLots_97 : decode cL_areLots 97 = .ok (.aload_n 0, 1) := by decide +kernel
theorem dL_areLots_98 : decode cL_areLots 98 = .ok (.iload 9, 2) := by decide +kernel
theorem dL_areLots_100 : decode cL_areLots 100 = .ok (.invokestatic 125, 3) := by decide +kernel
theorem dL_areLots_103 : decode cL_areLots 103 = .ok (.if_icmp .gt 25, 3) := by decide +kernel
theorem dL_areLots_106 : decode cL_areLots 106 = .ok (.aload 6, 2) := by decide +kernel
theorem dL_areLots_108 : decode cL_areLots 108 = .ok (.iload 9, 2) := by decide +kernel
theorem dL_areLots_110 : decode cL_areLots 110 = .ok (.iaload, 1) := by decide +kernel
theorem dL_areLots_111 : decode cL_areLots 111 = .ok (.ifCond .lt 13, 3) := by decide +kernel
theorem dL_areLots_114 : decode cL_areLots 114 = .ok (.aload 6, 2) := by decide +kernel
theorem dL_areLots_116 : decode cL_areLots 116 = .ok (.iload 9, 2) := by decide +kernel
theorem dL_areLots_118 : decode cL_areLots 118 = .ok (.iaload, 1) := by decide +kernel
theorem dL_areLots_119 : decode cL_areLots 119 = .ok (.iload 10, 2) := by decide +kernel
theorem dL_areLots_121 : decode cL_areLots 121 = .ok (.if_icmp .ne 7, 3) := by decide +kernel
theorem dL_areLots_124 : decode cL_areLots 124 = .ok (.iconst 1, 1) := by decide +kernel
theorem dL_areLots_125 : decode cL_areLots 125 = .ok (.goto 4, 3) := by decide +kernel
theorem dL_areLots_128 : decode cL_areLots 128 = .ok (.iconst 0, 1) := by decide +kernel
theorem dL_areLots_129 : decode cL_areLots 129 = .ok (.iand, 1) := by decide +kernel
theorem dL_areLots_130 : decode cL_areLots 130 = .ok (.istore 4, 2) := by decide +kernel
theorem dL_areLots_132 : decode cL_areLots 132 = .ok (.aload 6, 2) := by decide +kernel
theorem dL_areLots_134 : decode cL_areLots 134 = .ok (.iload 9, 2) := by decide +kernel
theorem dL_areLots_136 : decode cL_areLots 136 = .ok (.iload 10, 2) := by decide +kernel
theorem dL_areLots_138 : decode cL_areLots 138 = .ok (.iastore, 1) := by decide +kernel
theorem dL_areLots_139 : decode cL_areLots 139 = .ok (.iload 7, 2) := by decide +kernel
theorem dL_areLots_141 : decode cL_areLots 141 = .ok (.iload 10, 2) := by decide +kernel
theorem dL_areLots_143 : decode cL_areLots 143 = .ok (.aload_n 0, 1) := by decide +kernel
theorem dL_areLots_144 : decode cL_areLots 144 = .ok (.iload 9, 2) := by decide +kernel
theorem dL_areLots_146 : decode cL_areLots 146 = .ok (.invokestatic 125, 3) := by decide +kernel
theorem dL_areLots_149 : decode cL_areLots 149 = .ok (.if_icmp .ge 10, 3) := by decide +kernel
theorem dL_areLots_152 : decode cL_areLots 152 = .ok (.iconst 1, 1) := by decide +kernel
theorem dL_areLots_153 : decode cL_areLots 153 = .ok (.iload 9, 2) := by decide +kernel
theorem dL_areLots_155 : decode cL_areLots 155 = .ok (.ishl, 1) := by decide +kernel
theorem dL_areLots_156 : decode cL_areLots 156 = .ok (.goto 4, 3) := by decide +kernel
theorem dL_areLots_159 : decode cL_areLots 159 = .ok (.iconst 0, 1) := by decide +kernel
theorem dL_areLots_160 : decode cL_areLots 160 = .ok (.ior, 1) := by decide +kernel
theorem dL_areLots_161 : decode cL_areLots 161 = .ok (.istore 7, 2) := by decide +kernel
theorem dL_areLots_163 : decode cL_areLots 163 = .ok (.iinc 8 1, 3) := by decide +kernel
theorem dL_areLots_166 : decode cL_areLots 166 = .ok (.goto (-120), 3) := by decide +kernel
theorem dL_areLots_169 : decode cL_areLots 169 = .ok (.iconst 0, 1) := by decide +kernel
theorem dL_areLots_170 : decode cL_areLots 170 = .ok (.istore 8, 2) := by decide +kernel
theorem dL_areLots_172 : decode cL_areLots 172 = .ok (.iload 8, 2) := by decide +kernel
theorem dL_areLots_174 : decode cL_areLots 174 = .ok (.iconst 4, 1) := by decide +kernel
theorem dL_areLots_175 : decode cL_areLots 175 = .ok (.if_icmp .ge 37, 3) := by decide +kernel
theorem dL_areLots_178 : decode cL_areLots 178 = .ok (.aload_n 3, 1) := by decide +kernel
theorem dL_areLots_179 : decode cL_areLots 179 = .ok (.iload 8, 2) := by decide +kernel
theorem dL_areLots_181 : decode cL_areLots 181 = .ok (.dup2, 1) := by decide +kernel
theorem dL_areLots_182 : decode cL_areLots 182 = .ok (.iaload, 1) := by decide +kernel
theorem dL_areLots_183 : decode cL_areLots 183 = .ok (.iload 7, 2) := by decide +kernel
theorem dL_areLots_185 : decode cL_areLots 185 = .ok (.iload 8, 2) := by decide +kernel
theorem dL_areLots_187 : decode cL_areLots 187 = .ok (.ishr, 1) := by decide +kernel
theorem dL_areLots_188 : decode cL_areLots 188 = .ok (.iconst 1, 1) := by decide +kernel
theorem dL_areLots_189 : decode cL_areLots 189 = .ok (.iand, 1) := by decide +kernel
theorem dL_areLots_190 : decode cL_areLots 190 = .ok (.iconst 1, 1) := by decide +kernel
theorem dL_areLots_191 : decode cL_areLots 191 = .ok (.if_icmp .ne 12, 3) := by decide +kernel
theorem dL_areLots_194 : decode cL_areLots 194 = .ok (.aload_n 0, 1) := by decide +kernel
theorem dL_areLots_195 : decode cL_areLots 195 = .ok (.iload 5, 2) := by decide +kernel
theorem dL_areLots_197 : decode cL_areLots 197 = .ok (.invokestatic 150, 3) := by decide +kernel
theorem dL_areLots_200 : decode cL_areLots 200 = .ok (.goto 4, 3) := by decide +kernel
theorem dL_areLots_203 : decode cL_areLots 203 = .ok (.iconst 0, 1) := by decide +kernel
theorem dL_areLots_204 : decode cL_areLots 204 = .ok (.iadd, 1) := by decide +kernel
theorem dL_areLots_205 : decode cL_areLots 205 = .ok (.iastore, 1) := by decide +kernel
theorem dL_areLots_206 : decode cL_areLots 206 = .ok (.iinc 8 1, 3) := by decide +kernel
theorem dL_areLots_209 : decode cL_areLots 209 = .ok (.goto (-37), 3) := by decide +kernel
theorem dL_areLots_212 : decode cL_areLots 212 = .ok (.iinc 5 1, 3) := by decide +kernel
theorem dL_areLots_215 : decode cL_areLots 215 = .ok (.goto (-205), 3) := by decide +kernel
theorem dL_areLots_218 : decode cL_areLots 218 = .ok (.iconst 0, 1) := by decide +kernel
theorem dL_areLots_219 : decode cL_areLots 219 = .ok (.istore 5, 2) := by decide +kernel
theorem dL_areLots_221 : decode cL_areLots 221 = .ok (.iload 5, 2) := by decide +kernel
theorem dL_areLots_223 : decode cL_areLots 223 = .ok (.iconst 4, 1) := by decide +kernel
theorem dL_areLots_224 : decode cL_areLots 224 = .ok (.if_icmp .ge 32, 3) := by decide +kernel
theorem dL_areLots_227 : decode cL_areLots 227 = .ok (.iload 4, 2) := by decide +kernel
theorem dL_areLots_229 : decode cL_areLots 229 = .ok (.aload_n 0, 1) := by decide +kernel
theorem dL_areLots_230 : decode cL_areLots 230 = .ok (.iload 5, 2) := by decide +kernel
theorem dL_areLots_232 : decode cL_areLots 232 = .ok (.invokestatic 174, 3) := by decide +kernel
theorem dL_areLots_235 : decode cL_areLots 235 = .ok (.aload_n 3, 1) := by decide +kernel
theorem dL_areLots_236 : decode cL_areLots 236 = .ok (.iload 5, 2) := by decide +kernel
theorem dL_areLots_238 : decode cL_areLots 238 = .ok (.iaload, 1) := by decide +kernel
theorem dL_areLots_239 : decode cL_areLots 239 = .ok (.if_icmp .ne 7, 3) := by decide +kernel
theorem dL_areLots_242 : decode cL_areLots 242 = .ok (.iconst 1, 1) := by decide +kernel
theorem dL_areLots_243 : decode cL_areLots 243 = .ok (.goto 4, 3) := by decide +kernel
theorem dL_areLots_246 : decode cL_areLots 246 = .ok (.iconst 0, 1) := by decide +kernel
theorem dL_areLots_247 : decode cL_areLots 247 = .ok (.iand, 1) := by decide +kernel
theorem dL_areLots_248 : decode cL_areLots 248 = .ok (.istore 4, 2) := by decide +kernel
theorem dL_areLots_250 : decode cL_areLots 250 = .ok (.iinc 5 1, 3) := by decide +kernel
theorem dL_areLots_253 : decode cL_areLots 253 = .ok (.goto (-32), 3) := by decide +kernel
theorem dL_areLots_256 : decode cL_areLots 256 = .ok (.iload 4, 2) := by decide +kernel
theorem dL_areLots_258 : decode cL_areLots 258 = .ok (.ireturn, 1) := by decide +kernel
theorem dL_areLeast_0 : decode cL_areLeast 0 = .ok (.iconst 1, 1) := by decide +kernel
theorem dL_areLeast_1 : decode cL_areLeast 1 = .ok (.istore_n 3, 1) := by decide +kernel
theorem dL_areLeast_2 : decode cL_areLeast 2 = .ok (.iconst 0, 1) := by decide +kernel
theorem dL_areLeast_3 : decode cL_areLeast 3 = .ok (.istore 4, 2) := by decide +kernel
theorem dL_areLeast_5 : decode cL_areLeast 5 = .ok (.iload 4, 2) := by decide +kernel
theorem dL_areLeast_7 : decode cL_areLeast 7 = .ok (.iconst 3, 1) := by decide +kernel
theorem dL_areLeast_8 : decode cL_areLeast 8 = .ok (.if_icmp .ge 146, 3) := by decide +kernel
theorem dL_areLeast_11 : decode cL_areLeast 11 = .ok (.aload_n 0, 1) := by decide +kernel
theorem dL_areLeast_12 : decode cL_areLeast 12 = .ok (.iload 4, 2) := by decide +kernel
theorem dL_areLeast_14 : decode cL_areLeast 14 = .ok (.invokestatic 184, 3) := by decide +kernel
theorem dL_areLeast_17 : decode cL_areLeast 17 = .ok (.istore 5, 2) := by decide +kernel
theorem dL_areLeast_19 : decode cL_areLeast 19 = .ok (.aload_n 0, 1) := by decide +kernel
theorem dL_areLeast_20 : decode cL_areLeast 20 = .ok (.iload 4, 2) := by decide +kernel
theorem dL_areLeast_22 : decode cL_areLeast 22 = .ok (.invokestatic 152, 3) := by decide +kernel
theorem dL_areLeast_25 : decode cL_areLeast 25 = .ok (.istore 6, 2) := by decide +kernel
theorem dL_areLeast_27 : decode cL_areLeast 27 = .ok (.sipush 999, 3) := by decide +kernel
theorem dL_areLeast_30 : decode cL_areLeast 30 = .ok (.istore 7, 2) := by decide +kernel
theorem dL_areLeast_32 : decode cL_areLeast 32 = .ok (.iconst 0, 1) := by decide +kernel
theorem dL_areLeast_33 : decode cL_areLeast 33 = .ok (.istore 8, 2) := by decide +kernel
theorem dL_areLeast_35 : decode cL_areLeast 35 = .ok (.iload 8, 2) := by decide +kernel
theorem dL_areLeast_37 : decode cL_areLeast 37 = .ok (.iload 6, 2) := by decide +kernel
theorem dL_areLeast_39 : decode cL_areLeast 39 = .ok (.if_icmp .ge 24, 3) := by decide +kernel
theorem dL_areLeast_42 : decode cL_areLeast 42 = .ok (.iload 7, 2) := by decide +kernel
theorem dL_areLeast_44 : decode cL_areLeast 44 = .ok (.aload_n 0, 1) := by decide +kernel
theorem dL_areLeast_45 : decode cL_areLeast 45 = .ok (.iload 4, 2) := by decide +kernel
theorem dL_areLeast_47 : decode cL_areLeast 47 = .ok (.iload 8, 2) := by decide +kernel
theorem dL_areLeast_49 : decode cL_areLeast 49 = .ok (.invokestatic 131, 3) := by decide +kernel
theorem dL_areLeast_52 : decode cL_areLeast 52 = .ok (.invokestatic 186, 3) := by decide +kernel
theorem dL_areLeast_55 : decode cL_areLeast 55 = .ok (.istore 7, 2) := by decide +kernel
theorem dL_areLeast_57 : decode cL_areLeast 57 = .ok (.iinc 8 1, 3) := by decide +kernel
theorem dL_areLeast_60 : decode cL_areLeast 60 = .ok (.goto (-25), 3) := by decide +kernel
theorem dL_areLeast_63 : decode cL_areLeast 63 = .ok (.iload_n 3, 1) := by decide +kernel
theorem dL_areLeast_64 : decode cL_areLeast 64 = .ok (.iload 6, 2) := by decide +kernel
theorem dL_areLeast_66 : decode cL_areLeast 66 = .ok (.ifCond .ge 18, 3) := by decide +kernel
theorem dL_areLeast_69 : decode cL_areLeast 69 = .ok (.iload 5, 2) := by decide +kernel
theorem dL_areLeast_71 : decode cL_areLeast 71 = .ok (.bipush (-79), 2) := by decide +kernel
theorem dL_areLeast_73 : decode cL_areLeast 73 = .ok (.if_icmp .ne 7, 3) := by decide +kernel
theorem dL_areLeast_76 : decode cL_areLeast 76 = .ok (.iconst 1, 1) := by decide +kernel
theorem dL_areLeast_77 : decode cL_areLeast 77 = .ok (.goto 69, 3) := by decide +kernel
theorem dL_areLeast_80 : decode cL_areLeast 80 = .ok (.iconst 0, 1) := by decide +kernel
theorem dL_areLeast_81 : decode cL_areLeast 81 = .ok (.goto 65, 3) := by decide +kernel
theorem dL_areLeast_84 : decode cL_areLeast 84 = .ok (.iload 5, 2) := by decide +kernel
theorem dL_areLeast_86 : decode cL_areLeast 86 = .ok (.iload 7, 2) := by decide +kernel
theorem dL_areLeast_88 : decode cL_areLeast 88 = .ok (.if_icmp .lt 57, 3) := by decide +kernel
theorem dL_areLeast_91 : decode cL_areLeast 91 = .ok (.iload 5, 2) := by decide +kernel
theorem dL_areLeast_93 : decode cL_areLeast 93 = .ok (.bipush 15, 2) := by decide +kernel
theorem dL_areLeast_95 : decode cL_areLeast 95 = .ok (.bipush 40, 2) := by decide +kernel
theorem dL_areLeast_97 : decode cL_areLeast 97 = .ok (.iload 6, 2) := by decide +kernel
theorem dL_areLeast_99 : decode cL_areLeast 99 = .ok (.imul, 1) := by decide +kernel
theorem dL_areLeast_100 : decode cL_areLeast 100 = .ok (.iadd, 1) := by decide +kernel
theorem dL_areLeast_101 : decode cL_areLeast 101 = .ok (.if_icmp .gt 44, 3) := by decide +kernel
theorem dL_areLeast_104 : decode cL_areLeast 104 = .ok (.iload 5, 2) := by decide +kernel
theorem dL_areLeast_106 : decode cL_areLeast 106 = .ok (.ifCond .lt 39, 3) := by decide +kernel
theorem dL_areLeast_109 : decode cL_areLeast 109 = .ok (.iload 6, 2) := by decide +kernel
theorem dL_areLeast_111 : decode cL_areLeast 111 = .ok (.bipush 6, 2) := by decide +kernel
theorem dL_areLeast_113 : decode cL_areLeast 113 = .ok (.if_icmp .le 17, 3) := by decide +kernel
theorem dL_areLeast_116 : decode cL_areLeast 116 = .ok (.aload_n 0, 1) := by decide +kernel
theorem dL_areLeast_117 : decode cL_areLeast 117 = .ok (.iload 4, 2) := by decide +kernel
theorem dL_areLeast_119 : decode cL_areLeast 119 = .ok (.invokestatic 191, 3) := by decide +kernel
theorem dL_areLeast_122 : decode cL_areLeast 122 = .ok (.bipush (-76), 2) := by decide +kernel
theorem dL_areLeast_124 : decode cL_areLeast 124 = .ok (.if_icmp .ne 21, 3) := by decide +kernel
theorem dL_areLeast_127 : decode cL_areLeast 127 = .ok (.goto 14, 3) := by decide +kernel
theorem dL_areLeast_130 : decode cL_areLeast 130 = .ok (.aload_n 0, 1) := by decide +kernel
theorem dL_areLeast_131 : decode cL_areLeast 131 = .ok (.iload 4, 2) := by decide +kernel
theorem dL_areLeast_133 : decode cL_areLeast 133 = .ok (.invokestatic 191, 3) := by decide +kernel
theorem dL_areLeast_136 : decode cL_areLeast 136 = .ok (.iload 5, 2) := by decide +kernel
theorem dL_areLeast_138 : decode cL_areLeast 138 = .ok (.if_icmp .ne 7, 3) := by decide +kernel
theorem dL_areLeast_141 : decode cL_areLeast 141 = .ok (.iconst 1, 1) := by decide +kernel
theorem dL_areLeast_142 : decode cL_areLeast 142 = .ok (.goto 4, 3) := by decide +kernel
theorem dL_areLeast_145 : decode cL_areLeast 145 = .ok (.iconst 0, 1) := by decide +kernel
theorem dL_areLeast_146 : decode cL_areLeast 146 = .ok (.iand, 1) := by decide +kernel
theorem dL_areLeast_147 : decode cL_areLeast 147 = .ok (.istore_n 3, 1) := by decide +kernel
theorem dL_areLeast_148 : decode cL_areLeast 148 = .ok (.iinc 4 1, 3) := by decide +kernel
theorem dL_areLeast_151 : decode cL_areLeast 151 = .ok (.goto (-146), 3) := by decide +kernel
theorem dL_areLeast_154 : decode cL_areLeast 154 = .ok (.iload_n 3, 1) := by decide +kernel
theorem dL_areLeast_155 : decode cL_areLeast 155 = .ok (.ireturn, 1) := by decide +kernel
