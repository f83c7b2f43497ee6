theorem dX7_addPage_46 : decode cX7_addPage 46 = .ok (.iconst 2, 1) := by decide +kernel
theorem dX7_addPage_47 : decode cX7_addPage 47 = .ok (.invokevirtual 101, 3) := by decide +kernel
theorem dX7_addPage_50 : decode cX7_addPage 50 = .ok (.ireturn, 1) := by decide +kernel
theorem dX7_addPage_51 : decode cX7_addPage 51 = .ok (.aload_n 0, 1) := by decide +kernel
theorem dX7_addPage_52 : decode cX7_addPage 52 = .ok (.iconst 0, 1) := by decide +kernel
theorem dX7_addPage_53 : decode cX7_addPage 53 = .ok (.putfield 53, 3) := by decide +kernel
theorem dX7_addPage_56 : decode cX7_addPage 56 = .ok (.iconst 0, 1) := by decide +kernel
theorem dX7_addPage_57 : decode cX7_addPage 57 = .ok (.istore_n 3, 1) := by decide +kernel
theorem dX7_addPage_58 : decode cX7_addPage 58 = .ok (.iload_n 3, 1) := by decide +kernel
theorem dX7_addPage_59 : decode cX7_addPage 59 = .ok (.bipush 8, 2) := by decide +kernel
theorem dX7_addPage_61 : decode cX7_addPage 61 = .ok (.if_icmp .ge 16, 3) := by decide +kernel
theorem dX7_addPage_64 : decode cX7_addPage 64 = .ok (.aload_n 0, 1) := by decide +kernel
theorem dX7_addPage_65 : decode cX7_addPage 65 = .ok (.iload_n 1, 1) := by decide +kernel
theorem dX7_addPage_66 : decode cX7_addPage 66 = .ok (.iload_n 3, 1) := by decide +kernel
theorem dX7_addPage_67 : decode cX7_addPage 67 = .ok (.invokevirtual 110, 3) := by decide +kernel
theorem dX7_addPage_70 : decode cX7_addPage 70 = .ok (.pop, 1) := by decide +kernel
theorem dX7_addPage_71 : decode cX7_addPage 71 = .ok (.iinc 3 1, 3) := by decide +kernel
theorem dX7_addPage_74 : decode cX7_addPage 74 = .ok (.goto (-16), 3) := by decide +kernel
theorem dX7_addPage_77 : decode cX7_addPage 77 = .ok (.aload_n 0, 1) := by decide +kernel
theorem dX7_addPage_78 : decode cX7_addPage 78 = .ok (.getfield 19, 3) := by decide +kernel
theorem dX7_addPage_81 : decode cX7_addPage 81 = .ok (.bipush 16, 2) := by decide +kernel
theorem dX7_addPage_83 : decode cX7_addPage 83 = .ok (.iload_n 1, 1) := by decide +kernel
theorem dX7_addPage_84 : decode cX7_addPage 84 = .ok (.imul, 1) := by decide +kernel
theorem dX7_addPage_85 : decode cX7_addPage 85 = .ok (.aload_n 0, 1) := by decide +kernel
theorem dX7_addPage_86 : decode cX7_addPage 86 = .ok (.getfield 16, 3) := by decide +kernel
theorem dX7_addPage_89 : decode cX7_addPage 89 = .ok (.iload_n 1, 1) := by decide +kernel
theorem dX7_addPage_90 : decode cX7_addPage 90 = .ok (.iaload, 1) := by decide +kernel
theorem dX7_addPage_91 : decode cX7_addPage 91 = .ok (.iadd, 1) := by decide +kernel
theorem dX7_addPage_92 : decode cX7_addPage 92 = .ok (.iload_n 2, 1) := by decide +kernel
theorem dX7_addPage_93 : decode cX7_addPage 93 = .ok (.iastore, 1) := by decide +kernel
theorem dX7_addPage_94 : decode cX7_addPage 94 = .ok (.aload_n 0, 1) := by decide +kernel
theorem dX7_addPage_95 : decode cX7_addPage 95 = .ok (.getfield 16, 3) := by decide +kernel
theorem dX7_addPage_98 : decode cX7_addPage 98 = .ok (.iload_n 1, 1) := by decide +kernel
theorem dX7_addPage_99 : decode cX7_addPage 99 = .ok (.dup2, 1) := by decide +kernel
theorem dX7_addPage_100 : decode cX7_addPage 100 = .ok (.iaload, 1) := by decide +kernel
theorem dX7_addPage_101 : decode cX7_addPage 101 = .ok (.iconst 1, 1) := by decide +kernel
theorem dX7_addPage_102 : decode cX7_addPage 102 = .ok (.iadd, 1) := by decide +kernel
theorem dX7_addPage_103 : decode cX7_addPage 103 = .ok (.iastore, 1) := by decide +kernel
theorem dX7_addPage_104 : decode cX7_addPage 104 = .ok (.aload_n 0, 1) := by decide +kernel
theorem dX7_addPage_105 : decode cX7_addPage 105 = .ok (.getfield 16, 3) := by decide +kernel
theorem dX7_addPage_108 : decode cX7_addPage 108 = .ok (.iload_n 1, 1) := by decide +kernel
theorem dX7_addPage_109 : decode cX7_addPage 109 = .ok (.iaload, 1) := by decide +kernel
theorem dX7_addPage_110 : decode cX7_addPage 110 = .ok (.ireturn, 1) := by decide +kernel
theorem dX7_pages_0 : decode cX7_pages 0 = .ok (.iload_n 1, 1) := by decide +kernel
theorem dX7_pages_1 : decode cX7_pages 1 = .ok (.iconst 0, 1) := by decide +kernel
theorem dX7_pages_2 : decode cX7_pages 2 = .ok (.aload_n 0, 1) := by decide +kernel
theorem dX7_pages_3 : decode cX7_pages 3 = .ok (.getfield 68, 3) := by decide +kernel
theorem dX7_pages_6 : decode cX7_pages 6 = .ok (.iconst 1, 1) := by decide +kernel
theorem dX7_pages_7 : decode cX7_pages 7 = .ok (.isub, 1) := by decide +kernel
theorem dX7_pages_8 : decode cX7_pages 8 = .ok (.invokestatic 60, 3) := by decide +kernel
theorem dX7_pages_11 : decode cX7_pages 11 = .ok (.ifCond .ne 9, 3) := by decide +kernel
theorem dX7_pages_14 : decode cX7_pages 14 = .ok (.aload_n 0, 1) := by decide +kernel
theorem dX7_pages_15 : decode cX7_pages 15 = .ok (.iconst 1, 1) := by decide +kernel
theorem dX7_pages_16 : decode cX7_pages 16 = .ok (.invokevirtual 101, 3) := by decide +kernel
theorem dX7_pages_19 : decode cX7_pages 19 = .ok (.ireturn, 1) := by decide +kernel
theorem dX7_pages_20 : decode cX7_pages 20 = .ok (.aload_n 0, 1) := by decide +kernel
theorem dX7_pages_21 : decode cX7_pages 21 = .ok (.iconst 0, 1) := by decide +kernel
theorem dX7_pages_22 : decode cX7_pages 22 = .ok (.putfield 53, 3) := by decide +kernel
theorem dX7_pages_25 : decode cX7_pages 25 = .ok (.aload_n 0, 1) := by decide +kernel
theorem dX7_pages_26 : decode cX7_pages 26 = .ok (.getfield 16, 3) := by decide +kernel
theorem dX7_pages_29 : decode cX7_pages 29 = .ok (.iload_n 1, 1) := by decide +kernel
theorem dX7_pages_30 : decode cX7_pages 30 = .ok (.iaload, 1) := by decide +kernel
theorem dX7_pages_31 : decode cX7_pages 31 = .ok (.ireturn, 1) := by decide +kernel
theorem dX7_sheets_0 : decode cX7_sheets 0 = .ok (.aload_n 0, 1) := by decide +kernel
theorem dX7_sheets_1 : decode cX7_sheets 1 = .ok (.iload_n 1, 1) := by decide +kernel
theorem dX7_sheets_2 : decode cX7_sheets 2 = .ok (.invokevirtual 75, 3) := by decide +kernel
theorem dX7_sheets_5 : decode cX7_sheets 5 = .ok (.ifCond .eq 11, 3) := by decide +kernel
theorem dX7_sheets_8 : decode cX7_sheets 8 = .ok (.aload_n 0, 1) := by decide +kernel
theorem dX7_sheets_9 : decode cX7_sheets 9 = .ok (.iload_n 1, 1) := by decide +kernel
theorem dX7_sheets_10 : decode cX7_sheets 10 = .ok (.invokevirtual 78, 3) := by decide +kernel
theorem dX7_sheets_13 : decode cX7_sheets 13 = .ok (.goto 4, 3) := by decide +kernel
theorem dX7_sheets_16 : decode cX7_sheets 16 = .ok (.iconst 0, 1) := by decide +kernel
theorem dX7_sheets_17 : decode cX7_sheets 17 = .ok (.ireturn, 1) := by decide +kernel
theorem dX7_pageAt_0 : decode cX7_pageAt 0 = .ok (.aload_n 0, 1) := by decide +kernel
theorem dX7_pageAt_1 : decode cX7_pageAt 1 = .ok (.iload_n 1, 1) := by decide +kernel
theorem dX7_pageAt_2 : decode cX7_pageAt 2 = .ok (.iload_n 2, 1) := by decide +kernel
theorem dX7_pageAt_3 : decode cX7_pageAt 3 = .ok (.invokevirtual 114, 3) := by decide +kernel
theorem dX7_pageAt_6 : decode cX7_pageAt 6 = .ok (.ifCond .ne 5, 3) := by decide +kernel
theorem dX7_pageAt_9 : decode cX7_pageAt 9 = .ok (.iconst 0, 1) := by decide +kernel
theorem dX7_pageAt_10 : decode cX7_pageAt 10 = .ok (.ireturn, 1) := by decide +kernel
theorem dX7_pageAt_11 : decode cX7_pageAt 11 = .ok (.iload_n 3, 1) := by decide +kernel
theorem dX7_pageAt_12 : decode cX7_pageAt 12 = .ok (.iconst 0, 1) := by decide +kernel
theorem dX7_pageAt_13 : decode cX7_pageAt 13 = .ok (.aload_n 0, 1) := by decide +kernel
theorem dX7_pageAt_14 : decode cX7_pageAt 14 = .ok (.iload_n 1, 1) := by decide +kernel
theorem dX7_pageAt_15 : decode cX7_pageAt 15 = .ok (.invokevirtual 64, 3) := by decide +kernel
theorem dX7_pageAt_18 : decode cX7_pageAt 18 = .ok (.iconst 1, 1) := by decide +kernel
theorem dX7_pageAt_19 : decode cX7_pageAt 19 = .ok (.isub, 1) := by decide +kernel
theorem dX7_pageAt_20 : decode cX7_pageAt 20 = .ok (.invokestatic 60, 3) := by decide +kernel
theorem dX7_pageAt_23 : decode cX7_pageAt 23 = .ok (.ifCond .eq 13, 3) := by decide +kernel
theorem dX7_pageAt_26 : decode cX7_pageAt 26 = .ok (.aload_n 0, 1) := by decide +kernel
theorem dX7_pageAt_27 : decode cX7_pageAt 27 = .ok (.iload_n 1, 1) := by decide +kernel
theorem dX7_pageAt_28 : decode cX7_pageAt 28 = .ok (.iload_n 2, 1) := by decide +kernel
theorem dX7_pageAt_29 : decode cX7_pageAt 29 = .ok (.iload_n 3, 1) := by decide +kernel
theorem dX7_pageAt_30 : decode cX7_pageAt 30 = .ok (.invokevirtual 81, 3) := by decide +kernel
theorem dX7_pageAt_33 : decode cX7_pageAt 33 = .ok (.goto 8, 3) := by decide +kernel
theorem dX7_pageAt_36 : decode cX7_pageAt 36 = .ok (.aload_n 0, 1) := by decide +kernel
theorem dX7_pageAt_37 : decode cX7_pageAt 37 = .ok (.iconst 3, 1) := by decide +kernel
theorem dX7_pageAt_38 : decode cX7_pageAt 38 = .ok (.invokevirtual 101, 3) := by decide +kernel
theorem dX7_pageAt_41 : decode cX7_pageAt 41 = .ok (.ireturn, 1) := by decide +kernel
theorem dX7_sheetOf_0 : decode cX7_sheetOf 0 = .ok (.aload_n 0, 1) := by decide +kernel
theorem dX7_sheetOf_1 : decode cX7_sheetOf 1 = .ok (.iload_n 1, 1) := by decide +kernel
theorem dX7_sheetOf_2 : decode cX7_sheetOf 2 = .ok (.invokevirtual 75, 3) := by decide +kernel
theorem dX7_sheetOf_5 : decode cX7_sheetOf 5 = .ok (.ifCond .ne 5, 3) := by decide +kernel
theorem dX7_sheetOf_8 : decode cX7_sheetOf 8 = .ok (.iconst 0, 1) := by decide +kernel
theorem dX7_sheetOf_9 : decode cX7_sheetOf 9 = .ok (.ireturn, 1) := by decide +kernel
theorem dX7_sheetOf_10 : decode cX7_sheetOf 10 = .ok (.iconst 0, 1) := by decide +kernel
theorem dX7_sheetOf_11 : decode cX7_sheetOf 11 = .ok (.istore_n 3, 1) := by decide +kernel
theorem dX7_sheetOf_12 : decode cX7_sheetOf 12 = .ok (.iload_n 3, 1) := by decide +kernel
theorem dX7_sheetOf_13 : decode cX7_sheetOf 13 = .ok (.aload_n 0, 1) := by decide +kernel
theorem dX7_sheetOf_14 : decode cX7_sheetOf 14 = .ok (.iload_n 1, 1) := by decide +kernel
theorem dX7_sheetOf_15 : decode cX7_sheetOf 15 = .ok (.invokevirtual 78, 3) := by decide +kernel
theorem dX7_sheetOf_18 : decode cX7_sheetOf 18 = .ok (.if_icmp .ge 42, 3) := by decide +kernel
theorem dX7_sheetOf_21 : decode cX7_sheetOf 21 = .ok (.iconst 0, 1) := by decide +kernel
theorem dX7_sheetOf_22 : decode cX7_sheetOf 22 = .ok (.istore 4, 2) := by decide +kernel
theorem dX7_sheetOf_24 : decode cX7_sheetOf 24 = .ok (.iload 4, 2) := by decide +kernel
theorem dX7_sheetOf_26 : decode cX7_sheetOf 26 = .ok (.aload_n 0, 1) := by decide +kernel
theorem dX7_sheetOf_27 : decode cX7_sheetOf 27 = .ok (.iload_n 1, 1) := by decide +kernel
theorem dX7_sheetOf_28 : decode cX7_sheetOf 28 = .ok (.invokevirtual 64, 3) := by decide +kernel
theorem dX7_sheetOf_31 : decode cX7_sheetOf 31 = .ok (.if_icmp .ge 23, 3) := by decide +kernel
theorem dX7_sheetOf_34 : decode cX7_sheetOf 34 = .ok (.aload_n 0, 1) := by decide +kernel
theorem dX7_sheetOf_35 : decode cX7_sheetOf 35 = .ok (.iload_n 1, 1) := by decide +kernel
theorem dX7_sheetOf_36 : decode cX7_sheetOf 36 = .ok (.iload_n 3, 1) := by decide +kernel
theorem dX7_sheetOf_37 : decode cX7_sheetOf 37 = .ok (.iload 4, 2) := by decide +kernel
theorem dX7_sheetOf_39 : decode cX7_sheetOf 39 = .ok (.invokevirtual 81, 3) := by decide +kernel
theorem dX7_sheetOf_42 : decode cX7_sheetOf 42 = .ok (.iload_n 2, 1) := by decide +kernel
theorem dX7_sheetOf_43 : decode cX7_sheetOf 43 = .ok (.if_icmp .ne 5, 3) := by decide +kernel
theorem dX7_sheetOf_46 : decode cX7_sheetOf 46 = .ok (.iload_n 3, 1) := by decide +kernel
theorem dX7_sheetOf_47 : decode cX7_sheetOf 47 = .ok (.ireturn, 1) := by decide +kernel
theorem dX7_sheetOf_48 : decode cX7_sheetOf 48 = .ok (.iinc 4 1, 3) := by decide +kernel
theorem dX7_sheetOf_51 : decode cX7_sheetOf 51 = .ok (.goto (-27), 3) := by decide +kernel
theorem dX7_sheetOf_54 : decode cX7_sheetOf 54 = .ok (.iinc 3 1, 3) := by decide +kernel
theorem dX7_sheetOf_57 : decode cX7_sheetOf 57 = .ok (.goto (-45), 3) := by decide +kernel
theorem dX7_sheetOf_60 : decode cX7_sheetOf 60 = .ok (.aload_n 0, 1) := by decide +kernel
theorem dX7_sheetOf_61 : decode cX7_sheetOf 61 = .ok (.iconst 3, 1) := by decide +kernel
theorem dX7_sheetOf_62 : decode cX7_sheetOf 62 = .ok (.invokevirtual 101, 3) := by decide +kernel
theorem dX7_sheetOf_65 : decode cX7_sheetOf 65 = .ok (.ireturn, 1) := by decide +kernel
theorem dX7_ready_0 : decode cX7_ready 0 = .ok (.aload_n 0, 1) := by decide +kernel
theorem dX7_ready_1 : decode cX7_ready 1 = .ok (.iload_n 1, 1) := by decide +kernel
theorem dX7_ready_2 : decode cX7_ready 2 = .ok (.iload_n 2, 1) := by decide +kernel
theorem dX7_ready_3 : decode cX7_ready 3 = .ok (.iconst 1, 1) := by decide +kernel
theorem dX7_ready_4 : decode cX7_ready 4 = .ok (.invokevirtual 118, 3) := by decide +kernel
theorem dX7_ready_7 : decode cX7_ready 7 = .ok (.aload_n 0, 1) := by decide +kernel
theorem dX7_ready_8 : decode cX7_ready 8 = .ok (.getfield 122, 3) := by decide +kernel
theorem dX7_ready_11 : decode cX7_ready 11 = .ok (.if_icmp .ne 7, 3) := by decide +kernel
theorem dX7_ready_14 : decode cX7_ready 14 = .ok (.iconst 0, 1) := by decide +kernel
theorem dX7_ready_15 : decode cX7_ready 15 = .ok (.goto 5, 3) := by decide +kernel
theorem dX7_ready_18 : decode cX7_ready 18 = .ok (.bipush 20, 2) := by decide +kernel
theorem dX7_ready_20 : decode cX7_ready 20 = .ok (.aload_n 0, 1) := by decide +kernel
theorem dX7_ready_21 : decode cX7_ready 21 = .ok (.iload_n 1, 1) := by decide +kernel
theorem dX7_ready_22 : decode cX7_ready 22 = .ok (.iload_n 2, 1) := by decide +kernel
theorem dX7_ready_23 : decode cX7_ready 23 = .ok (.iconst 0, 1) := by decide +kernel
theorem dX7_ready_24 : decode cX7_ready 24 = .ok (.invokevirtual 118, 3) := by decide +kernel
theorem dX7_ready_27 : decode cX7_ready 27 = .ok (.aload_n 0, 1) := by decide +kernel
theorem dX7_ready_28 : decode cX7_ready 28 = .ok (.getfield 125, 3) := by decide +kernel
theorem dX7_ready_31 : decode cX7_ready 31 = .ok (.if_icmp .ne 7, 3) := by decide +kernel
theorem dX7_ready_34 : decode cX7_ready 34 = .ok (.iconst 0, 1) := by decide +kernel
theorem dX7_ready_35 : decode cX7_ready 35 = .ok (.goto 5, 3) := by decide +kernel
theorem dX7_ready_38 : decode cX7_ready 38 = .ok (.bipush 20, 2) := by decide +kernel
theorem dX7_ready_40 : decode cX7_ready 40 = .ok (.iadd, 1) := by decide +kernel
theorem dX7_ready_41 : decode cX7_ready 41 = .ok (.aload_n 0, 1) := by decide +kernel
theorem dX7_ready_42 : decode cX7_ready 42 = .ok (.getfield 13, 3) := by decide +kernel
theorem dX7_ready_45 : decode cX7_ready 45 = .ok (.iload_n 1, 1) := by decide +kernel
theorem dX7_ready_46 : decode cX7_ready 46 = .ok (.iaload, 1) := by decide +kernel
theorem dX7_ready_47 : decode cX7_ready 47 = .ok (.aload_n 0, 1) := by decide +kernel
theorem dX7_ready_48 : decode cX7_ready 48 = .ok (.getfield 128, 3) := by decide +kernel
theorem dX7_ready_51 : decode cX7_ready 51 = .ok (.if_icmp .ne 7, 3) := by decide +kernel
theorem dX7_ready_54 : decode cX7_ready 54 = .ok (.iconst 0, 1) := by decide +kernel
theorem dX7_ready_55 : decode cX7_ready 55 = .ok (.goto 5, 3) := by decide +kernel
theorem dX7_ready_58 : decode cX7_ready 58 = .ok (.bipush 15, 2) := by decide +kernel
theorem dX7_ready_60 : decode cX7_ready 60 = .ok (.iadd, 1) := by decide +kernel
theorem dX7_ready_61 : decode cX7_ready 61 = .ok (.ireturn, 1) := by decide +kernel
theorem dX7_print_0 : decode cX7_print 0 = .ok (.aload_n 0, 1) := by decide +kernel
theorem dX7_print_1 : decode cX7_print 1 = .ok (.iload_n 1, 1) := by decide +kernel
theorem dX7_print_2 : decode cX7_print 2 = .ok (.iload_n 2, 1) := by decide +kernel
theorem dX7_print_3 : decode cX7_print 3 = .ok (.invokevirtual 114, 3) := by decide +kernel
theorem dX7_print_6 : decode cX7_print 6 = .ok (.ifCond .ne 5, 3) := by decide +kernel
theorem dX7_print_9 : decode cX7_print 9 = .ok (.iconst 0, 1) := by decide +kernel
theorem dX7_print_10 : decode cX7_print 10 = .ok (.ireturn, 1) := by decide +kernel
theorem dX7_print_11 : decode cX7_print 11 = .ok (.iload_n 3, 1) := by decide +kernel
theorem dX7_print_12 : decode cX7_print 12 = .ok (.iconst 1, 1) := by decide +kernel
theorem dX7_print_13 : decode cX7_print 13 = .ok (.sipush 500, 3) := by decide +kernel
theorem dX7_print_16 : decode cX7_print 16 = .ok (.invokestatic 60, 3) := by decide +kernel
theorem dX7_print_19 : decode cX7_print 19 = .ok (.ifCond .ne 9, 3) := by decide +kernel
theorem dX7_print_22 : decode cX7_print 22 = .ok (.aload_n 0, 1) := by decide +kernel
theorem dX7_print_23 : decode cX7_print 23 = .ok (.iconst 4, 1) := by decide +kernel
theorem dX7_print_24 : decode cX7_print 24 = .ok (.invokevirtual 101, 3) := by decide +kernel
theorem dX7_print_27 : decode cX7_print 27 = .ok (.ireturn, 1) := by decide +kernel
theorem dX7_print_28 : decode cX7_print 28 = .ok (.aload_n 0, 1) := by decide +kernel
theorem dX7_print_29 : decode cX7_print 29 = .ok (.getfield 22, 3) := by decide +kernel
theorem dX7_print_32 : decode cX7_print 32 = .ok (.bipush 8, 2) := by decide +kernel
theorem dX7_print_34 : decode cX7_print 34 = .ok (.iload_n 1, 1) := by decide +kernel
theorem dX7_print_35 : decode cX7_print 35 = .ok (.imul, 1) := by decide +kernel
theorem dX7_print_36 : decode cX7_print 36 = .ok (.iload_n 2, 1) := by decide +kernel
theorem dX7_print_37 : decode cX7_print 37 = .ok (.iadd, 1) := by decide +kernel
theorem dX7_print_38 : decode cX7_print 38 = .ok (.iaload, 1) := by decide +kernel
theorem dX7_print_39 : decode cX7_print 39 = .ok (.iload_n 3, 1) := by decide +kernel
theorem dX7_print_40 : decode cX7_print 40 = .ok (.iadd, 1) := by decide +kernel
theorem dX7_print_41 : decode cX7_print 41 = .ok (.sipush 9999, 3) := by decide +kernel
theorem dX7_print_44 : decode cX7_print 44 = .ok (.if_icmp .gt 7, 3) := by decide +kernel
theorem dX7_print_47 : decode cX7_print 47 = .ok (.iconst 1, 1) := by decide +kernel
theorem dX7_print_48 : decode cX7_print 48 = .ok (.goto 4, 3) := by decide +kernel
theorem dX7_print_51 : decode cX7_print 51 = .ok (.iconst 0, 1) := by decide +kernel
theorem dX7_print_52 : decode cX7_print 52 = .ok (.istore 4, 2) := by decide +kernel
theorem dX7_print_54 : decode cX7_print 54 = .ok (.iconst 0, 1) := by decide +kernel
theorem dX7_print_55 : decode cX7_print 55 = .ok (.istore 5, 2) := by decide +kernel
theorem dX7_print_57 : decode cX7_print 57 = .ok (.iload 5, 2) := by decide +kernel
theorem dX7_print_59 : decode cX7_print 59 = .ok (.aload_n 0, 1) := by decide +kernel
theorem dX7_print_60 : decode cX7_print 60 = .ok (.iload_n 1, 1) := by decide +kernel
theorem dX7_print_61 : decode cX7_print 61 = .ok (.invokevirtual 64, 3) := by decide +kernel
theorem dX7_print_64 : decode cX7_print 64 = .ok (.if_icmp .ge 37, 3) := by decide +kernel
theorem dX7_print_67 : decode cX7_print 67 = .ok (.iload 4, 2) := by decide +kernel
theorem dX7_print_69 : decode cX7_print 69 = .ok (.ifCond .eq 23, 3) := by decide +kernel
theorem dX7_print_72 : decode cX7_print 72 = .ok (.aload_n 0, 1) := by decide +kernel
theorem dX7_print_73 : decode cX7_print 73 = .ok (.getfield 25, 3) := by decide +kernel
theorem dX7_print_76 : decode cX7_print 76 = .ok (.aload_n 0, 1) := by decide +kernel
theorem dX7_print_77 : decode cX7_print 77 = .ok (.iload_n 1, 1) := by decide +kernel
theorem dX7_print_78 : decode cX7_print 78 = .ok (.iload_n 2, 1) := by decide +kernel
theorem dX7_print_79 : decode cX7_print 79 = .ok (.iload 5, 2) := by decide +kernel
theorem dX7_print_81 : decode cX7_print 81 = .ok (.invokevirtual 85, 3) := by decide +kernel
theorem dX7_print_84 : decode cX7_print 84 = .ok (.baload, 1) := by decide +kernel
theorem dX7_print_85 : decode cX7_print 85 = .ok (.ifCond .eq 7, 3) := by decide +kernel
theorem dX7_print_88 : decode cX7_print 88 = .ok (.iconst 1, 1) := by decide +kernel
theorem dX7_print_89 : decode cX7_print 89 = .ok (.goto 4, 3) := by decide +kernel
theorem dX7_print_92 : decode cX7_print 92 = .ok (.iconst 0, 1) := by decide +kernel
theorem dX7_print_93 : decode cX7_print 93 = .ok (.istore 4, 2) := by decide +kernel
theorem dX7_print_95 : decode cX7_print 95 = .ok (.iinc 5 1, 3) := by decide +kernel
theorem dX7_print_98 : decode cX7_print 98 = .ok (.goto (-41), 3) := by decide +kernel
theorem dX7_print_101 : decode cX7_print 101 = .ok (.iload 4, 2) := by decide +kernel
theorem dX7_print_103 : decode cX7_print 103 = .ok (.ifCond .ne 9, 3) := by decide +kernel
theorem dX7_print_106 : decode cX7_print 106 = .ok (.aload_n 0, 1) := by decide +kernel
theorem dX7_print_107 : decode cX7_print 107 = .ok (.iconst 5, 1) := by decide +kernel
theorem dX7_print_108 : decode cX7_print 108 = .ok (.invokevirtual 101, 3) := by decide +kernel
theorem dX7_print_111 : decode cX7_print 111 = .ok (.ireturn, 1) := by decide +kernel
theorem dX7_print_112 : decode cX7_print 112 = .ok (.aload_n 0, 1) := by decide +kernel
theorem dX7_print_113 : decode cX7_print 113 = .ok (.iload_n 1, 1) := by decide +kernel
theorem dX7_print_114 : decode cX7_print 114 = .ok (.iload_n 2, 1) := by decide +kernel
theorem dX7_print_115 : decode cX7_print 115 = .ok (.invokevirtual 131, 3) := by decide +kernel
theorem dX7_print_118 : decode cX7_print 118 = .ok (.istore 5, 2) := by decide +kernel
theorem dX7_print_120 : decode cX7_print 120 = .ok (.aload_n 0, 1) := by decide +kernel
theorem dX7_print_121 : decode cX7_print 121 = .ok (.aload_n 0, 1) := by decide +kernel
theorem dX7_print_122 : decode cX7_print 122 = .ok (.iload_n 1, 1) := by decide +kernel
theorem dX7_print_123 : decode cX7_print 123 = .ok (.iload_n 2, 1) := by decide +kernel
theorem dX7_print_124 : decode cX7_print 124 = .ok (.iconst 1, 1) := by decide +kernel
theorem dX7_print_125 : decode cX7_print 125 = .ok (.invokevirtual 118, 3) := by decide +kernel
theorem dX7_print_128 : decode cX7_print 128 = .ok (.putfield 122, 3) := by decide +kernel
theorem dX7_print_131 : decode cX7_print 131 = .ok (.aload_n 0, 1) := by decide +kernel
theorem dX7_print_132 : decode cX7_print 132 = .ok (.aload_n 0, 1) := by decide +kernel
theorem dX7_print_133 : decode cX7_print 133 = .ok (.iload_n 1, 1) := by decide +kernel
theorem dX7_print_134 : decode cX7_print 134 = .ok (.iload_n 2, 1) := by decide +kernel
theorem dX7_print_135 : decode cX7_print 135 = .ok (.iconst 0, 1) := by decide +kernel
theorem dX7_print_136 : decode cX7_print 136 = .ok (.invokevirtual 118, 3) := by decide +kernel
theorem dX7_print_139 : decode cX7_print 139 = .ok (.putfield 125, 3) := by decide +kernel
theorem dX7_print_142 : decode cX7_print 142 = .ok (.aload_n 0, 1) := by decide +kernel
theorem dX7_print_143 : decode cX7_print 143 = .ok (.aload_n 0, 1) := by decide +kernel
theorem dX7_print_144 : decode cX7_print 144 = .ok (.getfield 13, 3) := by decide +kernel
theorem dX7_print_147 : decode cX7_print 147 = .ok (.iload_n 1, 1) := by decide +kernel
theorem dX7_print_148 : decode cX7_print 148 = .ok (.iaload, 1) := by decide +kernel
theorem dX7_print_149 : decode cX7_print 149 = .ok (.putfield 128, 3) := by decide +kernel
theorem dX7_print_152 : decode cX7_print 152 = .ok (.aload_n 0, 1) := by decide +kernel
theorem dX7_print_153 : decode cX7_print 153 = .ok (.aload_n 0, 1) := by decide +kernel
theorem dX7_print_154 : decode cX7_print 154 = .ok (.getfield 122, 3) := by decide +kernel
theorem dX7_print_157 : decode cX7_print 157 = .ok (.invokevirtual 134, 3) := by decide +kernel
theorem dX7_print_160 : decode cX7_print 160 = .ok (.aload_n 0, 1) := by decide +kernel
theorem dX7_print_161 : decode cX7_print 161 = .ok (.aload_n 0, 1) := by decide +kernel
theorem dX7_print_162 : decode cX7_print 162 = .ok (.getfield 125, 3) := by decide +kernel
theorem dX7_print_165 : decode cX7_print 165 = .ok (.invokevirtual 134, 3) := by decide +kernel
theorem dX7_print_168 : decode cX7_print 168 = .ok (.aload_n 0, 1) := by decide +kernel
theorem dX7_print_169 : decode cX7_print 169 = .ok (.getfield 22, 3) := by decide +kernel
theorem dX7_print_172 : decode cX7_print 172 = .ok (.bipush 8, 2) := by decide +kernel
theorem dX7_print_174 : decode cX7_print 174 = .ok (.iload_n 1, 1) := by decide +kernel
theorem dX7_print_175 : decode cX7_print 175 = .ok (.imul, 1) := by decide +kernel
theorem dX7_print_176 : decode cX7_print 176 = .ok (.iload_n 2, 1) := by decide +kernel
theorem dX7_print_177 : decode cX7_print 177 = .ok (.iadd, 1) := by decide +kernel
theorem dX7_print_178 : decode cX7_print 178 = .ok (.dup2, 1) := by decide +kernel
theorem dX7_print_179 : decode cX7_print 179 = .ok (.iaload, 1) := by decide +kernel
theorem dX7_print_180 : decode cX7_print 180 = .ok (.iload_n 3, 1) := by decide +kernel
theorem dX7_print_181 : decode cX7_print 181 = .ok (.iadd, 1) := by decide +kernel
theorem dX7_print_182 : decode cX7_print 182 = .ok (.iastore, 1) := by decide +kernel
theorem dX7_print_183 : decode cX7_print 183 = .ok (.aload_n 0, 1) := by decide +kernel
theorem dX7_print_184 : decode cX7_print 184 = .ok (.dup, 1) := by decide +kernel
theorem dX7_print_185 : decode cX7_print 185 = .ok (.getfield 138, 3) := by decide +kernel
theorem dX7_print_188 : decode cX7_print 188 = .ok (.iload_n 3, 1) := by decide +kernel
theorem dX7_print_189 : decode cX7_print 189 = .ok (.i2l, 1) := by decide +kernel
theorem dX7_print_190 : decode cX7_print 190 = .ok (.ladd, 1) := by decide +kernel
theorem dX7_print_191 : decode cX7_print 191 = .ok (.putfield 138, 3) := by decide +kernel
theorem dX7_print_194 : decode cX7_print 194 = .ok (.aload_n 0, 1) := by decide +kernel
theorem dX7_print_195 : decode cX7_print 195 = .ok (.dup, 1) := by decide +kernel
theorem dX7_print_196 : decode cX7_print 196 = .ok (.getfield 141, 3) := by decide +kernel
theorem dX7_print_199 : decode cX7_print 199 = .ok (.iconst 1, 1) := by decide +kernel
theorem dX7_print_200 : decode cX7_print 200 = .ok (.iadd, 1) := by decide +kernel
theorem dX7_print_201 : decode cX7_print 201 = .ok (.putfield 141, 3) := by decide +kernel
theorem dX7_print_204 : decode cX7_print 204 = .ok (.aload_n 0, 1) := by decide +kernel
theorem dX7_print_205 : decode cX7_print 205 = .ok (.dup, 1) := by decide +kernel
theorem dX7_print_206 : decode cX7_print 206 = .ok (.getfield 144, 3) := by decide +kernel
theorem dX7_print_209 : decode cX7_print 209 = .ok (.iload 5, 2) := by decide +kernel
theorem dX7_print_211 : decode cX7_print 211 = .ok (.iadd, 1) := by decide +kernel
theorem dX7_print_212 : decode cX7_print 212 = .ok (.putfield 144, 3) := by decide +kernel
theorem dX7_print_215 : decode cX7_print 215 = .ok (.iload 5, 2) := by decide +kernel
theorem dX7_print_217 : decode cX7_print 217 = .ok (.ireturn, 1) := by decide +kernel
theorem dX7_makeready_0 : decode cX7_makeready 0 = .ok (.aload_n 0, 1) := by decide +kernel
theorem dX7_makeready_1 : decode cX7_makeready 1 = .ok (.iload_n 1, 1) := by decide +kernel
theorem dX7_makeready_2 : decode cX7_makeready 2 = .ok (.iload_n 2, 1) := by decide +kernel
theorem dX7_makeready_3 : decode cX7_makeready 3 = .ok (.invokevirtual 114, 3) := by decide +kernel
theorem dX7_makeready_6 : decode cX7_makeready 6 = .ok (.ifCond .eq 12, 3) := by decide +kernel
theorem dX7_makeready_9 : decode cX7_makeready 9 = .ok (.aload_n 0, 1) := by decide +kernel
theorem dX7_makeready_10 : decode cX7_makeready 10 = .ok (.iload_n 1, 1) := by decide +kernel
theorem dX7_makeready_11 : decode cX7_makeready 11 = .ok (.iload_n 2, 1) := by decide +kernel
theorem dX7_makeready_12 : decode cX7_makeready 12 = .ok (.invokevirtual 131, 3) := by decide +kernel
theorem dX7_makeready_15 : decode cX7_makeready 15 = .ok (.goto 4, 3) := by decide +kernel
theorem dX7_makeready_18 : decode cX7_makeready 18 = .ok (.iconst 0, 1) := by decide +kernel
theorem dX7_makeready_19 : decode cX7_makeready 19 = .ok (.ireturn, 1) := by decide +kernel
theorem dX7_change_0 : decode cX7_change 0 = .ok (.aload_n 0, 1) := by decide +kernel
theorem dX7_change_1 : decode cX7_change 1 = .ok (.getfield 32, 3) := by decide +kernel
theorem dX7_change_4 : decode cX7_change 4 = .ok (.iload_n 1, 1) := by decide +kernel
theorem dX7_change_5 : decode cX7_change 5 = .ok (.iaload, 1) := by decide +kernel
theorem dX7_change_6 : decode cX7_change 6 = .ok (.aload_n 0, 1) := by decide +kernel
theorem dX7_change_7 : decode cX7_change 7 = .ok (.getfield 32, 3) := by decide +kernel
theorem dX7_change_10 : decode cX7_change 10 = .ok (.iload_n 2, 1) := by decide +kernel
theorem dX7_change_11 : decode cX7_change 11 = .ok (.iaload, 1) := by decide +kernel
theorem dX7_change_12 : decode cX7_change 12 = .ok (.if_icmp .ne 7, 3) := by decide +kernel
theorem dX7_change_15 : decode cX7_change 15 = .ok (.iconst 0, 1) := by decide +kernel
theorem dX7_change_16 : decode cX7_change 16 = .ok (.goto 5, 3) := by decide +kernel
theorem dX7_change_19 : decode cX7_change 19 = .ok (.bipush 20, 2) := by decide +kernel
theorem dX7_change_21 : decode cX7_change 21 = .ok (.aload_n 0, 1) := by decide +kernel
theorem dX7_change_22 : decode cX7_change 22 = .ok (.getfield 35, 3) := by decide +kernel
theorem dX7_change_25 : decode cX7_change 25 = .ok (.iload_n 1, 1) := by decide +kernel
theorem dX7_change_26 : decode cX7_change 26 = .ok (.iaload, 1) := by decide +kernel
theorem dX7_change_27 : decode cX7_change 27 = .ok (.aload_n 0, 1) := by decide +kernel
theorem dX7_change_28 : decode cX7_change 28 = .ok (.getfield 35, 3) := by decide +kernel
theorem dX7_change_31 : decode cX7_change 31 = .ok (.iload_n 2, 1) := by decide +kernel
theorem dX7_change_32 : decode cX7_change 32 = .ok (.iaload, 1) := by decide +kernel
theorem dX7_change_33 : decode cX7_change 33 = .ok (.if_icmp .ne 7, 3) := by decide +kernel
theorem dX7_change_36 : decode cX7_change 36 = .ok (.iconst 0, 1) := by decide +kernel
theorem dX7_change_37 : decode cX7_change 37 = .ok (.goto 5, 3) := by decide +kernel
theorem dX7_change_40 : decode cX7_change 40 = .ok (.bipush 20, 2) := by decide +kernel
theorem dX7_change_42 : decode cX7_change 42 = .ok (.iadd, 1) := by decide +kernel
theorem dX7_change_43 : decode cX7_change 43 = .ok (.ireturn, 1) := by decide +kernel
theorem dX7_least_0 : decode cX7_least 0 = .ok (.aload_n 0, 1) := by decide +kernel
theorem dX7_least_1 : decode cX7_least 1 = .ok (.iload_n 1, 1) := by decide +kernel
theorem dX7_least_2 : decode cX7_least 2 = .ok (.invokevirtual 78, 3) := by decide +kernel
theorem dX7_least_5 : decode cX7_least 5 = .ok (.istore_n 2, 1) := by decide +kernel
theorem dX7_least_6 : decode cX7_least 6 = .ok (.iconst 0, 1) := by decide +kernel
theorem dX7_least_7 : decode cX7_least 7 = .ok (.istore_n 3, 1) := by decide +kernel
theorem dX7_least_8 : decode cX7_least 8 = .ok (.iload_n 3, 1) := by decide +kernel
theorem dX7_least_9 : decode cX7_least 9 = .ok (.iload_n 2, 1) := by decide +kernel
theorem dX7_least_10 : decode cX7_least 10 = .ok (.if_icmp .ge 35, 3) := by decide +kernel
theorem dX7_least_13 : decode cX7_least 13 = .ok (.aload_n 0, 1) := by decide +kernel
theorem dX7_least_14 : decode cX7_least 14 = .ok (.getfield 32, 3) := by decide +kernel
theorem dX7_least_17 : decode cX7_least 17 = .ok (.iload_n 3, 1) := by decide +kernel
theorem dX7_least_18 : decode cX7_least 18 = .ok (.aload_n 0, 1) := by decide +kernel
theorem dX7_least_19 : decode cX7_least 19 = .ok (.iload_n 1, 1) := by decide +kernel
theorem dX7_least_20 : decode cX7_least 20 = .ok (.iload_n 3, 1) := by decide +kernel
theorem dX7_least_21 : decode cX7_least 21 = .ok (.iconst 1, 1) := by decide +kernel
theorem dX7_least_22 : decode cX7_least 22 = .ok (.invokevirtual 118, 3) := by decide +kernel
theorem dX7_least_25 : decode cX7_least 25 = .ok (.iastore, 1) := by decide +kernel
theorem dX7_least_26 : decode cX7_least 26 = .ok (.aload_n 0, 1) := by decide +kernel
theorem dX7_least_27 : decode cX7_least 27 = .ok (.getfield 35, 3) := by decide +kernel
theorem dX7_least_30 : decode cX7_least 30 = .ok (.iload_n 3, 1) := by decide +kernel
theorem dX7_least_31 : decode cX7_least 31 = .ok (.aload_n 0, 1) := by decide +kernel
theorem dX7_least_32 : decode cX7_least 32 = .ok (.iload_n 1, 1) := by decide +kernel
theorem dX7_least_33 : decode cX7_least 33 = .ok (.iload_n 3, 1) := by decide +kernel
theorem dX7_least_34 : decode cX7_least 34 = .ok (.iconst 0, 1) := by decide +kernel
theorem dX7_least_35 : decode cX7_least 35 = .ok (.invokevirtual 118, 3) := by decide +kernel
theorem dX7_least_38 : decode cX7_least 38 = .ok (.iastore, 1) := by decide +kernel
theorem dX7_least_39 : decode cX7_least 39 = .ok (.iinc 3 1, 3) := by decide +kernel
theorem dX7_least_42 : decode cX7_least 42 = .ok (.goto (-34), 3) := by decide +kernel
theorem dX7_least_45 : decode cX7_least 45 = .ok (.iconst 1, 1) := by decide +kernel
theorem dX7_least_46 : decode cX7_least 46 = .ok (.istore_n 3, 1) := by decide +kernel
theorem dX7_least_47 : decode cX7_least 47 = .ok (.iload_n 3, 1) := by decide +kernel
theorem dX7_least_48 : decode cX7_least 48 = .ok (.iconst 1, 1) := by decide +kernel
theorem dX7_least_49 : decode cX7_least 49 = .ok (.iload_n 2, 1) := by decide +kernel
theorem dX7_least_50 : decode cX7_least 50 = .ok (.ishl, 1) := by decide +kernel
theorem dX7_least_51 : decode cX7_least 51 = .ok (.if_icmp .ge 150, 3) := by decide +kernel
theorem dX7_least_54 : decode cX7_least 54 = .ok (.iconst 0, 1) := by decide +kernel
theorem dX7_least_55 : decode cX7_least 55 = .ok (.istore 4, 2) := by decide +kernel
theorem dX7_least_57 : decode cX7_least 57 = .ok (.iload 4, 2) := by decide +kernel
theorem dX7_least_59 : decode cX7_least 59 = .ok (.iload_n 2, 1) := by decide +kernel
theorem dX7_least_60 : decode cX7_least 60 = .ok (.if_icmp .ge 135, 3) := by decide +kernel
theorem dX7_least_63 : decode cX7_least 63 = .ok (.iload_n 3, 1) := by decide +kernel
theorem dX7_least_64 : decode cX7_least 64 = .ok (.iconst 1, 1) := by decide +kernel
theorem dX7_least_65 : decode cX7_least 65 = .ok (.iload 4, 2) := by decide +kernel
theorem dX7_least_67 : decode cX7_least 67 = .ok (.ishl, 1) := by decide +kernel
theorem dX7_least_68 : decode cX7_least 68 = .ok (.iconst (-1), 1) := by decide +kernel
theorem dX7_least_69 : decode cX7_least 69 = .ok (.ixor, 1) := by decide +kernel
theorem dX7_least_70 : decode cX7_least 70 = .ok (.iand, 1) := by decide +kernel
theorem dX7_least_71 : decode cX7_least 71 = .ok (.istore 5, 2) := by decide +kernel
theorem dX7_least_73 : decode cX7_least 73 = .ok (.iload 5, 2) := by decide +kernel
theorem dX7_least_75 : decode cX7_least 75 = .ok (.ifCond .ne 13, 3) := by decide +kernel
theorem dX7_least_78 : decode cX7_least 78 = .ok (.aload_n 0, 1) := by decide +kernel
theorem dX7_least_79 : decode cX7_least 79 = .ok (.iload_n 1, 1) := by decide +kernel
theorem dX7_least_80 : decode cX7_least 80 = .ok (.iload 4, 2) := by decide +kernel
theorem dX7_least_82 : decode cX7_least 82 = .ok (.invokevirtual 131, 3) := by decide +kernel
theorem dX7_least_85 : decode cX7_least 85 = .ok (.goto 5, 3) := by decide +kernel
theorem dX7_least_88 : decode cX7_least 88 = .ok (.ldc 149, 2) := by decide +kernel
theorem dX7_least_90 : decode cX7_least 90 = .ok (.istore 6, 2) := by decide +kernel
theorem dX7_least_92 : decode cX7_least 92 = .ok (.iconst 0, 1) := by decide +kernel
theorem dX7_least_93 : decode cX7_least 93 = .ok (.istore 7, 2) := by decide +kernel
theorem dX7_least_95 : decode cX7_least 95 = .ok (.iload 7, 2) := by decide +kernel
theorem dX7_least_97 : decode cX7_least 97 = .ok (.iload_n 2, 1) := by decide +kernel
theorem dX7_least_98 : decode cX7_least 98 = .ok (.if_icmp .ge 77, 3) := by decide +kernel
theorem dX7_least_101 : decode cX7_least 101 = .ok (.iload 5, 2) := by decide +kernel
theorem dX7_least_103 : decode cX7_least 103 = .ok (.iload_n 3, 1) := by decide +kernel
theorem dX7_least_104 : decode cX7_least 104 = .ok (.if_icmp .eq 71, 3) := by decide +kernel
theorem dX7_least_107 : decode cX7_least 107 = .ok (.iload 5, 2) := by decide +kernel
theorem dX7_least_109 : decode cX7_least 109 = .ok (.iload 7, 2) := by decide +kernel
theorem dX7_least_111 : decode cX7_least 111 = .ok (.ishr, 1) := by decide +kernel
theorem dX7_least_112 : decode cX7_least 112 = .ok (.iconst 1, 1) := by decide +kernel
theorem dX7_least_113 : decode cX7_least 113 = .ok (.iand, 1) := by decide +kernel
theorem dX7_least_114 : decode cX7_least 114 = .ok (.iconst 1, 1) := by decide +kernel
theorem dX7_least_115 : decode cX7_least 115 = .ok (.if_icmp .ne 54, 3) := by decide +kernel
theorem dX7_least_118 : decode cX7_least 118 = .ok (.aload_n 0, 1) := by decide +kernel
theorem dX7_least_119 : decode cX7_least 119 = .ok (.getfield 38, 3) := by decide +kernel
theorem dX7_least_122 : decode cX7_least 122 = .ok (.bipush 8, 2) := by decide +kernel
theorem dX7_least_124 : decode cX7_least 124 = .ok (.iload 5, 2) := by decide +kernel
theorem dX7_least_126 : decode cX7_least 126 = .ok (.imul, 1) := by decide +kernel
theorem dX7_least_127 : decode cX7_least 127 = .ok (.iload 7, 2) := by decide +kernel
theorem dX7_least_129 : decode cX7_least 129 = .ok (.iadd, 1) := by decide +kernel
theorem dX7_least_130 : decode cX7_least 130 = .ok (.iaload, 1) := by decide +kernel
theorem dX7_least_131 : decode cX7_least 131 = .ok (.aload_n 0, 1) := by decide +kernel
theorem dX7_least_132 : decode cX7_least 132 = .ok (.iload 7, 2) := by decide +kernel
theorem dX7_least_134 : decode cX7_least 134 = .ok (.iload 4, 2) := by decide +kernel
theorem dX7_least_136 : decode cX7_least 136 = .ok (.invokevirtual 150, 3) := by decide +kernel
theorem dX7_least_139 : decode cX7_least 139 = .ok (.iadd, 1) := by decide +kernel
theorem dX7_least_140 : decode cX7_least 140 = .ok (.iload 6, 2) := by decide +kernel
theorem dX7_least_142 : decode cX7_least 142 = .ok (.if_icmp .ge 27, 3) := by decide +kernel
theorem dX7_least_145 : decode cX7_least 145 = .ok (.aload_n 0, 1) := by decide +kernel
theorem dX7_least_146 : decode cX7_least 146 = .ok (.getfield 38, 3) := by decide +kernel
theorem dX7_least_149 : decode cX7_least 149 = .ok (.bipush 8, 2) := by decide +kernel
theorem dX7_least_151 : decode cX7_least 151 = .ok (.iload 5, 2) := by decide +kernel
theorem dX7_least_153 : decode cX7_least 153 = .ok (.imul, 1) := by decide +kernel
theorem dX7_least_154 : decode cX7_least 154 = .ok (.iload 7, 2) := by decide +kernel
theorem dX7_least_156 : decode cX7_least 156 = .ok (.iadd, 1) := by decide +kernel
theorem dX7_least_157 : decode cX7_least 157 = .ok (.iaload, 1) := by decide +kernel
theorem dX7_least_158 : decode cX7_least 158 = .ok (.aload_n 0, 1) := by decide +kernel
theorem dX7_least_159 : decode cX7_least 159 = .ok (.iload 7, 2) := by decide +kernel
theorem dX7_least_161 : decode cX7_least 161 = .ok (.iload 4, 2) := by decide +kernel
theorem dX7_least_163 : decode cX7_least 163 = .ok (.invokevirtual 150, 3) := by decide +kernel
theorem dX7_least_166 : decode cX7_least 166 = .ok (.iadd, 1) := by decide +kernel
theorem dX7_least_167 : decode cX7_least 167 = .ok (.istore 6, 2) := by decide +kernel
theorem dX7_least_169 : decode cX7_least 169 = .ok (.iinc 7 1, 3) := by decide +kernel
theorem dX7_least_172 : decode cX7_least 172 = .ok (.goto (-77), 3) := by decide +kernel
theorem dX7_least_175 : decode cX7_least 175 = .ok (.aload_n 0, 1) := by decide +kernel
theorem dX7_least_176 : decode cX7_least 176 = .ok (.getfield 38, 3) := by decide +kernel
theorem dX7_least_179 : decode cX7_least 179 = .ok (.bipush 8, 2) := by decide +kernel
theorem dX7_least_181 : decode cX7_least 181 = .ok (.iload_n 3, 1) := by decide +kernel
theorem dX7_least_182 : decode cX7_least 182 = .ok (.imul, 1) := by decide +kernel
theorem dX7_least_183 : decode cX7_least 183 = .ok (.iload 4, 2) := by decide +kernel
theorem dX7_least_185 : decode cX7_least 185 = .ok (.iadd, 1) := by decide +kernel
theorem dX7_least_186 : decode cX7_least 186 = .ok (.iload 6, 2) := by decide +kernel
theorem dX7_least_188 : decode cX7_least 188 = .ok (.iastore, 1) := by decide +kernel
theorem dX7_least_189 : decode cX7_least 189 = .ok (.iinc 4 1, 3) := by decide +kernel
theorem dX7_least_192 : decode cX7_least 192 = .ok (.goto (-135), 3) := by decide +kernel
theorem dX7_least_195 : decode cX7_least 195 = .ok (.iinc 3 1, 3) := by decide +kernel
theorem dX7_least_198 : decode cX7_least 198 = .ok (.goto (-151), 3) := by decide +kernel
theorem dX7_least_201 : decode cX7_least 201 = .ok (.ldc 149, 2) := by decide +kernel
theorem dX7_least_203 : decode cX7_least 203 = .ok (.istore_n 3, 1) := by decide +kernel
theorem dX7_least_204 : decode cX7_least 204 = .ok (.iconst 0, 1) := by decide +kernel
theorem dX7_least_205 : decode cX7_least 205 = .ok (.istore 4, 2) := by decide +kernel
theorem dX7_least_207 : decode cX7_least 207 = .ok (.iload 4, 2) := by decide +kernel
theorem dX7_least_209 : decode cX7_least 209 = .ok (.iload_n 2, 1) := by decide +kernel
theorem dX7_least_210 : decode cX7_least 210 = .ok (.if_icmp .ge 40, 3) := by decide +kernel
theorem dX7_least_213 : decode cX7_least 213 = .ok (.aload_n 0, 1) := by decide +kernel
theorem dX7_least_214 : decode cX7_least 214 = .ok (.getfield 38, 3) := by decide +kernel
theorem dX7_least_217 : decode cX7_least 217 = .ok (.bipush 8, 2) := by decide +kernel
theorem dX7_least_219 : decode cX7_least 219 = .ok (.iconst 1, 1) := by decide +kernel
theorem dX7_least_220 : decode cX7_least 220 = .ok (.iload_n 2, 1) := by decide +kernel
theorem dX7_least_221 : decode cX7_least 221 = .ok (.ishl, 1) := by decide +kernel
theorem dX7_least_222 : decode cX7_least 222 = .ok (.iconst 1, 1) := by decide +kernel
theorem dX7_least_223 : decode cX7_least 223 = .ok (.isub, 1) := by decide +kernel
theorem dX7_least_224 : decode cX7_least 224 = .ok (.imul, 1) := by decide +kernel
theorem dX7_least_225 : decode cX7_least 225 = .ok (.iload 4, 2) := by decide +kernel
theorem dX7_least_227 : decode cX7_least 227 = .ok (.iadd, 1) := by decide +kernel
theorem dX7_least_228 : decode cX7_least 228 = .ok (.iaload, 1) := by decide +kernel
theorem dX7_least_229 : decode cX7_least 229 = .ok (.istore 5, 2) := by decide +kernel
theorem dX7_least_231 : decode cX7_least 231 = .ok (.iload 5, 2) := by decide +kernel
theorem dX7_least_233 : decode cX7_least 233 = .ok (.iload_n 3, 1) := by decide +kernel
theorem dX7_least_234 : decode cX7_least 234 = .ok (.if_icmp .ge 8, 3) := by decide +kernel
theorem dX7_least_237 : decode cX7_least 237 = .ok (.iload 5, 2) := by decide +kernel
theorem dX7_least_239 : decode cX7_least 239 = .ok (.goto 4, 3) := by decide +kernel
theorem dX7_least_242 : decode cX7_least 242 = .ok (.iload_n 3, 1) := by decide +kernel
theorem dX7_least_243 : decode cX7_least 243 = .ok (.istore_n 3, 1) := by decide +kernel
theorem dX7_least_244 : decode cX7_least 244 = .ok (.iinc 4 1, 3) := by decide +kernel
theorem dX7_least_247 : decode cX7_least 247 = .ok (.goto (-40), 3) := by decide +kernel
theorem dX7_least_250 : decode cX7_least 250 = .ok (.iload_n 3, 1) := by decide +kernel
theorem dX7_least_251 : decode cX7_least 251 = .ok (.ireturn, 1) := by decide +kernel
theorem dX7_leastMakeready_0 : decode cX7_leastMakeready 0 = .ok (.aload_n 0, 1) := by decide +kernel
theorem dX7_leastMakeready_1 : decode cX7_leastMakeready 1 = .ok (.iload_n 1, 1) := by decide +kernel
theorem dX7_leastMakeready_2 : decode cX7_leastMakeready 2 = .ok (.invokevirtual 75, 3) := by decide +kernel
theorem dX7_leastMakeready_5 : decode cX7_leastMakeready 5 = .ok (.ifCond .eq 11, 3) := by decide +kernel
theorem dX7_leastMakeready_8 : decode cX7_leastMakeready 8 = .ok (.aload_n 0, 1) := by decide +kernel
theorem dX7_leastMakeready_9 : decode cX7_leastMakeready 9 = .ok (.iload_n 1, 1) := by decide +kernel
theorem dX7_leastMakeready_10 : decode cX7_leastMakeready 10 = .ok (.invokevirtual 153, 3) := by decide +kernel
theorem dX7_leastMakeready_13 : decode cX7_leastMakeready 13 = .ok (.goto 4, 3) := by decide +kernel
theorem dX7_leastMakeready_16 : decode cX7_leastMakeready 16 = .ok (.iconst 0, 1) := by decide +kernel
theorem dX7_leastMakeready_17 : decode cX7_leastMakeready 17 = .ok (.ireturn, 1) := by decide +kernel
theorem dX7_leastByTrying_0 : decode cX7_leastByTrying 0 = .ok (.aload_n 0, 1) := by decide +kernel
theorem dX7_leastByTrying_1 : decode cX7_leastByTrying 1 = .ok (.iload_n 1, 1) := by decide +kernel
theorem dX7_leastByTrying_2 : decode cX7_leastByTrying 2 = .ok (.invokevirtual 75, 3) := by decide +kernel
theorem dX7_leastByTrying_5 : decode cX7_leastByTrying 5 = .ok (.ifCond .ne 5, 3) := by decide +kernel
theorem dX7_leastByTrying_8 : decode cX7_leastByTrying 8 = .ok (.iconst 0, 1) := by decide +kernel
theorem dX7_leastByTrying_9 : decode cX7_leastByTrying 9 = .ok (.ireturn, 1) := by decide +kernel
theorem dX7_leastByTrying_10 : decode cX7_leastByTrying 10 = .ok (.aload_n 0, 1) := by decide +kernel
theorem dX7_leastByTrying_11 : decode cX7_leastByTrying 11 = .ok (.iload_n 1, 1) := by decide +kernel
theorem dX7_leastByTrying_12 : decode cX7_leastByTrying 12 = .ok (.invokevirtual 78, 3) := by decide +kernel
theorem dX7_leastByTrying_15 : decode cX7_leastByTrying 15 = .ok (.bipush 6, 2) := by decide +kernel
theorem dX7_leastByTrying_17 : decode cX7_leastByTrying 17 = .ok (.if_icmp .le 11, 3) := by decide +kernel
theorem dX7_leastByTrying_20 : decode cX7_leastByTrying 20 = .ok (.aload_n 0, 1) := by decide +kernel
theorem dX7_leastByTrying_21 : decode cX7_leastByTrying 21 = .ok (.iconst 3, 1) := by decide +kernel
theorem dX7_leastByTrying_22 : decode cX7_leastByTrying 22 = .ok (.invokevirtual 101, 3) := by decide +kernel
theorem dX7_leastByTrying_25 : decode cX7_leastByTrying 25 = .ok (.goto 8, 3) := by decide +kernel
theorem dX7_leastByTrying_28 : decode cX7_leastByTrying 28 = .ok (.aload_n 0, 1) := by decide +kernel
theorem dX7_leastByTrying_29 : decode cX7_leastByTrying 29 = .ok (.iload_n 1, 1) := by decide +kernel
theorem dX7_leastByTrying_30 : decode cX7_leastByTrying 30 = .ok (.invokevirtual 153, 3) := by decide +kernel
theorem dX7_leastByTrying_33 : decode cX7_leastByTrying 33 = .ok (.ireturn, 1) := by decide +kernel
theorem dX7_stock_0 : decode cX7_stock 0 = .ok (.aload_n 0, 1) := by decide +kernel
theorem dX7_stock_1 : decode cX7_stock 1 = .ok (.iload_n 1, 1) := by decide +kernel
theorem dX7_stock_2 : decode cX7_stock 2 = .ok (.iload_n 2, 1) := by decide +kernel
theorem dX7_stock_3 : decode cX7_stock 3 = .ok (.invokevirtual 114, 3) := by decide +kernel
theorem dX7_stock_6 : decode cX7_stock 6 = .ok (.ifCond .eq 17, 3) := by decide +kernel
theorem dX7_stock_9 : decode cX7_stock 9 = .ok (.aload_n 0, 1) := by decide +kernel
theorem dX7_stock_10 : decode cX7_stock 10 = .ok (.getfield 22, 3) := by decide +kernel
theorem dX7_stock_13 : decode cX7_stock 13 = .ok (.bipush 8, 2) := by decide +kernel
theorem dX7_stock_15 : decode cX7_stock 15 = .ok (.iload_n 1, 1) := by decide +kernel
theorem dX7_stock_16 : decode cX7_stock 16 = .ok (.imul, 1) := by decide +kernel
theorem dX7_stock_17 : decode cX7_stock 17 = .ok (.iload_n 2, 1) := by decide +kernel
theorem dX7_stock_18 : decode cX7_stock 18 = .ok (.iadd, 1) := by decide +kernel
theorem dX7_stock_19 : decode cX7_stock 19 = .ok (.iaload, 1) := by decide +kernel
theorem dX7_stock_20 : decode cX7_stock 20 = .ok (.goto 4, 3) := by decide +kernel
theorem dX7_stock_23 : decode cX7_stock 23 = .ok (.iconst 0, 1) := by decide +kernel
theorem dX7_stock_24 : decode cX7_stock 24 = .ok (.ireturn, 1) := by decide +kernel
theorem dX7_plates_0 : decode cX7_plates 0 = .ok (.aload_n 0, 1) := by decide +kernel
theorem dX7_plates_1 : decode cX7_plates 1 = .ok (.iconst 0, 1) := by decide +kernel
theorem dX7_plates_2 : decode cX7_plates 2 = .ok (.putfield 53, 3) := by decide +kernel
theorem dX7_plates_5 : decode cX7_plates 5 = .ok (.aload_n 0, 1) := by decide +kernel
theorem dX7_plates_6 : decode cX7_plates 6 = .ok (.getfield 91, 3) := by decide +kernel
theorem dX7_plates_9 : decode cX7_plates 9 = .ok (.ireturn, 1) := by decide +kernel
theorem dX7_platesNeeded_0 : decode cX7_platesNeeded 0 = .ok (.aload_n 0, 1) := by decide +kernel
theorem dX7_platesNeeded_1 : decode cX7_platesNeeded 1 = .ok (.iload_n 1, 1) := by decide +kernel
theorem dX7_platesNeeded_2 : decode cX7_platesNeeded 2 = .ok (.invokevirtual 75, 3) := by decide +kernel
theorem dX7_platesNeeded_5 : decode cX7_platesNeeded 5 = .ok (.ifCond .ne 5, 3) := by decide +kernel
theorem dX7_platesNeeded_8 : decode cX7_platesNeeded 8 = .ok (.iconst 0, 1) := by decide +kernel
theorem dX7_platesNeeded_9 : decode cX7_platesNeeded 9 = .ok (.ireturn, 1) := by decide +kernel
theorem dX7_platesNeeded_10 : decode cX7_platesNeeded 10 = .ok (.aload_n 0, 1) := by decide +kernel
theorem dX7_platesNeeded_11 : decode cX7_platesNeeded 11 = .ok (.getfield 91, 3) := by decide +kernel
theorem dX7_platesNeeded_14 : decode cX7_platesNeeded 14 = .ok (.istore_n 2, 1) := by decide +kernel
theorem dX7_platesNeeded_15 : decode cX7_platesNeeded 15 = .ok (.iconst 0, 1) := by decide +kernel
theorem dX7_platesNeeded_16 : decode cX7_platesNeeded 16 = .ok (.istore_n 3, 1) := by decide +kernel
theorem dX7_platesNeeded_17 : decode cX7_platesNeeded 17 = .ok (.iload_n 3, 1) := by decide +kernel
theorem dX7_platesNeeded_18 : decode cX7_platesNeeded 18 = .ok (.aload_n 0, 1) := by decide +kernel
theorem dX7_platesNeeded_19 : decode cX7_platesNeeded 19 = .ok (.iload_n 1, 1) := by decide +kernel
theorem dX7_platesNeeded_20 : decode cX7_platesNeeded 20 = .ok (.invokevirtual 78, 3) := by decide +kernel
theorem dX7_platesNeeded_23 : decode cX7_platesNeeded 23 = .ok (.if_icmp .ge 31, 3) := by decide +kernel
theorem dX7_platesNeeded_26 : decode cX7_platesNeeded 26 = .ok (.aload_n 0, 1) := by decide +kernel
theorem dX7_platesNeeded_27 : decode cX7_platesNeeded 27 = .ok (.aload_n 0, 1) := by decide +kernel
theorem dX7_platesNeeded_28 : decode cX7_platesNeeded 28 = .ok (.iload_n 1, 1) := by decide +kernel
theorem dX7_platesNeeded_29 : decode cX7_platesNeeded 29 = .ok (.iload_n 3, 1) := by decide +kernel
theorem dX7_platesNeeded_30 : decode cX7_platesNeeded 30 = .ok (.iconst 1, 1) := by decide +kernel
theorem dX7_platesNeeded_31 : decode cX7_platesNeeded 31 = .ok (.invokevirtual 118, 3) := by decide +kernel
theorem dX7_platesNeeded_34 : decode cX7_platesNeeded 34 = .ok (.invokevirtual 134, 3) := by decide +kernel
theorem dX7_platesNeeded_37 : decode cX7_platesNeeded 37 = .ok (.aload_n 0, 1) := by decide +kernel
theorem dX7_platesNeeded_38 : decode cX7_platesNeeded 38 = .ok (.aload_n 0, 1) := by decide +kernel
theorem dX7_platesNeeded_39 : decode cX7_platesNeeded 39 = .ok (.iload_n 1, 1) := by decide +kernel
theorem dX7_platesNeeded_40 : decode cX7_platesNeeded 40 = .ok (.iload_n 3, 1) := by decide +kernel
theorem dX7_platesNeeded_41 : decode cX7_platesNeeded 41 = .ok (.iconst 0, 1) := by decide +kernel
theorem dX7_platesNeeded_42 : decode cX7_platesNeeded 42 = .ok (.invokevirtual 118, 3) := by decide +kernel
theorem dX7_platesNeeded_45 : decode cX7_platesNeeded 45 = .ok (.invokevirtual 134, 3) := by decide +kernel
theorem dX7_platesNeeded_48 : decode cX7_platesNeeded 48 = .ok (.iinc 3 1, 3) := by decide +kernel
theorem dX7_platesNeeded_51 : decode cX7_platesNeeded 51 = .ok (.goto (-34), 3) := by decide +kernel
theorem dX7_platesNeeded_54 : decode cX7_platesNeeded 54 = .ok (.aload_n 0, 1) := by decide +kernel
theorem dX7_platesNeeded_55 : decode cX7_platesNeeded 55 = .ok (.getfield 91, 3) := by decide +kernel
theorem dX7_platesNeeded_58 : decode cX7_platesNeeded 58 = .ok (.iload_n 2, 1) := by decide +kernel
theorem dX7_platesNeeded_59 : decode cX7_platesNeeded 59 = .ok (.isub, 1) := by decide +kernel
theorem dX7_platesNeeded_60 : decode cX7_platesNeeded 60 = .ok (.istore_n 3, 1) := by decide +kernel
theorem dX7_platesNeeded_61 : decode cX7_platesNeeded 61 = .ok (.aload_n 0, 1) := by decide +kernel
theorem dX7_platesNeeded_62 : decode cX7_platesNeeded 62 = .ok (.iload_n 2, 1) := by decide +kernel
theorem dX7_platesNeeded_63 : decode cX7_platesNeeded 63 = .ok (.putfield 91, 3) := by decide +kernel
theorem dX7_platesNeeded_66 : decode cX7_platesNeeded 66 = .ok (.iload_n 3, 1) := by decide +kernel
theorem dX7_platesNeeded_67 : decode cX7_platesNeeded 67 = .ok (.ireturn, 1) := by decide +kernel
theorem dX7_missing_0 : decode cX7_missing 0 = .ok (.iconst 0, 1) := by decide +kernel
theorem dX7_missing_1 : decode cX7_missing 1 = .ok (.istore_n 3, 1) := by decide +kernel
theorem dX7_missing_2 : decode cX7_missing 2 = .ok (.iconst 0, 1) := by decide +kernel
theorem dX7_missing_3 : decode cX7_missing 3 = .ok (.istore 4, 2) := by decide +kernel
theorem dX7_missing_5 : decode cX7_missing 5 = .ok (.iload 4, 2) := by decide +kernel
theorem dX7_missing_7 : decode cX7_missing 7 = .ok (.aload_n 0, 1) := by decide +kernel
theorem dX7_missing_8 : decode cX7_missing 8 = .ok (.iload_n 1, 1) := by decide +kernel
theorem dX7_missing_9 : decode cX7_missing 9 = .ok (.invokevirtual 78, 3) := by decide +kernel
theorem dX7_missing_12 : decode cX7_missing 12 = .ok (.if_icmp .ge 46, 3) := by decide +kernel
theorem dX7_missing_15 : decode cX7_missing 15 = .ok (.iload_n 3, 1) := by decide +kernel
theorem dX7_missing_16 : decode cX7_missing 16 = .ok (.iload_n 2, 1) := by decide +kernel
theorem dX7_missing_17 : decode cX7_missing 17 = .ok (.aload_n 0, 1) := by decide +kernel
theorem dX7_missing_18 : decode cX7_missing 18 = .ok (.getfield 22, 3) := by decide +kernel
theorem dX7_missing_21 : decode cX7_missing 21 = .ok (.bipush 8, 2) := by decide +kernel
theorem dX7_missing_23 : decode cX7_missing 23 = .ok (.iload_n 1, 1) := by decide +kernel
theorem dX7_missing_24 : decode cX7_missing 24 = .ok (.imul, 1) := by decide +kernel
theorem dX7_missing_25 : decode cX7_missing 25 = .ok (.iload 4, 2) := by decide +kernel
theorem dX7_missing_27 : decode cX7_missing 27 = .ok (.iadd, 1) := by decide +kernel
theorem dX7_missing_28 : decode cX7_missing 28 = .ok (.iaload, 1) := by decide +kernel
theorem dX7_missing_29 : decode cX7_missing 29 = .ok (.if_icmp .le 20, 3) := by decide +kernel
theorem dX7_missing_32 : decode cX7_missing 32 = .ok (.iload_n 2, 1) := by decide +kernel
theorem dX7_missing_33 : decode cX7_missing 33 = .ok (.aload_n 0, 1) := by decide +kernel
theorem dX7_missing_34 : decode cX7_missing 34 = .ok (.getfield 22, 3) := by decide +kernel
theorem dX7_missing_37 : decode cX7_missing 37 = .ok (.bipush 8, 2) := by decide +kernel
theorem dX7_missing_39 : decode cX7_missing 39 = .ok (.iload_n 1, 1) := by decide +kernel
theorem dX7_missing_40 : decode cX7_missing 40 = .ok (.imul, 1) := by decide +kernel
theorem dX7_missing_41 : decode cX7_missing 41 = .ok (.iload 4, 2) := by decide +kernel
theorem dX7_missing_43 : decode cX7_missing 43 = .ok (.iadd, 1) := by decide +kernel
theorem dX7_missing_44 : decode cX7_missing 44 = .ok (.iaload, 1) := by decide +kernel
theorem dX7_missing_45 : decode cX7_missing 45 = .ok (.isub, 1) := by decide +kernel
theorem dX7_missing_46 : decode cX7_missing 46 = .ok (.goto 4, 3) := by decide +kernel
theorem dX7_missing_49 : decode cX7_missing 49 = .ok (.iconst 0, 1) := by decide +kernel
theorem dX7_missing_50 : decode cX7_missing 50 = .ok (.iadd, 1) := by decide +kernel
theorem dX7_missing_51 : decode cX7_missing 51 = .ok (.istore_n 3, 1) := by decide +kernel
theorem dX7_missing_52 : decode cX7_missing 52 = .ok (.iinc 4 1, 3) := by decide +kernel
theorem dX7_missing_55 : decode cX7_missing 55 = .ok (.goto (-50), 3) := by decide +kernel
theorem dX7_missing_58 : decode cX7_missing 58 = .ok (.iload_n 3, 1) := by decide +kernel
theorem dX7_missing_59 : decode cX7_missing 59 = .ok (.ireturn, 1) := by decide +kernel
theorem dX7_bind_0 : decode cX7_bind 0 = .ok (.iload_n 1, 1) := by decide +kernel
theorem dX7_bind_1 : decode cX7_bind 1 = .ok (.iconst 0, 1) := by decide +kernel
theorem dX7_bind_2 : decode cX7_bind 2 = .ok (.aload_n 0, 1) := by decide +kernel
theorem dX7_bind_3 : decode cX7_bind 3 = .ok (.getfield 68, 3) := by decide +kernel
theorem dX7_bind_6 : decode cX7_bind 6 = .ok (.iconst 1, 1) := by decide +kernel
theorem dX7_bind_7 : decode cX7_bind 7 = .ok (.isub, 1) := by decide +kernel
theorem dX7_bind_8 : decode cX7_bind 8 = .ok (.invokestatic 60, 3) := by decide +kernel
theorem dX7_bind_11 : decode cX7_bind 11 = .ok (.ifCond .ne 9, 3) := by decide +kernel
theorem dX7_bind_14 : decode cX7_bind 14 = .ok (.aload_n 0, 1) := by decide +kernel
theorem dX7_bind_15 : decode cX7_bind 15 = .ok (.iconst 1, 1) := by decide +kernel
theorem dX7_bind_16 : decode cX7_bind 16 = .ok (.invokevirtual 101, 3) := by decide +kernel
theorem dX7_bind_19 : decode cX7_bind 19 = .ok (.ireturn, 1) := by decide +kernel
theorem dX7_bind_20 : decode cX7_bind 20 = .ok (.iload_n 2, 1) := by decide +kernel
theorem dX7_bind_21 : decode cX7_bind 21 = .ok (.iconst 1, 1) := by decide +kernel
theorem dX7_bind_22 : decode cX7_bind 22 = .ok (.sipush 500, 3) := by decide +kernel
theorem dX7_bind_25 : decode cX7_bind 25 = .ok (.invokestatic 60, 3) := by decide +kernel
theorem dX7_bind_28 : decode cX7_bind 28 = .ok (.ifCond .ne 9, 3) := by decide +kernel
theorem dX7_bind_31 : decode cX7_bind 31 = .ok (.aload_n 0, 1) := by decide +kernel
theorem dX7_bind_32 : decode cX7_bind 32 = .ok (.iconst 2, 1) := by decide +kernel
theorem dX7_bind_33 : decode cX7_bind 33 = .ok (.invokevirtual 101, 3) := by decide +kernel
theorem dX7_bind_36 : decode cX7_bind 36 = .ok (.ireturn, 1) := by decide +kernel
theorem dX7_bind_37 : decode cX7_bind 37 = .ok (.aload_n 0, 1) := by decide +kernel
theorem dX7_bind_38 : decode cX7_bind 38 = .ok (.iload_n 1, 1) := by decide +kernel
theorem dX7_bind_39 : decode cX7_bind 39 = .ok (.invokevirtual 71, 3) := by decide +kernel
theorem dX7_bind_42 : decode cX7_bind 42 = .ok (.ifCond .eq 12, 3) := by decide +kernel
theorem dX7_bind_45 : decode cX7_bind 45 = .ok (.aload_n 0, 1) := by decide +kernel
theorem dX7_bind_46 : decode cX7_bind 46 = .ok (.getfield 156, 3) := by decide +kernel
theorem dX7_bind_49 : decode cX7_bind 49 = .ok (.bipush 100, 2) := by decide +kernel
theorem dX7_bind_51 : decode cX7_bind 51 = .ok (.if_icmp .ne 9, 3) := by decide +kernel
theorem dX7_bind_54 : decode cX7_bind 54 = .ok (.aload_n 0, 1) := by decide +kernel
theorem dX7_bind_55 : decode cX7_bind 55 = .ok (.iconst 3, 1) := by decide +kernel
theorem dX7_bind_56 : decode cX7_bind 56 = .ok (.invokevirtual 101, 3) := by decide +kernel
theorem dX7_bind_59 : decode cX7_bind 59 = .ok (.ireturn, 1) := by decide +kernel
theorem dX7_bind_60 : decode cX7_bind 60 = .ok (.aload_n 0, 1) := by decide +kernel
theorem dX7_bind_61 : decode cX7_bind 61 = .ok (.iload_n 1, 1) := by decide +kernel
theorem dX7_bind_62 : decode cX7_bind 62 = .ok (.iload_n 2, 1) := by decide +kernel
theorem dX7_bind_63 : decode cX7_bind 63 = .ok (.invokevirtual 159, 3) := by decide +kernel
theorem dX7_bind_66 : decode cX7_bind 66 = .ok (.ifCond .le 9, 3) := by decide +kernel
theorem dX7_bind_69 : decode cX7_bind 69 = .ok (.aload_n 0, 1) := by decide +kernel
theorem dX7_bind_70 : decode cX7_bind 70 = .ok (.iconst 4, 1) := by decide +kernel
theorem dX7_bind_71 : decode cX7_bind 71 = .ok (.invokevirtual 101, 3) := by decide +kernel
theorem dX7_bind_74 : decode cX7_bind 74 = .ok (.ireturn, 1) := by decide +kernel
theorem dX7_bind_75 : decode cX7_bind 75 = .ok (.aload_n 0, 1) := by decide +kernel
theorem dX7_bind_76 : decode cX7_bind 76 = .ok (.iconst 0, 1) := by decide +kernel
theorem dX7_bind_77 : decode cX7_bind 77 = .ok (.putfield 53, 3) := by decide +kernel
theorem dX7_bind_80 : decode cX7_bind 80 = .ok (.iconst 0, 1) := by decide +kernel
theorem dX7_bind_81 : decode cX7_bind 81 = .ok (.istore_n 3, 1) := by decide +kernel
theorem dX7_bind_82 : decode cX7_bind 82 = .ok (.iload_n 3, 1) := by decide +kernel
theorem dX7_bind_83 : decode cX7_bind 83 = .ok (.aload_n 0, 1) := by decide +kernel
theorem dX7_bind_84 : decode cX7_bind 84 = .ok (.iload_n 1, 1) := by decide +kernel
theorem dX7_bind_85 : decode cX7_bind 85 = .ok (.invokevirtual 78, 3) := by decide +kernel
theorem dX7_bind_88 : decode cX7_bind 88 = .ok (.if_icmp .ge 24, 3) := by decide +kernel
theorem dX7_bind_91 : decode cX7_bind 91 = .ok (.aload_n 0, 1) := by decide +kernel
theorem dX7_bind_92 : decode cX7_bind 92 = .ok (.getfield 22, 3) := by decide +kernel
theorem dX7_bind_95 : decode cX7_bind 95 = .ok (.bipush 8, 2) := by decide +kernel
theorem dX7_bind_97 : decode cX7_bind 97 = .ok (.iload_n 1, 1) := by decide +kernel
theorem dX7_bind_98 : decode cX7_bind 98 = .ok (.imul, 1) := by decide +kernel
theorem dX7_bind_99 : decode cX7_bind 99 = .ok (.iload_n 3, 1) := by decide +kernel
theorem dX7_bind_100 : decode cX7_bind 100 = .ok (.iadd, 1) := by decide +kernel
theorem dX7_bind_101 : decode cX7_bind 101 = .ok (.dup2, 1) := by decide +kernel
theorem dX7_bind_102 : decode cX7_bind 102 = .ok (.iaload, 1) := by decide +kernel
theorem dX7_bind_103 : decode cX7_bind 103 = .ok (.iload_n 2, 1) := by decide +kernel
theorem dX7_bind_104 : decode cX7_bind 104 = .ok (.isub, 1) := by decide +kernel
theorem dX7_bind_105 : decode cX7_bind 105 = .ok (.iastore, 1) := by decide +kernel
theorem dX7_bind_106 : decode cX7_bind 106 = .ok (.iinc 3 1, 3) := by decide +kernel
theorem dX7_bind_109 : decode cX7_bind 109 = .ok (.goto (-27), 3) := by decide +kernel
theorem dX7_bind_112 : decode cX7_bind 112 = .ok (.aload_n 0, 1) := by decide +kernel
theorem dX7_bind_113 : decode cX7_bind 113 = .ok (.getfield 41, 3) := by decide +kernel
theorem dX7_bind_116 : decode cX7_bind 116 = .ok (.aload_n 0, 1) := by decide +kernel
theorem dX7_bind_117 : decode cX7_bind 117 = .ok (.getfield 156, 3) := by decide +kernel
theorem dX7_bind_120 : decode cX7_bind 120 = .ok (.iload_n 1, 1) := by decide +kernel
theorem dX7_bind_121 : decode cX7_bind 121 = .ok (.iastore, 1) := by decide +kernel
theorem dX7_bind_122 : decode cX7_bind 122 = .ok (.aload_n 0, 1) := by decide +kernel
theorem dX7_bind_123 : decode cX7_bind 123 = .ok (.getfield 44, 3) := by decide +kernel
theorem dX7_bind_126 : decode cX7_bind 126 = .ok (.aload_n 0, 1) := by decide +kernel
theorem dX7_bind_127 : decode cX7_bind 127 = .ok (.getfield 156, 3) := by decide +kernel
theorem dX7_bind_130 : decode cX7_bind 130 = .ok (.iload_n 2, 1) := by decide +kernel
theorem dX7_bind_131 : decode cX7_bind 131 = .ok (.iastore, 1) := by decide +kernel
theorem dX7_bind_132 : decode cX7_bind 132 = .ok (.aload_n 0, 1) := by decide +kernel
theorem dX7_bind_133 : decode cX7_bind 133 = .ok (.getfield 47, 3) := by decide +kernel
theorem dX7_bind_136 : decode cX7_bind 136 = .ok (.aload_n 0, 1) := by decide +kernel
theorem dX7_bind_137 : decode cX7_bind 137 = .ok (.getfield 156, 3) := by decide +kernel
theorem dX7_bind_140 : decode cX7_bind 140 = .ok (.aload_n 0, 1) := by decide +kernel
theorem dX7_bind_141 : decode cX7_bind 141 = .ok (.getfield 16, 3) := by decide +kernel
theorem dX7_bind_144 : decode cX7_bind 144 = .ok (.iload_n 1, 1) := by decide +kernel
theorem dX7_bind_145 : decode cX7_bind 145 = .ok (.iaload, 1) := by decide +kernel
theorem dX7_bind_146 : decode cX7_bind 146 = .ok (.iastore, 1) := by decide +kernel
theorem dX7_bind_147 : decode cX7_bind 147 = .ok (.iconst 0, 1) := by decide +kernel
theorem dX7_bind_148 : decode cX7_bind 148 = .ok (.istore_n 3, 1) := by decide +kernel
theorem dX7_bind_149 : decode cX7_bind 149 = .ok (.iload_n 3, 1) := by decide +kernel
theorem dX7_bind_150 : decode cX7_bind 150 = .ok (.aload_n 0, 1) := by decide +kernel
theorem dX7_bind_151 : decode cX7_bind 151 = .ok (.getfield 16, 3) := by decide +kernel
theorem dX7_bind_154 : decode cX7_bind 154 = .ok (.iload_n 1, 1) := by decide +kernel
theorem dX7_bind_155 : decode cX7_bind 155 = .ok (.iaload, 1) := by decide +kernel
theorem dX7_bind_156 : decode cX7_bind 156 = .ok (.if_icmp .ge 39, 3) := by decide +kernel
theorem dX7_bind_159 : decode cX7_bind 159 = .ok (.aload_n 0, 1) := by decide +kernel
theorem dX7_bind_160 : decode cX7_bind 160 = .ok (.getfield 50, 3) := by decide +kernel
theorem dX7_bind_163 : decode cX7_bind 163 = .ok (.bipush 16, 2) := by decide +kernel
theorem dX7_bind_165 : decode cX7_bind 165 = .ok (.aload_n 0, 1) := by decide +kernel
theorem dX7_bind_166 : decode cX7_bind 166 = .ok (.getfield 156, 3) := by decide +kernel
theorem dX7_bind_169 : decode cX7_bind 169 = .ok (.imul, 1) := by decide +kernel
theorem dX7_bind_170 : decode cX7_bind 170 = .ok (.iload_n 3, 1) := by decide +kernel
theorem dX7_bind_171 : decode cX7_bind 171 = .ok (.iadd, 1) := by decide +kernel
theorem dX7_bind_172 : decode cX7_bind 172 = .ok (.aload_n 0, 1) := by decide +kernel
theorem dX7_bind_173 : decode cX7_bind 173 = .ok (.getfield 7, 3) := by decide +kernel
theorem dX7_bind_176 : decode cX7_bind 176 = .ok (.aload_n 0, 1) := by decide +kernel
theorem dX7_bind_177 : decode cX7_bind 177 = .ok (.getfield 19, 3) := by decide +kernel
theorem dX7_bind_180 : decode cX7_bind 180 = .ok (.bipush 16, 2) := by decide +kernel
theorem dX7_bind_182 : decode cX7_bind 182 = .ok (.iload_n 1, 1) := by decide +kernel
theorem dX7_bind_183 : decode cX7_bind 183 = .ok (.imul, 1) := by decide +kernel
theorem dX7_bind_184 : decode cX7_bind 184 = .ok (.iload_n 3, 1) := by decide +kernel
theorem dX7_bind_185 : decode cX7_bind 185 = .ok (.iadd, 1) := by decide +kernel
theorem dX7_bind_186 : decode cX7_bind 186 = .ok (.iaload, 1) := by decide +kernel
theorem dX7_bind_187 : decode cX7_bind 187 = .ok (.iaload, 1) := by decide +kernel
theorem dX7_bind_188 : decode cX7_bind 188 = .ok (.iastore, 1) := by decide +kernel
theorem dX7_bind_189 : decode cX7_bind 189 = .ok (.iinc 3 1, 3) := by decide +kernel
theorem dX7_bind_192 : decode cX7_bind 192 = .ok (.goto (-43), 3) := by decide +kernel
theorem dX7_bind_195 : decode cX7_bind 195 = .ok (.aload_n 0, 1) := by decide +kernel
theorem dX7_bind_196 : decode cX7_bind 196 = .ok (.dup, 1) := by decide +kernel
theorem dX7_bind_197 : decode cX7_bind 197 = .ok (.getfield 156, 3) := by decide +kernel
theorem dX7_bind_200 : decode cX7_bind 200 = .ok (.iconst 1, 1) := by decide +kernel
theorem dX7_bind_201 : decode cX7_bind 201 = .ok (.iadd, 1) := by decide +kernel
theorem dX7_bind_202 : decode cX7_bind 202 = .ok (.putfield 156, 3) := by decide +kernel
theorem dX7_bind_205 : decode cX7_bind 205 = .ok (.aload_n 0, 1) := by decide +kernel
theorem dX7_bind_206 : decode cX7_bind 206 = .ok (.getfield 156, 3) := by decide +kernel
theorem dX7_bind_209 : decode cX7_bind 209 = .ok (.iconst 1, 1) := by decide +kernel
theorem dX7_bind_210 : decode cX7_bind 210 = .ok (.isub, 1) := by decide +kernel
theorem dX7_bind_211 : decode cX7_bind 211 = .ok (.ireturn, 1) := by decide +kernel
theorem dX7_lacks_0 : decode cX7_lacks 0 = .ok (.iload_n 1, 1) := by decide +kernel
theorem dX7_lacks_1 : decode cX7_lacks 1 = .ok (.iconst 0, 1) := by decide +kernel
theorem dX7_lacks_2 : decode cX7_lacks 2 = .ok (.aload_n 0, 1) := by decide +kernel
theorem dX7_lacks_3 : decode cX7_lacks 3 = .ok (.getfield 68, 3) := by decide +kernel
theorem dX7_lacks_6 : decode cX7_lacks 6 = .ok (.iconst 1, 1) := by decide +kernel
theorem dX7_lacks_7 : decode cX7_lacks 7 = .ok (.isub, 1) := by decide +kernel
theorem dX7_lacks_8 : decode cX7_lacks 8 = .ok (.invokestatic 60, 3) := by decide +kernel
theorem dX7_lacks_11 : decode cX7_lacks 11 = .ok (.ifCond .ne 9, 3) := by decide +kernel
theorem dX7_lacks_14 : decode cX7_lacks 14 = .ok (.aload_n 0, 1) := by decide +kernel
theorem dX7_lacks_15 : decode cX7_lacks 15 = .ok (.iconst 1, 1) := by decide +kernel
theorem dX7_lacks_16 : decode cX7_lacks 16 = .ok (.invokevirtual 101, 3) := by decide +kernel
theorem dX7_lacks_19 : decode cX7_lacks 19 = .ok (.ireturn, 1) := by decide +kernel
theorem dX7_lacks_20 : decode cX7_lacks 20 = .ok (.iload_n 2, 1) := by decide +kernel
theorem dX7_lacks_21 : decode cX7_lacks 21 = .ok (.iconst 1, 1) := by decide +kernel
theorem dX7_lacks_22 : decode cX7_lacks 22 = .ok (.sipush 500, 3) := by decide +kernel
theorem dX7_lacks_25 : decode cX7_lacks 25 = .ok (.invokestatic 60, 3) := by decide +kernel
theorem dX7_lacks_28 : decode cX7_lacks 28 = .ok (.ifCond .ne 9, 3) := by decide +kernel
theorem dX7_lacks_31 : decode cX7_lacks 31 = .ok (.aload_n 0, 1) := by decide +kernel
theorem dX7_lacks_32 : decode cX7_lacks 32 = .ok (.iconst 2, 1) := by decide +kernel
theorem dX7_lacks_33 : decode cX7_lacks 33 = .ok (.invokevirtual 101, 3) := by decide +kernel
theorem dX7_lacks_36 : decode cX7_lacks 36 = .ok (.ireturn, 1) := by decide +kernel
theorem dX7_lacks_37 : decode cX7_lacks 37 = .ok (.aload_n 0, 1) := by decide +kernel
theorem dX7_lacks_38 : decode cX7_lacks 38 = .ok (.iload_n 1, 1) := by decide +kernel
theorem dX7_lacks_39 : decode cX7_lacks 39 = .ok (.invokevirtual 71, 3) := by decide +kernel
theorem dX7_lacks_42 : decode cX7_lacks 42 = .ok (.ifCond .ne 9, 3) := by decide +kernel
theorem dX7_lacks_45 : decode cX7_lacks 45 = .ok (.aload_n 0, 1) := by decide +kernel
theorem dX7_lacks_46 : decode cX7_lacks 46 = .ok (.iconst 3, 1) := by decide +kernel
theorem dX7_lacks_47 : decode cX7_lacks 47 = .ok (.invokevirtual 101, 3) := by decide +kernel
theorem dX7_lacks_50 : decode cX7_lacks 50 = .ok (.ireturn, 1) := by decide +kernel
theorem dX7_lacks_51 : decode cX7_lacks 51 = .ok (.aload_n 0, 1) := by decide +kernel
theorem dX7_lacks_52 : decode cX7_lacks 52 = .ok (.iconst 0, 1) := by decide +kernel
theorem dX7_lacks_53 : decode cX7_lacks 53 = .ok (.putfield 53, 3) := by decide +kernel
theorem dX7_lacks_56 : decode cX7_lacks 56 = .ok (.aload_n 0, 1) := by decide +kernel
theorem dX7_lacks_57 : decode cX7_lacks 57 = .ok (.iload_n 1, 1) := by decide +kernel
theorem dX7_lacks_58 : decode cX7_lacks 58 = .ok (.iload_n 2, 1) := by decide +kernel
theorem dX7_lacks_59 : decode cX7_lacks 59 = .ok (.invokevirtual 159, 3) := by decide +kernel
theorem dX7_lacks_62 : decode cX7_lacks 62 = .ok (.ireturn, 1) := by decide +kernel
theorem dX7_lots_0 : decode cX7_lots 0 = .ok (.aload_n 0, 1) := by decide +kernel
theorem dX7_lots_1 : decode cX7_lots 1 = .ok (.iconst 0, 1) := by decide +kernel
theorem dX7_lots_2 : decode cX7_lots 2 = .ok (.putfield 53, 3) := by decide +kernel
theorem dX7_lots_5 : decode cX7_lots 5 = .ok (.aload_n 0, 1) := by decide +kernel
theorem dX7_lots_6 : decode cX7_lots 6 = .ok (.getfield 156, 3) := by decide +kernel
theorem dX7_lots_9 : decode cX7_lots 9 = .ok (.ireturn, 1) := by decide +kernel
theorem dX7_copies_0 : decode cX7_copies 0 = .ok (.iload_n 1, 1) := by decide +kernel
theorem dX7_copies_1 : decode cX7_copies 1 = .ok (.iconst 0, 1) := by decide +kernel
theorem dX7_copies_2 : decode cX7_copies 2 = .ok (.aload_n 0, 1) := by decide +kernel
theorem dX7_copies_3 : decode cX7_copies 3 = .ok (.getfield 156, 3) := by decide +kernel
theorem dX7_copies_6 : decode cX7_copies 6 = .ok (.iconst 1, 1) := by decide +kernel
theorem dX7_copies_7 : decode cX7_copies 7 = .ok (.isub, 1) := by decide +kernel
theorem dX7_copies_8 : decode cX7_copies 8 = .ok (.invokestatic 60, 3) := by decide +kernel
theorem dX7_copies_11 : decode cX7_copies 11 = .ok (.ifCond .ne 9, 3) := by decide +kernel
theorem dX7_copies_14 : decode cX7_copies 14 = .ok (.aload_n 0, 1) := by decide +kernel
theorem dX7_copies_15 : decode cX7_copies 15 = .ok (.iconst 1, 1) := by decide +kernel
theorem dX7_copies_16 : decode cX7_copies 16 = .ok (.invokevirtual 101, 3) := by decide +kernel
theorem dX7_copies_19 : decode cX7_copies 19 = .ok (.ireturn, 1) := by decide +kernel
theorem dX7_copies_20 : decode cX7_copies 20 = .ok (.aload_n 0, 1) := by decide +kernel
theorem dX7_copies_21 : decode cX7_copies 21 = .ok (.iconst 0, 1) := by decide +kernel
theorem dX7_copies_22 : decode cX7_copies 22 = .ok (.putfield 53, 3) := by decide +kernel
theorem dX7_copies_25 : decode cX7_copies 25 = .ok (.aload_n 0, 1) := by decide +kernel
theorem dX7_copies_26 : decode cX7_copies 26 = .ok (.getfield 44, 3) := by decide +kernel
theorem dX7_copies_29 : decode cX7_copies 29 = .ok (.iload_n 1, 1) := by decide +kernel
theorem dX7_copies_30 : decode cX7_copies 30 = .ok (.iaload, 1) := by decide +kernel
theorem dX7_copies_31 : decode cX7_copies 31 = .ok (.ireturn, 1) := by decide +kernel
theorem dX7_stateIn_0 : decode cX7_stateIn 0 = .ok (.iload_n 1, 1) := by decide +kernel
theorem dX7_stateIn_1 : decode cX7_stateIn 1 = .ok (.iconst 0, 1) := by decide +kernel
theorem dX7_stateIn_2 : decode cX7_stateIn 2 = .ok (.aload_n 0, 1) := by decide +kernel
theorem dX7_stateIn_3 : decode cX7_stateIn 3 = .ok (.getfield 156, 3) := by decide +kernel
theorem dX7_stateIn_6 : decode cX7_stateIn 6 = .ok (.iconst 1, 1) := by decide +kernel
theorem dX7_stateIn_7 : decode cX7_stateIn 7 = .ok (.isub, 1) := by decide +kernel
theorem dX7_stateIn_8 : decode cX7_stateIn 8 = .ok (.invokestatic 60, 3) := by decide +kernel
theorem dX7_stateIn_11 : decode cX7_stateIn 11 = .ok (.ifCond .ne 9, 3) := by decide +kernel
theorem dX7_stateIn_14 : decode cX7_stateIn 14 = .ok (.aload_n 0, 1) := by decide +kernel
theorem dX7_stateIn_15 : decode cX7_stateIn 15 = .ok (.iconst 1, 1) := by decide +kernel
theorem dX7_stateIn_16 : decode cX7_stateIn 16 = .ok (.invokevirtual 101, 3) := by decide +kernel
theorem dX7_stateIn_19 : decode cX7_stateIn 19 = .ok (.ireturn, 1) := by decide +kernel
theorem dX7_stateIn_20 : decode cX7_stateIn 20 = .ok (.iload_n 2, 1) := by decide +kernel
theorem dX7_stateIn_21 : decode cX7_stateIn 21 = .ok (.iconst 1, 1) := by decide +kernel
theorem dX7_stateIn_22 : decode cX7_stateIn 22 = .ok (.aload_n 0, 1) := by decide +kernel
theorem dX7_stateIn_23 : decode cX7_stateIn 23 = .ok (.getfield 47, 3) := by decide +kernel
theorem dX7_stateIn_26 : decode cX7_stateIn 26 = .ok (.iload_n 1, 1) := by decide +kernel
theorem dX7_stateIn_27 : decode cX7_stateIn 27 = .ok (.iaload, 1) := by decide +kernel
theorem dX7_stateIn_28 : decode cX7_stateIn 28 = .ok (.invokestatic 60, 3) := by decide +kernel
theorem dX7_stateIn_31 : decode cX7_stateIn 31 = .ok (.ifCond .ne 9, 3) := by decide +kernel
theorem dX7_stateIn_34 : decode cX7_stateIn 34 = .ok (.aload_n 0, 1) := by decide +kernel
theorem dX7_stateIn_35 : decode cX7_stateIn 35 = .ok (.iconst 2, 1) := by decide +kernel
theorem dX7_stateIn_36 : decode cX7_stateIn 36 = .ok (.invokevirtual 101, 3) := by decide +kernel
theorem dX7_stateIn_39 : decode cX7_stateIn 39 = .ok (.ireturn, 1) := by decide +kernel
theorem dX7_stateIn_40 : decode cX7_stateIn 40 = .ok (.aload_n 0, 1) := by decide +kernel
theorem dX7_stateIn_41 : decode cX7_stateIn 41 = .ok (.iconst 0, 1) := by decide +kernel
theorem dX7_stateIn_42 : decode cX7_stateIn 42 = .ok (.putfield 53, 3) := by decide +kernel
theorem dX7_stateIn_45 : decode cX7_stateIn 45 = .ok (.aload_n 0, 1) := by decide +kernel
theorem dX7_stateIn_46 : decode cX7_stateIn 46 = .ok (.getfield 50, 3) := by decide +kernel
theorem dX7_stateIn_49 : decode cX7_stateIn 49 = .ok (.bipush 16, 2) := by decide +kernel
theorem dX7_stateIn_51 : decode cX7_stateIn 51 = .ok (.iload_n 1, 1) := by decide +kernel
theorem dX7_stateIn_52 : decode cX7_stateIn 52 = .ok (.imul, 1) := by decide +kernel
theorem dX7_stateIn_53 : decode cX7_stateIn 53 = .ok (.iload_n 2, 1) := by decide +kernel
theorem dX7_stateIn_54 : decode cX7_stateIn 54 = .ok (.iadd, 1) := by decide +kernel
theorem dX7_stateIn_55 : decode cX7_stateIn 55 = .ok (.iconst 1, 1) := by decide +kernel
theorem dX7_stateIn_56 : decode cX7_stateIn 56 = .ok (.isub, 1) := by decide +kernel
theorem dX7_stateIn_57 : decode cX7_stateIn 57 = .ok (.iaload, 1) := by decide +kernel
theorem dX7_stateIn_58 : decode cX7_stateIn 58 = .ok (.ireturn, 1) := by decide +kernel
theorem dX7_stateByReplay_0 : decode cX7_stateByReplay 0 = .ok (.aload_n 0, 1) := by decide +kernel
theorem dX7_stateByReplay_1 : decode cX7_stateByReplay 1 = .ok (.iload_n 1, 1) := by decide +kernel
theorem dX7_stateByReplay_2 : decode cX7_stateByReplay 2 = .ok (.iload_n 2, 1) := by decide +kernel
theorem dX7_stateByReplay_3 : decode cX7_stateByReplay 3 = .ok (.invokevirtual 162, 3) := by decide +kernel
theorem dX7_stateByReplay_6 : decode cX7_stateByReplay 6 = .ok (.ireturn, 1) := by decide +kernel
theorem dX7_outdated_0 : decode cX7_outdated 0 = .ok (.aload_n 0, 1) := by decide +kernel
theorem dX7_outdated_1 : decode cX7_outdated 1 = .ok (.iload_n 1, 1) := by decide +kernel
theorem dX7_outdated_2 : decode cX7_outdated 2 = .ok (.invokevirtual 104, 3) := by decide +kernel
theorem dX7_outdated_5 : decode cX7_outdated 5 = .ok (.ifCond .ne 5, 3) := by decide +kernel
theorem dX7_outdated_8 : decode cX7_outdated 8 = .ok (.iconst 0, 1) := by decide +kernel
theorem dX7_outdated_9 : decode cX7_outdated 9 = .ok (.ireturn, 1) := by decide +kernel
theorem dX7_outdated_10 : decode cX7_outdated 10 = .ok (.iconst 0, 1) := by decide +kernel
theorem dX7_outdated_11 : decode cX7_outdated 11 = .ok (.istore_n 2, 1) := by decide +kernel
theorem dX7_outdated_12 : decode cX7_outdated 12 = .ok (.iconst 0, 1) := by decide +kernel
theorem dX7_outdated_13 : decode cX7_outdated 13 = .ok (.istore_n 3, 1) := by decide +kernel
theorem dX7_outdated_14 : decode cX7_outdated 14 = .ok (.iload_n 3, 1) := by decide +kernel
theorem dX7_outdated_15 : decode cX7_outdated 15 = .ok (.aload_n 0, 1) := by decide +kernel
theorem dX7_outdated_16 : decode cX7_outdated 16 = .ok (.getfield 156, 3) := by decide +kernel
theorem dX7_outdated_19 : decode cX7_outdated 19 = .ok (.if_icmp .ge 104, 3) := by decide +kernel
theorem dX7_outdated_22 : decode cX7_outdated 22 = .ok (.iconst 0, 1) := by decide +kernel
theorem dX7_outdated_23 : decode cX7_outdated 23 = .ok (.istore 4, 2) := by decide +kernel
theorem dX7_outdated_25 : decode cX7_outdated 25 = .ok (.iconst 0, 1) := by decide +kernel
theorem dX7_outdated_26 : decode cX7_outdated 26 = .ok (.istore 5, 2) := by decide +kernel
theorem dX7_outdated_28 : decode cX7_outdated 28 = .ok (.iload 5, 2) := by decide +kernel
theorem dX7_outdated_30 : decode cX7_outdated 30 = .ok (.aload_n 0, 1) := by decide +kernel
theorem dX7_outdated_31 : decode cX7_outdated 31 = .ok (.getfield 47, 3) := by decide +kernel
theorem dX7_outdated_34 : decode cX7_outdated 34 = .ok (.iload_n 3, 1) := by decide +kernel
theorem dX7_outdated_35 : decode cX7_outdated 35 = .ok (.iaload, 1) := by decide +kernel
theorem dX7_outdated_36 : decode cX7_outdated 36 = .ok (.if_icmp .ge 63, 3) := by decide +kernel
theorem dX7_outdated_39 : decode cX7_outdated 39 = .ok (.iload 4, 2) := by decide +kernel
theorem dX7_outdated_41 : decode cX7_outdated 41 = .ok (.ifCond .ne 45, 3) := by decide +kernel
theorem dX7_outdated_44 : decode cX7_outdated 44 = .ok (.aload_n 0, 1) := by decide +kernel
theorem dX7_outdated_45 : decode cX7_outdated 45 = .ok (.getfield 19, 3) := by decide +kernel
theorem dX7_outdated_48 : decode cX7_outdated 48 = .ok (.bipush 16, 2) := by decide +kernel
theorem dX7_outdated_50 : decode cX7_outdated 50 = .ok (.aload_n 0, 1) := by decide +kernel
theorem dX7_outdated_51 : decode cX7_outdated 51 = .ok (.getfield 41, 3) := by decide +kernel
theorem dX7_outdated_54 : decode cX7_outdated 54 = .ok (.iload_n 3, 1) := by decide +kernel
theorem dX7_outdated_55 : decode cX7_outdated 55 = .ok (.iaload, 1) := by decide +kernel
theorem dX7_outdated_56 : decode cX7_outdated 56 = .ok (.imul, 1) := by decide +kernel
theorem dX7_outdated_57 : decode cX7_outdated 57 = .ok (.iload 5, 2) := by decide +kernel
theorem dX7_outdated_59 : decode cX7_outdated 59 = .ok (.iadd, 1) := by decide +kernel
theorem dX7_outdated_60 : decode cX7_outdated 60 = .ok (.iaload, 1) := by decide +kernel
theorem dX7_outdated_61 : decode cX7_outdated 61 = .ok (.iload_n 1, 1) := by decide +kernel
theorem dX7_outdated_62 : decode cX7_outdated 62 = .ok (.if_icmp .ne 28, 3) := by decide +kernel
theorem dX7_outdated_65 : decode cX7_outdated 65 = .ok (.aload_n 0, 1) := by decide +kernel
theorem dX7_outdated_66 : decode cX7_outdated 66 = .ok (.getfield 50, 3) := by decide +kernel
theorem dX7_outdated_69 : decode cX7_outdated 69 = .ok (.bipush 16, 2) := by decide +kernel
theorem dX7_outdated_71 : decode cX7_outdated 71 = .ok (.iload_n 3, 1) := by decide +kernel
theorem dX7_outdated_72 : decode cX7_outdated 72 = .ok (.imul, 1) := by decide +kernel
theorem dX7_outdated_73 : decode cX7_outdated 73 = .ok (.iload 5, 2) := by decide +kernel
theorem dX7_outdated_75 : decode cX7_outdated 75 = .ok (.iadd, 1) := by decide +kernel
theorem dX7_outdated_76 : decode cX7_outdated 76 = .ok (.iaload, 1) := by decide +kernel
theorem dX7_outdated_77 : decode cX7_outdated 77 = .ok (.aload_n 0, 1) := by decide +kernel
theorem dX7_outdated_78 : decode cX7_outdated 78 = .ok (.getfield 7, 3) := by decide +kernel
theorem dX7_outdated_81 : decode cX7_outdated 81 = .ok (.iload_n 1, 1) := by decide +kernel
theorem dX7_outdated_82 : decode cX7_outdated 82 = .ok (.iaload, 1) := by decide +kernel
theorem dX7_outdated_83 : decode cX7_outdated 83 = .ok (.if_icmp .eq 7, 3) := by decide +kernel
theorem dX7_outdated_86 : decode cX7_outdated 86 = .ok (.iconst 1, 1) := by decide +kernel
theorem dX7_outdated_87 : decode cX7_outdated 87 = .ok (.goto 4, 3) := by decide +kernel
theorem dX7_outdated_90 : decode cX7_outdated 90 = .ok (.iconst 0, 1) := by decide +kernel
theorem dX7_outdated_91 : decode cX7_outdated 91 = .ok (.istore 4, 2) := by decide +kernel
theorem dX7_outdated_93 : decode cX7_outdated 93 = .ok (.iinc 5 1, 3) := by decide +kernel
theorem dX7_outdated_96 : decode cX7_outdated 96 = .ok (.goto (-68), 3) := by decide +kernel
theorem dX7_outdated_99 : decode cX7_outdated 99 = .ok (.iload_n 2, 1) := by decide +kernel
theorem dX7_outdated_100 : decode cX7_outdated 100 = .ok (.iload 4, 2) := by decide +kernel
theorem dX7_outdated_102 : decode cX7_outdated 102 = .ok (.ifCond .eq 12, 3) := by decide +kernel
theorem dX7_outdated_105 : decode cX7_outdated 105 = .ok (.aload_n 0, 1) := by decide +kernel
theorem dX7_outdated_106 : decode cX7_outdated 106 = .ok (.getfield 44, 3) := by decide +kernel
theorem dX7_outdated_109 : decode cX7_outdated 109 = .ok (.iload_n 3, 1) := by decide +kernel
theorem dX7_outdated_110 : decode cX7_outdated 110 = .ok (.iaload, 1) := by decide +kernel
theorem dX7_outdated_111 : decode cX7_outdated 111 = .ok (.goto 4, 3) := by decide +kernel
theorem dX7_outdated_114 : decode cX7_outdated 114 = .ok (.iconst 0, 1) := by decide +kernel
theorem dX7_outdated_115 : decode cX7_outdated 115 = .ok (.iadd, 1) := by decide +kernel
theorem dX7_outdated_116 : decode cX7_outdated 116 = .ok (.istore_n 2, 1) := by decide +kernel
theorem dX7_outdated_117 : decode cX7_outdated 117 = .ok (.iinc 3 1, 3) := by decide +kernel
theorem dX7_outdated_120 : decode cX7_outdated 120 = .ok (.goto (-106), 3) := by decide +kernel
theorem dX7_outdated_123 : decode cX7_outdated 123 = .ok (.iload_n 2, 1) := by decide +kernel
theorem dX7_outdated_124 : decode cX7_outdated 124 = .ok (.ireturn, 1) := by decide +kernel
theorem dX7_waste_0 : decode cX7_waste 0 = .ok (.aload_n 0, 1) := by decide +kernel
theorem dX7_waste_1 : decode cX7_waste 1 = .ok (.iconst 0, 1) := by decide +kernel
theorem dX7_waste_2 : decode cX7_waste 2 = .ok (.putfield 53, 3) := by decide +kernel
theorem dX7_waste_5 : decode cX7_waste 5 = .ok (.aload_n 0, 1) := by decide +kernel
theorem dX7_waste_6 : decode cX7_waste 6 = .ok (.getfield 97, 3) := by decide +kernel
theorem dX7_waste_9 : decode cX7_waste 9 = .ok (.lreturn, 1) := by decide +kernel
theorem dX7_wasteShare_0 : decode cX7_wasteShare 0 = .ok (.aload_n 0, 1) := by decide +kernel
theorem dX7_wasteShare_1 : decode cX7_wasteShare 1 = .ok (.aload_n 0, 1) := by decide +kernel
theorem dX7_wasteShare_2 : decode cX7_wasteShare 2 = .ok (.getfield 138, 3) := by decide +kernel
theorem dX7_wasteShare_5 : decode cX7_wasteShare 5 = .ok (.lconst 0, 1) := by decide +kernel
theorem dX7_wasteShare_6 : decode cX7_wasteShare 6 = .ok (.lcmp, 1) := by decide +kernel
theorem dX7_wasteShare_7 : decode cX7_wasteShare 7 = .ok (.ifCond .ne 7, 3) := by decide +kernel
theorem dX7_wasteShare_10 : decode cX7_wasteShare 10 = .ok (.iconst 1, 1) := by decide +kernel
theorem dX7_wasteShare_11 : decode cX7_wasteShare 11 = .ok (.goto 4, 3) := by decide +kernel
theorem dX7_wasteShare_14 : decode cX7_wasteShare 14 = .ok (.iconst 0, 1) := by decide +kernel
theorem dX7_wasteShare_15 : decode cX7_wasteShare 15 = .ok (.putfield 53, 3) := by decide +kernel
theorem dX7_wasteShare_18 : decode cX7_wasteShare 18 = .ok (.aload_n 0, 1) := by decide +kernel
theorem dX7_wasteShare_19 : decode cX7_wasteShare 19 = .ok (.getfield 138, 3) := by decide +kernel
theorem dX7_wasteShare_22 : decode cX7_wasteShare 22 = .ok (.lconst 0, 1) := by decide +kernel
theorem dX7_wasteShare_23 : decode cX7_wasteShare 23 = .ok (.lcmp, 1) := by decide +kernel
theorem dX7_wasteShare_24 : decode cX7_wasteShare 24 = .ok (.ifCond .ne 7, 3) := by decide +kernel
theorem dX7_wasteShare_27 : decode cX7_wasteShare 27 = .ok (.fconst 0, 1) := by decide +kernel
theorem dX7_wasteShare_28 : decode cX7_wasteShare 28 = .ok (.goto 14, 3) := by decide +kernel
theorem dX7_wasteShare_31 : decode cX7_wasteShare 31 = .ok (.aload_n 0, 1) := by decide +kernel
theorem dX7_wasteShare_32 : decode cX7_wasteShare 32 = .ok (.getfield 97, 3) := by decide +kernel
theorem dX7_wasteShare_35 : decode cX7_wasteShare 35 = .ok (.l2f, 1) := by decide +kernel
theorem dX7_wasteShare_36 : decode cX7_wasteShare 36 = .ok (.aload_n 0, 1) := by decide +kernel
theorem dX7_wasteShare_37 : decode cX7_wasteShare 37 = .ok (.getfield 138, 3) := by decide +kernel
theorem dX7_wasteShare_40 : decode cX7_wasteShare 40 = .ok (.l2f, 1) := by decide +kernel
theorem dX7_wasteShare_41 : decode cX7_wasteShare 41 = .ok (.fdiv, 1) := by decide +kernel
theorem dX7_wasteShare_42 : decode cX7_wasteShare 42 = .ok (.freturn, 1) := by decide +kernel
theorem dX7_meanMakeready_0 : decode cX7_meanMakeready 0 = .ok (.aload_n 0, 1) := by decide +kernel
theorem dX7_meanMakeready_1 : decode cX7_meanMakeready 1 = .ok (.aload_n 0, 1) := by decide +kernel
theorem dX7_meanMakeready_2 : decode cX7_meanMakeready 2 = .ok (.getfield 141, 3) := by decide +kernel
theorem dX7_meanMakeready_5 : decode cX7_meanMakeready 5 = .ok (.ifCond .ne 7, 3) := by decide +kernel
theorem dX7_meanMakeready_8 : decode cX7_meanMakeready 8 = .ok (.iconst 1, 1) := by decide +kernel
theorem dX7_meanMakeready_9 : decode cX7_meanMakeready 9 = .ok (.goto 4, 3) := by decide +kernel
theorem dX7_meanMakeready_12 : decode cX7_meanMakeready 12 = .ok (.iconst 0, 1) := by decide +kernel
theorem dX7_meanMakeready_13 : decode cX7_meanMakeready 13 = .ok (.putfield 53, 3) := by decide +kernel
theorem dX7_meanMakeready_16 : decode cX7_meanMakeready 16 = .ok (.aload_n 0, 1) := by decide +kernel
theorem dX7_meanMakeready_17 : decode cX7_meanMakeready 17 = .ok (.getfield 141, 3) := by decide +kernel
theorem dX7_meanMakeready_20 : decode cX7_meanMakeready 20 = .ok (.ifCond .ne 7, 3) := by decide +kernel
theorem dX7_meanMakeready_23 : decode cX7_meanMakeready 23 = .ok (.dconst 0, 1) := by decide +kernel
theorem dX7_meanMakeready_24 : decode cX7_meanMakeready 24 = .ok (.goto 14, 3) := by decide +kernel
theorem dX7_meanMakeready_27 : decode cX7_meanMakeready 27 = .ok (.aload_n 0, 1) := by decide +kernel
theorem dX7_meanMakeready_28 : decode cX7_meanMakeready 28 = .ok (.getfield 144, 3) := by decide +kernel
theorem dX7_meanMakeready_31 : decode cX7_meanMakeready 31 = .ok (.i2d, 1) := by decide +kernel
theorem dX7_meanMakeready_32 : decode cX7_meanMakeready 32 = .ok (.aload_n 0, 1) := by decide +kernel
theorem dX7_meanMakeready_33 : decode cX7_meanMakeready 33 = .ok (.getfield 141, 3) := by decide +kernel
theorem dX7_meanMakeready_36 : decode cX7_meanMakeready 36 = .ok (.i2d, 1) := by decide +kernel
theorem dX7_meanMakeready_37 : decode cX7_meanMakeready 37 = .ok (.ddiv, 1) := by decide +kernel
theorem dX7_meanMakeready_38 : decode cX7_meanMakeready 38 = .ok (.dreturn, 1) := by decide +kernel
theorem dL_addContent_0 : decode cL_addContent 0 = .ok (.aload_n 1, 1) := by decide +kernel
theorem dL_addContent_1 : decode cL_addContent 1 = .ok (.iconst 0, 1) := by decide +kernel
theorem dL_addContent_2 : decode cL_addContent 2 = .ok (.aload_n 0, 1) := by decide +kernel
theorem dL_addContent_3 : decode cL_addContent 3 = .ok (.invokevirtual 7, 3) := by decide +kernel
theorem dL_addContent_6 : decode cL_addContent 6 = .ok (.i2l, 1) := by decide +kernel
theorem dL_addContent_7 : decode cL_addContent 7 = .ok (.lastore, 1) := by decide +kernel
theorem dL_addContent_8 : decode cL_addContent 8 = .ok (.goto 6, 3) := by decide +kernel
theorem dL_addContent_11 : decode cL_addContent 11 = .ok (.astore_n 2, 1) := by decide +kernel
theorem dL_addContent_12 : decode cL_addContent 12 = .ok (.iconst 1, 1) := by decide +kernel
theorem dL_addContent_13 : decode cL_addContent 13 = .ok (.ireturn, 1) := by decide +kernel
theorem dL_addContent_14 : decode cL_addContent 14 = .ok (.iconst 0, 1) := by decide +kernel
theorem dL_addContent_15 : decode cL_addContent 15 = .ok (.ireturn, 1) := by decide +kernel
theorem dL_approve_0 : decode cL_approve 0 = .ok (.aload_n 2, 1) := by decide +kernel
theorem dL_approve_1 : decode cL_approve 1 = .ok (.iconst 0, 1) := by decide +kernel
theorem dL_approve_2 : decode cL_approve 2 = .ok (.aload_n 0, 1) := by decide +kernel
theorem dL_approve_3 : decode cL_approve 3 = .ok (.iload_n 1, 1) := by decide +kernel
theorem dL_approve_4 : decode cL_approve 4 = .ok (.invokevirtual 15, 3) := by decide +kernel
theorem dL_approve_7 : decode cL_approve 7 = .ok (.ifCond .eq 7, 3) := by decide +kernel
theorem dL_approve_10 : decode cL_approve 10 = .ok (.lconst 1, 1) := by decide +kernel
theorem dL_approve_11 : decode cL_approve 11 = .ok (.goto 4, 3) := by decide +kernel
theorem dL_approve_14 : decode cL_approve 14 = .ok (.lconst 0, 1) := by decide +kernel
theorem dL_approve_15 : decode cL_approve 15 = .ok (.lastore, 1) := by decide +kernel
theorem dL_approve_16 : decode cL_approve 16 = .ok (.goto 6, 3) := by decide +kernel
theorem dL_approve_19 : decode cL_approve 19 = .ok (.astore_n 3, 1) := by decide +kernel
theorem dL_approve_20 : decode cL_approve 20 = .ok (.iconst 1, 1) := by decide +kernel
theorem dL_approve_21 : decode cL_approve 21 = .ok (.ireturn, 1) := by decide +kernel
theorem dL_approve_22 : decode cL_approve 22 = .ok (.iconst 0, 1) := by decide +kernel
theorem dL_approve_23 : decode cL_approve 23 = .ok (.ireturn, 1) := by decide +kernel
theorem dL_correct_0 : decode cL_correct 0 = .ok (.aload_n 2, 1) := by decide +kernel
theorem dL_correct_1 : decode cL_correct 1 = .ok (.iconst 0, 1) := by decide +kernel
theorem dL_correct_2 : decode cL_correct 2 = .ok (.aload_n 0, 1) := by decide +kernel
theorem dL_correct_3 : decode cL_correct 3 = .ok (.iload_n 1, 1) := by decide +kernel
theorem dL_correct_4 : decode cL_correct 4 = .ok (.invokevirtual 21, 3) := by decide +kernel
theorem dL_correct_7 : decode cL_correct 7 = .ok (.i2l, 1) := by decide +kernel
theorem dL_correct_8 : decode cL_correct 8 = .ok (.lastore, 1) := by decide +kernel
theorem dL_correct_9 : decode cL_correct 9 = .ok (.goto 9, 3) := by decide +kernel
theorem dL_correct_12 : decode cL_correct 12 = .ok (.astore_n 3, 1) := by decide +kernel
theorem dL_correct_13 : decode cL_correct 13 = .ok (.iconst 1, 1) := by decide +kernel
theorem dL_correct_14 : decode cL_correct 14 = .ok (.ireturn, 1) := by decide +kernel
theorem dL_correct_15 : decode cL_correct 15 = .ok (.astore_n 3, 1) := by decide +kernel
theorem dL_correct_16 : decode cL_correct 16 = .ok (.iconst 2, 1) := by decide +kernel
theorem dL_correct_17 : decode cL_correct 17 = .ok (.ireturn, 1) := by decide +kernel
theorem dL_correct_18 : decode cL_correct 18 = .ok (.iconst 0, 1) := by decide +kernel
theorem dL_correct_19 : decode cL_correct 19 = .ok (.ireturn, 1) := by decide +kernel
theorem dL_state_0 : decode cL_state 0 = .ok (.aload_n 2, 1) := by decide +kernel
theorem dL_state_1 : decode cL_state 1 = .ok (.iconst 0, 1) := by decide +kernel
theorem dL_state_2 : decode cL_state 2 = .ok (.aload_n 0, 1) := by decide +kernel
theorem dL_state_3 : decode cL_state 3 = .ok (.iload_n 1, 1) := by decide +kernel
theorem dL_state_4 : decode cL_state 4 = .ok (.invokevirtual 25, 3) := by decide +kernel
theorem dL_state_7 : decode cL_state 7 = .ok (.i2l, 1) := by decide +kernel
theorem dL_state_8 : decode cL_state 8 = .ok (.lastore, 1) := by decide +kernel
theorem dL_state_9 : decode cL_state 9 = .ok (.goto 6, 3) := by decide +kernel
theorem dL_state_12 : decode cL_state 12 = .ok (.astore_n 3, 1) := by decide +kernel
theorem dL_state_13 : decode cL_state 13 = .ok (.iconst 1, 1) := by decide +kernel
theorem dL_state_14 : decode cL_state 14 = .ok (.ireturn, 1) := by decide +kernel
theorem dL_state_15 : decode cL_state 15 = .ok (.iconst 0, 1) := by decide +kernel
theorem dL_state_16 : decode cL_state 16 = .ok (.ireturn, 1) := by decide +kernel
theorem dL_addJob_0 : decode cL_addJob 0 = .ok (.aload_n 2, 1) := by decide +kernel
theorem dL_addJob_1 : decode cL_addJob 1 = .ok (.iconst 0, 1) := by decide +kernel
theorem dL_addJob_2 : decode cL_addJob 2 = .ok (.aload_n 0, 1) := by decide +kernel
theorem dL_addJob_3 : decode cL_addJob 3 = .ok (.iload_n 1, 1) := by decide +kernel
theorem dL_addJob_4 : decode cL_addJob 4 = .ok (.invokevirtual 28, 3) := by decide +kernel
theorem dL_addJob_7 : decode cL_addJob 7 = .ok (.i2l, 1) := by decide +kernel
theorem dL_addJob_8 : decode cL_addJob 8 = .ok (.lastore, 1) := by decide +kernel
theorem dL_addJob_9 : decode cL_addJob 9 = .ok (.goto 9, 3) := by decide +kernel
theorem dL_addJob_12 : decode cL_addJob 12 = .ok (.astore_n 3, 1) := by decide +kernel
theorem dL_addJob_13 : decode cL_addJob 13 = .ok (.iconst 1, 1) := by decide +kernel
theorem dL_addJob_14 : decode cL_addJob 14 = .ok (.ireturn, 1) := by decide +kernel
theorem dL_addJob_15 : decode cL_addJob 15 = .ok (.astore_n 3, 1) := by decide +kernel
theorem dL_addJob_16 : decode cL_addJob 16 = .ok (.iconst 2, 1) := by decide +kernel
theorem dL_addJob_17 : decode cL_addJob 17 = .ok (.ireturn, 1) := by decide +kernel
theorem dL_addJob_18 : decode cL_addJob 18 = .ok (.iconst 0, 1) := by decide +kernel
theorem dL_addJob_19 : decode cL_addJob 19 = .ok (.ireturn, 1) := by decide +kernel
theorem dL_addPage_0 : decode cL_addPage 0 = .ok (.aload_n 3, 1) := by decide +kernel
theorem dL_addPage_1 : decode cL_addPage 1 = .ok (.iconst 0, 1) := by decide +kernel
theorem dL_addPage_2 : decode cL_addPage 2 = .ok (.aload_n 0, 1) := by decide +kernel
theorem dL_addPage_3 : decode cL_addPage 3 = .ok (.iload_n 1, 1) := by decide +kernel
theorem dL_addPage_4 : decode cL_addPage 4 = .ok (.iload_n 2, 1) := by decide +kernel
theorem dL_addPage_5 : decode cL_addPage 5 = .ok (.invokevirtual 34, 3) := by decide +kernel
theorem dL_addPage_8 : decode cL_addPage 8 = .ok (.i2l, 1) := by decide +kernel
theorem dL_addPage_9 : decode cL_addPage 9 = .ok (.lastore, 1) := by decide +kernel
theorem dL_addPage_10 : decode cL_addPage 10 = .ok (.goto 11, 3) := by decide +kernel
theorem dL_addPage_13 : decode cL_addPage 13 = .ok (.astore 4, 2) := by decide +kernel
theorem dL_addPage_15 : decode cL_addPage 15 = .ok (.iconst 1, 1) := by decide +kernel
theorem dL_addPage_16 : decode cL_addPage 16 = .ok (.ireturn, 1) := by decide +kernel
theorem dL_addPage_17 : decode cL_addPage 17 = .ok (.astore 4, 2) := by decide +kernel
theorem dL_addPage_19 : decode cL_addPage 19 = .ok (.iconst 2, 1) := by decide +kernel
theorem dL_addPage_20 : decode cL_addPage 20 = .ok (.ireturn, 1) := by decide +kernel
theorem dL_addPage_21 : decode cL_addPage 21 = .ok (.iconst 0, 1) := by decide +kernel
theorem dL_addPage_22 : decode cL_addPage 22 = .ok (.ireturn, 1) := by decide +kernel
theorem dL_pages_0 : decode cL_pages 0 = .ok (.aload_n 2, 1) := by decide +kernel
theorem dL_pages_1 : decode cL_pages 1 = .ok (.iconst 0, 1) := by decide +kernel
theorem dL_pages_2 : decode cL_pages 2 = .ok (.aload_n 0, 1) := by decide +kernel
theorem dL_pages_3 : decode cL_pages 3 = .ok (.iload_n 1, 1) := by decide +kernel
theorem dL_pages_4 : decode cL_pages 4 = .ok (.invokevirtual 38, 3) := by decide +kernel
theorem dL_pages_7 : decode cL_pages 7 = .ok (.i2l, 1) := by decide +kernel
theorem dL_pages_8 : decode cL_pages 8 = .ok (.lastore, 1) := by decide +kernel
theorem dL_pages_9 : decode cL_pages 9 = .ok (.goto 6, 3) := by decide +kernel
theorem dL_pages_12 : decode cL_pages 12 = .ok (.astore_n 3, 1) := by decide +kernel
theorem dL_pages_13 : decode cL_pages 13 = .ok (.iconst 1, 1) := by decide +kernel
theorem dL_pages_14 : decode cL_pages 14 = .ok (.ireturn, 1) := by decide +kernel
theorem dL_pages_15 : decode cL_pages 15 = .ok (.iconst 0, 1) := by decide +kernel
theorem dL_pages_16 : decode cL_pages 16 = .ok (.ireturn, 1) := by decide +kernel
theorem dL_sheets_0 : decode cL_sheets 0 = .ok (.aload_n 2, 1) := by decide +kernel
theorem dL_sheets_1 : decode cL_sheets 1 = .ok (.iconst 0, 1) := by decide +kernel
theorem dL_sheets_2 : decode cL_sheets 2 = .ok (.aload_n 0, 1) := by decide +kernel
theorem dL_sheets_3 : decode cL_sheets 3 = .ok (.iload_n 1, 1) := by decide +kernel
theorem dL_sheets_4 : decode cL_sheets 4 = .ok (.invokevirtual 41, 3) := by decide +kernel
theorem dL_sheets_7 : decode cL_sheets 7 = .ok (.i2l, 1) := by decide +kernel
theorem dL_sheets_8 : decode cL_sheets 8 = .ok (.lastore, 1) := by decide +kernel
theorem dL_sheets_9 : decode cL_sheets 9 = .ok (.goto 9, 3) := by decide +kernel
theorem dL_sheets_12 : decode cL_sheets 12 = .ok (.astore_n 3, 1) := by decide +kernel
theorem dL_sheets_13 : decode cL_sheets 13 = .ok (.iconst 1, 1) := by decide +kernel
theorem dL_sheets_14 : decode cL_sheets 14 = .ok (.ireturn, 1) := by decide +kernel
theorem dL_sheets_15 : decode cL_sheets 15 = .ok (.astore_n 3, 1) := by decide +kernel
theorem dL_sheets_16 : decode cL_sheets 16 = .ok (.iconst 2, 1) := by decide +kernel
theorem dL_sheets_17 : decode cL_sheets 17 = .ok (.ireturn, 1) := by decide +kernel
theorem dL_sheets_18 : decode cL_sheets 18 = .ok (.iconst 0, 1) := by decide +kernel
theorem dL_sheets_19 : decode cL_sheets 19 = .ok (.ireturn, 1) := by decide +kernel
theorem dL_pageAt_0 : decode cL_pageAt 0 = .ok (.aload 4, 2) := by decide +kernel
theorem dL_pageAt_2 : decode cL_pageAt 2 = .ok (.iconst 0, 1) := by decide +kernel
theorem dL_pageAt_3 : decode cL_pageAt 3 = .ok (.aload_n 0, 1) := by decide +kernel
theorem dL_pageAt_4 : decode cL_pageAt 4 = .ok (.iload_n 1, 1) := by decide +kernel
theorem dL_pageAt_5 : decode cL_pageAt 5 = .ok (.iload_n 2, 1) := by decide +kernel
theorem dL_pageAt_6 : decode cL_pageAt 6 = .ok (.iload_n 3, 1) := by decide +kernel
theorem dL_pageAt_7 : decode cL_pageAt 7 = .ok (.invokevirtual 44, 3) := by decide +kernel
theorem dL_pageAt_10 : decode cL_pageAt 10 = .ok (.i2l, 1) := by decide +kernel
theorem dL_pageAt_11 : decode cL_pageAt 11 = .ok (.lastore, 1) := by decide +kernel
theorem dL_pageAt_12 : decode cL_pageAt 12 = .ok (.goto 15, 3) := by decide +kernel
theorem dL_pageAt_15 : decode cL_pageAt 15 = .ok (.astore 5, 2) := by decide +kernel
theorem dL_pageAt_17 : decode cL_pageAt 17 = .ok (.iconst 1, 1) := by decide +kernel
theorem dL_pageAt_18 : decode cL_pageAt 18 = .ok (.ireturn, 1) := by decide +kernel
theorem dL_pageAt_19 : decode cL_pageAt 19 = .ok (.astore 5, 2) := by decide +kernel
theorem dL_pageAt_21 : decode cL_pageAt 21 = .ok (.iconst 2, 1) := by decide +kernel
theorem dL_pageAt_22 : decode cL_pageAt 22 = .ok (.ireturn, 1) := by decide +kernel
theorem dL_pageAt_23 : decode cL_pageAt 23 = .ok (.astore 5, 2) := by decide +kernel
theorem dL_pageAt_25 : decode cL_pageAt 25 = .ok (.iconst 3, 1) := by decide +kernel
theorem dL_pageAt_26 : decode cL_pageAt 26 = .ok (.ireturn, 1) := by decide +kernel
theorem dL_pageAt_27 : decode cL_pageAt 27 = .ok (.iconst 0, 1) := by decide +kernel
theorem dL_pageAt_28 : decode cL_pageAt 28 = .ok (.ireturn, 1) := by decide +kernel
theorem dL_sheetOf_0 : decode cL_sheetOf 0 = .ok (.aload_n 3, 1) := by decide +kernel
theorem dL_sheetOf_1 : decode cL_sheetOf 1 = .ok (.iconst 0, 1) := by decide +kernel
theorem dL_sheetOf_2 : decode cL_sheetOf 2 = .ok (.aload_n 0, 1) := by decide +kernel
theorem dL_sheetOf_3 : decode cL_sheetOf 3 = .ok (.iload_n 1, 1) := by decide +kernel
theorem dL_sheetOf_4 : decode cL_sheetOf 4 = .ok (.iload_n 2, 1) := by decide +kernel
theorem dL_sheetOf_5 : decode cL_sheetOf 5 = .ok (.invokevirtual 50, 3) := by decide +kernel
theorem dL_sheetOf_8 : decode cL_sheetOf 8 = .ok (.i2l, 1) := by decide +kernel
theorem dL_sheetOf_9 : decode cL_sheetOf 9 = .ok (.lastore, 1) := by decide +kernel
theorem dL_sheetOf_10 : decode cL_sheetOf 10 = .ok (.goto 15, 3) := by decide +kernel
theorem dL_sheetOf_13 : decode cL_sheetOf 13 = .ok (.astore 4, 2) := by decide +kernel
theorem dL_sheetOf_15 : decode cL_sheetOf 15 = .ok (.iconst 1, 1) := by decide +kernel
theorem dL_sheetOf_16 : decode cL_sheetOf 16 = .ok (.ireturn, 1) := by decide +kernel
theorem dL_sheetOf_17 : decode cL_sheetOf 17 = .ok (.astore 4, 2) := by decide +kernel
theorem dL_sheetOf_19 : decode cL_sheetOf 19 = .ok (.iconst 2, 1) := by decide +kernel
theorem dL_sheetOf_20 : decode cL_sheetOf 20 = .ok (.ireturn, 1) := by decide +kernel
theorem dL_sheetOf_21 : decode cL_sheetOf 21 = .ok (.astore 4, 2) := by decide +kernel
theorem dL_sheetOf_23 : decode cL_sheetOf 23 = .ok (.iconst 3, 1) := by decide +kernel
theorem dL_sheetOf_24 : decode cL_sheetOf 24 = .ok (.ireturn, 1) := by decide +kernel
theorem dL_sheetOf_25 : decode cL_sheetOf 25 = .ok (.iconst 0, 1) := by decide +kernel
theorem dL_sheetOf_26 : decode cL_sheetOf 26 = .ok (.ireturn, 1) := by decide +kernel
theorem dL_print_0 : decode cL_print 0 = .ok (.aload 4, 2) := by decide +kernel
theorem dL_print_2 : decode cL_print 2 = .ok (.iconst 0, 1) := by decide +kernel
theorem dL_print_3 : decode cL_print 3 = .ok (.aload_n 0, 1) := by decide +kernel
theorem dL_print_4 : decode cL_print 4 = .ok (.iload_n 1, 1) := by decide +kernel
theorem dL_print_5 : decode cL_print 5 = .ok (.iload_n 2, 1) := by decide +kernel
theorem dL_print_6 : decode cL_print 6 = .ok (.iload_n 3, 1) := by decide +kernel
theorem dL_print_7 : decode cL_print 7 = .ok (.invokevirtual 53, 3) := by decide +kernel
theorem dL_print_10 : decode cL_print 10 = .ok (.i2l, 1) := by decide +kernel
theorem dL_print_11 : decode cL_print 11 = .ok (.lastore, 1) := by decide +kernel
theorem dL_print_12 : decode cL_print 12 = .ok (.goto 23, 3) := by decide +kernel
theorem dL_print_15 : decode cL_print 15 = .ok (.astore 5, 2) := by decide +kernel
theorem dL_print_17 : decode cL_print 17 = .ok (.iconst 1, 1) := by decide +kernel
theorem dL_print_18 : decode cL_print 18 = .ok (.ireturn, 1) := by decide +kernel
theorem dL_print_19 : decode cL_print 19 = .ok (.astore 5, 2) := by decide +kernel
theorem dL_print_21 : decode cL_print 21 = .ok (.iconst 2, 1) := by decide +kernel
theorem dL_print_22 : decode cL_print 22 = .ok (.ireturn, 1) := by decide +kernel
theorem dL_print_23 : decode cL_print 23 = .ok (.astore 5, 2) := by decide +kernel
theorem dL_print_25 : decode cL_print 25 = .ok (.iconst 3, 1) := by decide +kernel
theorem dL_print_26 : decode cL_print 26 = .ok (.ireturn, 1) := by decide +kernel
theorem dL_print_27 : decode cL_print 27 = .ok (.astore 5, 2) := by decide +kernel
theorem dL_print_29 : decode cL_print 29 = .ok (.iconst 4, 1) := by decide +kernel
theorem dL_print_30 : decode cL_print 30 = .ok (.ireturn, 1) := by decide +kernel
theorem dL_print_31 : decode cL_print 31 = .ok (.astore 5, 2) := by decide +kernel
theorem dL_print_33 : decode cL_print 33 = .ok (.iconst 5, 1) := by decide +kernel
theorem dL_print_34 : decode cL_print 34 = .ok (.ireturn, 1) := by decide +kernel
theorem dL_print_35 : decode cL_print 35 = .ok (.iconst 0, 1) := by decide +kernel
theorem dL_print_36 : decode cL_print 36 = .ok (.ireturn, 1) := by decide +kernel
theorem dL_makeready_0 : decode cL_makeready 0 = .ok (.aload_n 3, 1) := by decide +kernel
theorem dL_makeready_1 : decode cL_makeready 1 = .ok (.iconst 0, 1) := by decide +kernel
theorem dL_makeready_2 : decode cL_makeready 2 = .ok (.aload_n 0, 1) := by decide +kernel
theorem dL_makeready_3 : decode cL_makeready 3 = .ok (.iload_n 1, 1) := by decide +kernel
theorem dL_makeready_4 : decode cL_makeready 4 = .ok (.iload_n 2, 1) := by decide +kernel
theorem dL_makeready_5 : decode cL_makeready 5 = .ok (.invokevirtual 58, 3) := by decide +kernel
theorem dL_makeready_8 : decode cL_makeready 8 = .ok (.i2l, 1) := by decide +kernel
theorem dL_makeready_9 : decode cL_makeready 9 = .ok (.lastore, 1) := by decide +kernel
theorem dL_makeready_10 : decode cL_makeready 10 = .ok (.goto 15, 3) := by decide +kernel
theorem dL_makeready_13 : decode cL_makeready 13 = .ok (.astore 4, 2) := by decide +kernel
theorem dL_makeready_15 : decode cL_makeready 15 = .ok (.iconst 1, 1) := by decide +kernel
theorem dL_makeready_16 : decode cL_makeready 16 = .ok (.ireturn, 1) := by decide +kernel
theorem dL_makeready_17 : decode cL_makeready 17 = .ok (.astore 4, 2) := by decide +kernel
theorem dL_makeready_19 : decode cL_makeready 19 = .ok (.iconst 2, 1) := by decide +kernel
theorem dL_makeready_20 : decode cL_makeready 20 = .ok (.ireturn, 1) := by decide +kernel
theorem dL_makeready_21 : decode cL_makeready 21 = .ok (.astore 4, 2) := by decide +kernel
theorem dL_makeready_23 : decode cL_makeready 23 = .ok (.iconst 3, 1) := by decide +kernel
theorem dL_makeready_24 : decode cL_makeready 24 = .ok (.ireturn, 1) := by decide +kernel
theorem dL_makeready_25 : decode cL_makeready 25 = .ok (.iconst 0, 1) := by decide +kernel
theorem dL_makeready_26 : decode cL_makeready 26 = .ok (.ireturn, 1) := by decide +kernel
theorem dL_leastMakeready_0 : decode cL_leastMakeready 0 = .ok (.aload_n 2, 1) := by decide +kernel
theorem dL_leastMakeready_1 : decode cL_leastMakeready 1 = .ok (.iconst 0, 1) := by decide +kernel
theorem dL_leastMakeready_2 : decode cL_leastMakeready 2 = .ok (.aload_n 0, 1) := by decide +kernel
theorem dL_leastMakeready_3 : decode cL_leastMakeready 3 = .ok (.iload_n 1, 1) := by decide +kernel
theorem dL_leastMakeready_4 : decode cL_leastMakeready 4 = .ok (.invokevirtual 61, 3) := by decide +kernel
theorem dL_leastMakeready_7 : decode cL_leastMakeready 7 = .ok (.i2l, 1) := by decide +kernel
theorem dL_leastMakeready_8 : decode cL_leastMakeready 8 = .ok (.lastore, 1) := by decide +kernel
theorem dL_leastMakeready_9 : decode cL_leastMakeready 9 = .ok (.goto 9, 3) := by decide +kernel
theorem dL_leastMakeready_12 : decode cL_leastMakeready 12 = .ok (.astore_n 3, 1) := by decide +kernel
theorem dL_leastMakeready_13 : decode cL_leastMakeready 13 = .ok (.iconst 1, 1) := by decide +kernel
theorem dL_leastMakeready_14 : decode cL_leastMakeready 14 = .ok (.ireturn, 1) := by decide +kernel
theorem dL_leastMakeready_15 : decode cL_leastMakeready 15 = .ok (.astore_n 3, 1) := by decide +kernel
theorem dL_leastMakeready_16 : decode cL_leastMakeready 16 = .ok (.iconst 2, 1) := by decide +kernel
theorem dL_leastMakeready_17 : decode cL_leastMakeready 17 = .ok (.ireturn, 1) := by decide +kernel
theorem dL_leastMakeready_18 : decode cL_leastMakeready 18 = .ok (.iconst 0, 1) := by decide +kernel
theorem dL_leastMakeready_19 : decode cL_leastMakeready 19 = .ok (.ireturn, 1) := by decide +kernel
theorem dL_leastByTrying_0 : decode cL_leastByTrying 0 = .ok (.aload_n 2, 1) := by decide +kernel
theorem dL_leastByTrying_1 : decode cL_leastByTrying 1 = .ok (.iconst 0, 1) := by decide +kernel
theorem dL_leastByTrying_2 : decode cL_leastByTrying 2 = .ok (.aload_n 0, 1) := by decide +kernel
theorem dL_leastByTrying_3 : decode cL_leastByTrying 3 = .ok (.iload_n 1, 1) := by decide +kernel
theorem dL_leastByTrying_4 : decode cL_leastByTrying 4 = .ok (.invokevirtual 64, 3) := by decide +kernel
theorem dL_leastByTrying_7 : decode cL_leastByTrying 7 = .ok (.i2l, 1) := by decide +kernel
theorem dL_leastByTrying_8 : decode cL_leastByTrying 8 = .ok (.lastore, 1) := by decide +kernel
theorem dL_leastByTrying_9 : decode cL_leastByTrying 9 = .ok (.goto 12, 3) := by decide +kernel
theorem dL_leastByTrying_12 : decode cL_leastByTrying 12 = .ok (.astore_n 3, 1) := by decide +kernel
theorem dL_leastByTrying_13 : decode cL_leastByTrying 13 = .ok (.iconst 1, 1) := by decide +kernel
theorem dL_leastByTrying_14 : decode cL_leastByTrying 14 = .ok (.ireturn, 1) := by decide +kernel
theorem dL_leastByTrying_15 : decode cL_leastByTrying 15 = .ok (.astore_n 3, 1) := by decide +kernel
theorem dL_leastByTrying_16 : decode cL_leastByTrying 16 = .ok (.iconst 2, 1) := by decide +kernel
theorem dL_leastByTrying_17 : decode cL_leastByTrying 17 = .ok (.ireturn, 1) := by decide +kernel
theorem dL_leastByTrying_18 : decode cL_leastByTrying 18 = .ok (.astore_n 3, 1) := by decide +kernel
theorem dL_leastByTrying_19 : decode cL_leastByTrying 19 = .ok (.iconst 3, 1) := by decide +kernel
theorem dL_leastByTrying_20 : decode cL_leastByTrying 20 = .ok (.ireturn, 1) := by decide +kernel
theorem dL_leastByTrying_21 : decode cL_leastByTrying 21 = .ok (.iconst 0, 1) := by decide +kernel
theorem dL_leastByTrying_22 : decode cL_leastByTrying 22 = .ok (.ireturn, 1) := by decide +kernel
theorem dL_stock_0 : decode cL_stock 0 = .ok (.aload_n 3, 1) := by decide +kernel
theorem dL_stock_1 : decode cL_stock 1 = .ok (.iconst 0, 1) := by decide +kernel
theorem dL_stock_2 : decode cL_stock 2 = .ok (.aload_n 0, 1) := by decide +kernel
theorem dL_stock_3 : decode cL_stock 3 = .ok (.iload_n 1, 1) := by decide +kernel
theorem dL_stock_4 : decode cL_stock 4 = .ok (.iload_n 2, 1) := by decide +kernel
theorem dL_stock_5 : decode cL_stock 5 = .ok (.invokevirtual 67, 3) := by decide +kernel
theorem dL_stock_8 : decode cL_stock 8 = .ok (.i2l, 1) := by decide +kernel
theorem dL_stock_9 : decode cL_stock 9 = .ok (.lastore, 1) := by decide +kernel
theorem dL_stock_10 : decode cL_stock 10 = .ok (.goto 15, 3) := by decide +kernel
theorem dL_stock_13 : decode cL_stock 13 = .ok (.astore 4, 2) := by decide +kernel
theorem dL_stock_15 : decode cL_stock 15 = .ok (.iconst 1, 1) := by decide +kernel
theorem dL_stock_16 : decode cL_stock 16 = .ok (.ireturn, 1) := by decide +kernel
theorem dL_stock_17 : decode cL_stock 17 = .ok (.astore 4, 2) := by decide +kernel
theorem dL_stock_19 : decode cL_stock 19 = .ok (.iconst 2, 1) := by decide +kernel
theorem dL_stock_20 : decode cL_stock 20 = .ok (.ireturn, 1) := by decide +kernel
theorem dL_stock_21 : decode cL_stock 21 = .ok (.astore 4, 2) := by decide +kernel
theorem dL_stock_23 : decode cL_stock 23 = .ok (.iconst 3, 1) := by decide +kernel
theorem dL_stock_24 : decode cL_stock 24 = .ok (.ireturn, 1) := by decide +kernel
theorem dL_stock_25 : decode cL_stock 25 = .ok (.iconst 0, 1) := by decide +kernel
theorem dL_stock_26 : decode cL_stock 26 = .ok (.ireturn, 1) := by decide +kernel
theorem dL_platesNeeded_0 : decode cL_platesNeeded 0 = .ok (.aload_n 2, 1) := by decide +kernel
theorem dL_platesNeeded_1 : decode cL_platesNeeded 1 = .ok (.iconst 0, 1) := by decide +kernel
theorem dL_platesNeeded_2 : decode cL_platesNeeded 2 = .ok (.aload_n 0, 1) := by decide +kernel
theorem dL_platesNeeded_3 : decode cL_platesNeeded 3 = .ok (.iload_n 1, 1) := by decide +kernel
theorem dL_platesNeeded_4 : decode cL_platesNeeded 4 = .ok (.invokevirtual 70, 3) := by decide +kernel
theorem dL_platesNeeded_7 : decode cL_platesNeeded 7 = .ok (.i2l, 1) := by decide +kernel
theorem dL_platesNeeded_8 : decode cL_platesNeeded 8 = .ok (.lastore, 1) := by decide +kernel
theorem dL_platesNeeded_9 : decode cL_platesNeeded 9 = .ok (.goto 9, 3) := by decide +kernel
theorem dL_platesNeeded_12 : decode cL_platesNeeded 12 = .ok (.astore_n 3, 1) := by decide +kernel
theorem dL_platesNeeded_13 : decode cL_platesNeeded 13 = .ok (.iconst 1, 1) := by decide +kernel
theorem dL_platesNeeded_14 : decode cL_platesNeeded 14 = .ok (.ireturn, 1) := by decide +kernel
theorem dL_platesNeeded_15 : decode cL_platesNeeded 15 = .ok (.astore_n 3, 1) := by decide +kernel
theorem dL_platesNeeded_16 : decode cL_platesNeeded 16 = .ok (.iconst 2, 1) := by decide +kernel
theorem dL_platesNeeded_17 : decode cL_platesNeeded 17 = .ok (.ireturn, 1) := by decide +kernel
theorem dL_platesNeeded_18 : decode cL_platesNeeded 18 = .ok (.iconst 0, 1) := by decide +kernel
theorem dL_platesNeeded_19 : decode cL_platesNeeded 19 = .ok (.ireturn, 1) := by decide +kernel
theorem dL_bind_0 : decode cL_bind 0 = .ok (.aload_n 3, 1) := by decide +kernel
theorem dL_bind_1 : decode cL_bind 1 = .ok (.iconst 0, 1) := by decide +kernel
theorem dL_bind_2 : decode cL_bind 2 = .ok (.aload_n 0, 1) := by decide +kernel
theorem dL_bind_3 : decode cL_bind 3 = .ok (.iload_n 1, 1) := by decide +kernel
theorem dL_bind_4 : decode cL_bind 4 = .ok (.iload_n 2, 1) := by decide +kernel
theorem dL_bind_5 : decode cL_bind 5 = .ok (.invokevirtual 73, 3) := by decide +kernel
theorem dL_bind_8 : decode cL_bind 8 = .ok (.i2l, 1) := by decide +kernel
theorem dL_bind_9 : decode cL_bind 9 = .ok (.lastore, 1) := by decide +kernel
theorem dL_bind_10 : decode cL_bind 10 = .ok (.goto 19, 3) := by decide +kernel
theorem dL_bind_13 : decode cL_bind 13 = .ok (.astore 4, 2) := by decide +kernel
theorem dL_bind_15 : decode cL_bind 15 = .ok (.iconst 1, 1) := by decide +kernel
theorem dL_bind_16 : decode cL_bind 16 = .ok (.ireturn, 1) := by decide +kernel
theorem dL_bind_17 : decode cL_bind 17 = .ok (.astore 4, 2) := by decide +kernel
theorem dL_bind_19 : decode cL_bind 19 = .ok (.iconst 2, 1) := by decide +kernel
theorem dL_bind_20 : decode cL_bind 20 = .ok (.ireturn, 1) := by decide +kernel
theorem dL_bind_21 : decode cL_bind 21 = .ok (.astore 4, 2) := by decide +kernel
theorem dL_bind_23 : decode cL_bind 23 = .ok (.iconst 3, 1) := by decide +kernel
theorem dL_bind_24 : decode cL_bind 24 = .ok (.ireturn, 1) := by decide +kernel
theorem dL_bind_25 : decode cL_bind 25 = .ok (.astore 4, 2) := by decide +kernel
theorem dL_bind_27 : decode cL_bind 27 = .ok (.iconst 4, 1) := by decide +kernel
theorem dL_bind_28 : decode cL_bind 28 = .ok (.ireturn, 1) := by decide +kernel
theorem dL_bind_29 : decode cL_bind 29 = .ok (.iconst 0, 1) := by decide +kernel
theorem dL_bind_30 : decode cL_bind 30 = .ok (.ireturn, 1) := by decide +kernel
theorem dL_lacks_0 : decode cL_lacks 0 = .ok (.aload_n 3, 1) := by decide +kernel
theorem dL_lacks_1 : decode cL_lacks 1 = .ok (.iconst 0, 1) := by decide +kernel
theorem dL_lacks_2 : decode cL_lacks 2 = .ok (.aload_n 0, 1) := by decide +kernel
theorem dL_lacks_3 : decode cL_lacks 3 = .ok (.iload_n 1, 1) := by decide +kernel
theorem dL_lacks_4 : decode cL_lacks 4 = .ok (.iload_n 2, 1) := by decide +kernel
theorem dL_lacks_5 : decode cL_lacks 5 = .ok (.invokevirtual 76, 3) := by decide +kernel
theorem dL_lacks_8 : decode cL_lacks 8 = .ok (.i2l, 1) := by decide +kernel
theorem dL_lacks_9 : decode cL_lacks 9 = .ok (.lastore, 1) := by decide +kernel
theorem dL_lacks_10 : decode cL_lacks 10 = .ok (.goto 15, 3) := by decide +kernel
theorem dL_lacks_13 : decode cL_lacks 13 = .ok (.astore 4, 2) := by decide +kernel
theorem dL_lacks_15 : decode cL_lacks 15 = .ok (.iconst 1, 1) := by decide +kernel
theorem dL_lacks_16 : decode cL_lacks 16 = .ok (.ireturn, 1) := by decide +kernel
theorem dL_lacks_17 : decode cL_lacks 17 = .ok (.astore 4, 2) := by decide +kernel
theorem dL_lacks_19 : decode cL_lacks 19 = .ok (.iconst 2, 1) := by decide +kernel
theorem dL_lacks_20 : decode cL_lacks 20 = .ok (.ireturn, 1) := by decide +kernel
theorem dL_lacks_21 : decode cL_lacks 21 = .ok (.astore 4, 2) := by decide +kernel
theorem dL_lacks_23 : decode cL_lacks 23 = .ok (.iconst 3, 1) := by decide +kernel
theorem dL_lacks_24 : decode cL_lacks 24 = .ok (.ireturn, 1) := by decide +kernel
theorem dL_lacks_25 : decode cL_lacks 25 = .ok (.iconst 0, 1) := by decide +kernel
theorem dL_lacks_26 : decode cL_lacks 26 = .ok (.ireturn, 1) := by decide +kernel
theorem dL_copies_0 : decode cL_copies 0 = .ok (.aload_n 2, 1) := by decide +kernel
theorem dL_copies_1 : decode cL_copies 1 = .ok (.iconst 0, 1) := by decide +kernel
theorem dL_copies_2 : decode cL_copies 2 = .ok (.aload_n 0, 1) := by decide +kernel
theorem dL_copies_3 : decode cL_copies 3 = .ok (.iload_n 1, 1) := by decide +kernel
theorem dL_copies_4 : decode cL_copies 4 = .ok (.invokevirtual 79, 3) := by decide +kernel
theorem dL_copies_7 : decode cL_copies 7 = .ok (.i2l, 1) := by decide +kernel
theorem dL_copies_8 : decode cL_copies 8 = .ok (.lastore, 1) := by decide +kernel
theorem dL_copies_9 : decode cL_copies 9 = .ok (.goto 6, 3) := by decide +kernel
theorem dL_copies_12 : decode cL_copies 12 = .ok (.astore_n 3, 1) := by decide +kernel
theorem dL_copies_13 : decode cL_copies 13 = .ok (.iconst 1, 1) := by decide +kernel
theorem dL_copies_14 : decode cL_copies 14 = .ok (.ireturn, 1) := by decide +kernel
theorem dL_copies_15 : decode cL_copies 15 = .ok (.iconst 0, 1) := by decide +kernel
theorem dL_copies_16 : decode cL_copies 16 = .ok (.ireturn, 1) := by decide +kernel
theorem dL_stateIn_0 : decode cL_stateIn 0 = .ok (.aload_n 3, 1) := by decide +kernel
theorem dL_stateIn_1 : decode cL_stateIn 1 = .ok (.iconst 0, 1) := by decide +kernel
theorem dL_stateIn_2 : decode cL_stateIn 2 = .ok (.aload_n 0, 1) := by decide +kernel
theorem dL_stateIn_3 : decode cL_stateIn 3 = .ok (.iload_n 1, 1) := by decide +kernel
theorem dL_stateIn_4 : decode cL_stateIn 4 = .ok (.iload_n 2, 1) := by decide +kernel
theorem dL_stateIn_5 : decode cL_stateIn 5 = .ok (.invokevirtual 82, 3) := by decide +kernel
theorem dL_stateIn_8 : decode cL_stateIn 8 = .ok (.i2l, 1) := by decide +kernel
theorem dL_stateIn_9 : decode cL_stateIn 9 = .ok (.lastore, 1) := by decide +kernel
theorem dL_stateIn_10 : decode cL_stateIn 10 = .ok (.goto 11, 3) := by decide +kernel
theorem dL_stateIn_13 : decode cL_stateIn 13 = .ok (.astore 4, 2) := by decide +kernel
theorem dL_stateIn_15 : decode cL_stateIn 15 = .ok (.iconst 1, 1) := by decide +kernel
theorem dL_stateIn_16 : decode cL_stateIn 16 = .ok (.ireturn, 1) := by decide +kernel
theorem dL_stateIn_17 : decode cL_stateIn 17 = .ok (.astore 4, 2) := by decide +kernel
theorem dL_stateIn_19 : decode cL_stateIn 19 = .ok (.iconst 2, 1) := by decide +kernel
theorem dL_stateIn_20 : decode cL_stateIn 20 = .ok (.ireturn, 1) := by decide +kernel
theorem dL_stateIn_21 : decode cL_stateIn 21 = .ok (.iconst 0, 1) := by decide +kernel
theorem dL_stateIn_22 : decode cL_stateIn 22 = .ok (.ireturn, 1) := by decide +kernel
theorem dL_stateByReplay_0 : decode cL_stateByReplay 0 = .ok (.aload_n 3, 1) := by decide +kernel
theorem dL_stateByReplay_1 : decode cL_stateByReplay 1 = .ok (.iconst 0, 1) := by decide +kernel
theorem dL_stateByReplay_2 : decode cL_stateByReplay 2 = .ok (.aload_n 0, 1) := by decide +kernel
theorem dL_stateByReplay_3 : decode cL_stateByReplay 3 = .ok (.iload_n 1, 1) := by decide +kernel
theorem dL_stateByReplay_4 : decode cL_stateByReplay 4 = .ok (.iload_n 2, 1) := by decide +kernel
theorem dL_stateByReplay_5 : decode cL_stateByReplay 5 = .ok (.invokevirtual 85, 3) := by decide +kernel
theorem dL_stateByReplay_8 : decode cL_stateByReplay 8 = .ok (.i2l, 1) := by decide +kernel
theorem dL_stateByReplay_9 : decode cL_stateByReplay 9 = .ok (.lastore, 1) := by decide +kernel
theorem dL_stateByReplay_10 : decode cL_stateByReplay 10 = .ok (.goto 11, 3) := by decide +kernel
theorem dL_stateByReplay_13 : decode cL_stateByReplay 13 = .ok (.astore 4, 2) := by decide +kernel
theorem dL_stateByReplay_15 : decode cL_stateByReplay 15 = .ok (.iconst 1, 1) := by decide +kernel
theorem dL_stateByReplay_16 : decode cL_stateByReplay 16 = .ok (.ireturn, 1) := by decide +kernel
theorem dL_stateByReplay_17 : decode cL_stateByReplay 17 = .ok (.astore 4, 2) := by decide +kernel
theorem dL_stateByReplay_19 : decode cL_stateByReplay 19 = .ok (.iconst 2, 1) := by decide +kernel
theorem dL_stateByReplay_20 : decode cL_stateByReplay 20 = .ok (.ireturn, 1) := by decide +kernel
theorem dL_stateByReplay_21 : decode cL_stateByReplay 21 = .ok (.iconst 0, 1) := by decide +kernel
theorem dL_stateByReplay_22 : decode cL_stateByReplay 22 = .ok (.ireturn, 1) := by decide +kernel
theorem dL_outdated_0 : decode cL_outdated 0 = .ok (.aload_n 2, 1) := by decide +kernel
theorem dL_outdated_1 : decode cL_outdated 1 = .ok (.iconst 0, 1) := by decide +kernel
theorem dL_outdated_2 : decode cL_outdated 2 = .ok (.aload_n 0, 1) := by decide +kernel
theorem dL_outdated_3 : decode cL_outdated 3 = .ok (.iload_n 1, 1) := by decide +kernel
theorem dL_outdated_4 : decode cL_outdated 4 = .ok (.invokevirtual 88, 3) := by decide +kernel
theorem dL_outdated_7 : decode cL_outdated 7 = .ok (.i2l, 1) := by decide +kernel
theorem dL_outdated_8 : decode cL_outdated 8 = .ok (.lastore, 1) := by decide +kernel
theorem dL_outdated_9 : decode cL_outdated 9 = .ok (.goto 6, 3) := by decide +kernel
theorem dL_outdated_12 : decode cL_outdated 12 = .ok (.astore_n 3, 1) := by decide +kernel
theorem dL_outdated_13 : decode cL_outdated 13 = .ok (.iconst 1, 1) := by decide +kernel
theorem dL_outdated_14 : decode cL_outdated 14 = .ok (.ireturn, 1) := by decide +kernel
theorem dL_outdated_15 : decode cL_outdated 15 = .ok (.iconst 0, 1) := by decide +kernel
theorem dL_outdated_16 : decode cL_outdated 16 = .ok (.ireturn, 1) := by decide +kernel
theorem dL_wasteShare_0 : decode cL_wasteShare 0 = .ok (.aload_n 1, 1) := by decide +kernel
theorem dL_wasteShare_1 : decode cL_wasteShare 1 = .ok (.iconst 0, 1) := by decide +kernel
theorem dL_wasteShare_2 : decode cL_wasteShare 2 = .ok (.aload_n 0, 1) := by decide +kernel
theorem dL_wasteShare_3 : decode cL_wasteShare 3 = .ok (.invokevirtual 91, 3) := by decide +kernel
theorem dL_wasteShare_6 : decode cL_wasteShare 6 = .ok (.f2d, 1) := by decide +kernel
theorem dL_wasteShare_7 : decode cL_wasteShare 7 = .ok (.dastore, 1) := by decide +kernel
theorem dL_wasteShare_8 : decode cL_wasteShare 8 = .ok (.goto 6, 3) := by decide +kernel
theorem dL_wasteShare_11 : decode cL_wasteShare 11 = .ok (.astore_n 2, 1) := by decide +kernel
theorem dL_wasteShare_12 : decode cL_wasteShare 12 = .ok (.iconst 1, 1) := by decide +kernel
theorem dL_wasteShare_13 : decode cL_wasteShare 13 = .ok (.ireturn, 1) := by decide +kernel
theorem dL_wasteShare_14 : decode cL_wasteShare 14 = .ok (.iconst 0, 1) := by decide +kernel
theorem dL_wasteShare_15 : decode cL_wasteShare 15 = .ok (.ireturn, 1) := by decide +kernel
theorem dL_meanMakeready_0 : decode cL_meanMakeready 0 = .ok (.aload_n 1, 1) := by decide +kernel
theorem dL_meanMakeready_1 : decode cL_meanMakeready 1 = .ok (.iconst 0, 1) := by decide +kernel
theorem dL_meanMakeready_2 : decode cL_meanMakeready 2 = .ok (.aload_n 0, 1) := by decide +kernel
theorem dL_meanMakeready_3 : decode cL_meanMakeready 3 = .ok (.invokevirtual 97, 3) := by decide +kernel
theorem dL_meanMakeready_6 : decode cL_meanMakeready 6 = .ok (.dastore, 1) := by decide +kernel
theorem dL_meanMakeready_7 : decode cL_meanMakeready 7 = .ok (.goto 6, 3) := by decide +kernel
theorem dL_meanMakeready_10 : decode cL_meanMakeready 10 = .ok (.astore_n 2, 1) := by decide +kernel
theorem dL_meanMakeready_11 : decode cL_meanMakeready 11 = .ok (.iconst 1, 1) := by decide +kernel
theorem dL_meanMakeready_12 : decode cL_meanMakeready 12 = .ok (.ireturn, 1) := by decide +kernel
theorem dL_meanMakeready_13 : decode cL_meanMakeready 13 = .ok (.iconst 0, 1) := by decide +kernel
theorem dL_meanMakeready_14 : decode cL_meanMakeready 14 = .ok (.ireturn, 1) := by decide +kernel
theorem dL_law_0 : decode cL_law 0 = .ok (.new 8, 3) := by decide +kernel
theorem dL_law_3 : decode cL_law 3 = .ok (.dup, 1) := by decide +kernel
theorem dL_law_4 : decode cL_law 4 = .ok (.invokespecial 101, 3) := by decide +kernel
theorem dL_law_7 : decode cL_law 7 = .ok (.astore_n 1, 1) := by decide +kernel
theorem dL_law_8 : decode cL_law 8 = .ok (.new 102, 3) := by decide +kernel
theorem dL_law_11 : decode cL_law 11 = .ok (.dup, 1) := by decide +kernel
theorem dL_law_12 : decode cL_law 12 = .ok (.invokespecial 104, 3) := by decide +kernel
theorem dL_law_15 : decode cL_law 15 = .ok (.astore_n 2, 1) := by decide +kernel
theorem dL_law_16 : decode cL_law 16 = .ok (.iconst 1, 1) := by decide +kernel
theorem dL_law_17 : decode cL_law 17 = .ok (.newarray .long, 2) := by decide +kernel
theorem dL_law_19 : decode cL_law 19 = .ok (.astore_n 3, 1) := by decide +kernel
theorem dL_law_20 : decode cL_law 20 = .ok (.iconst 1, 1) := by decide +kernel
theorem dL_law_21 : decode cL_law 21 = .ok (.newarray .double, 2) := by decide +kernel
theorem dL_law_23 : decode cL_law 23 = .ok (.astore 4, 2) := by decide +kernel
theorem dL_law_25 : decode cL_law 25 = .ok (.iconst 0, 1) := by decide +kernel
theorem dL_law_26 : decode cL_law 26 = .ok (.istore 5, 2) := by decide +kernel
theorem dL_law_28 : decode cL_law 28 = .ok (.iload 5, 2) := by decide +kernel
theorem dL_law_30 : decode cL_law 30 = .ok (.aload_n 0, 1) := by decide +kernel
theorem dL_law_31 : decode cL_law 31 = .ok (.arraylength, 1) := by decide +kernel
theorem dL_law_32 : decode cL_law 32 = .ok (.iconst 4, 1) := by decide +kernel
theorem dL_law_33 : decode cL_law 33 = .ok (.isub, 1) := by decide +kernel
theorem dL_law_34 : decode cL_law 34 = .ok (.if_icmp .gt 1684, 3) := by decide +kernel
theorem dL_law_37 : decode cL_law 37 = .ok (.aload_n 0, 1) := by decide +kernel
theorem dL_law_38 : decode cL_law 38 = .ok (.iload 5, 2) := by decide +kernel
theorem dL_law_40 : decode cL_law 40 = .ok (.iaload, 1) := by decide +kernel
theorem dL_law_41 : decode cL_law 41 = .ok (.bipush 31, 2) := by decide +kernel
theorem dL_law_43 : decode cL_law 43 = .ok (.iand, 1) := by decide +kernel
theorem dL_law_44 : decode cL_law 44 = .ok (.tableswitch 1668 0 26 #[124, 168, 231, 287, 343, 401, 469, 525, 581, 661, 729, 809, 877, 933, 989, 1057, 1070, 1126, 1194, 1262, 1275, 1331, 1399, 1467, 1523, 1537, 1603], 124) := by decide +kernel
theorem dL_law_168 : decode cL_law 168 = .ok (.aload_n 1, 1) := by decide +kernel
theorem dL_law_169 : decode cL_law 169 = .ok (.aload_n 3, 1) := by decide +kernel
theorem dL_law_170 : decode cL_law 170 = .ok (.invokestatic 105, 3) := by decide +kernel
theorem dL_law_173 : decode cL_law 173 = .ok (.istore 6, 2) := by decide +kernel
theorem dL_law_175 : decode cL_law 175 = .ok (.aload_n 2, 1) := by decide +kernel
theorem dL_law_176 : decode cL_law 176 = .ok (.invokevirtual 110, 3) := by decide +kernel
theorem dL_law_179 : decode cL_law 179 = .ok (.istore 7, 2) := by decide +kernel
theorem dL_law_181 : decode cL_law 181 = .ok (.aload_n 2, 1) := by decide +kernel
theorem dL_law_182 : decode cL_law 182 = .ok (.invokevirtual 111, 3) := by decide +kernel
theorem dL_law_185 : decode cL_law 185 = .ok (.iload 6, 2) := by decide +kernel
theorem dL_law_187 : decode cL_law 187 = .ok (.if_icmp .eq 5, 3) := by decide +kernel
theorem dL_law_190 : decode cL_law 190 = .ok (.iconst 0, 1) := by decide +kernel
theorem dL_law_191 : decode cL_law 191 = .ok (.ireturn, 1) := by decide +kernel
theorem dL_law_192 : decode cL_law 192 = .ok (.iload 6, 2) := by decide +kernel
theorem dL_law_194 : decode cL_law 194 = .ok (.ifCond .ne 15, 3) := by decide +kernel
theorem dL_law_197 : decode cL_law 197 = .ok (.aload_n 3, 1) := by decide +kernel
theorem dL_law_198 : decode cL_law 198 = .ok (.iconst 0, 1) := by decide +kernel
theorem dL_law_199 : decode cL_law 199 = .ok (.laload, 1) := by decide +kernel
theorem dL_law_200 : decode cL_law 200 = .ok (.iload 7, 2) := by decide +kernel
theorem dL_law_202 : decode cL_law 202 = .ok (.i2l, 1) := by decide +kernel
theorem dL_law_203 : decode cL_law 203 = .ok (.lcmp, 1) := by decide +kernel
theorem dL_law_204 : decode cL_law 204 = .ok (.ifCond .eq 5, 3) := by decide +kernel
theorem dL_law_207 : decode cL_law 207 = .ok (.iconst 0, 1) := by decide +kernel
theorem dL_law_208 : decode cL_law 208 = .ok (.ireturn, 1) := by decide +kernel
theorem dL_law_209 : decode cL_law 209 = .ok (.goto 1503, 3) := by decide +kernel
theorem dL_law_212 : decode cL_law 212 = .ok (.aload_n 1, 1) := by decide +kernel
theorem dL_law_213 : decode cL_law 213 = .ok (.aload_n 0, 1) := by decide +kernel
theorem dL_law_214 : decode cL_law 214 = .ok (.iload 5, 2) := by decide +kernel
theorem dL_law_216 : decode cL_law 216 = .ok (.iconst 1, 1) := by decide +kernel
theorem dL_law_217 : decode cL_law 217 = .ok (.iadd, 1) := by decide +kernel
theorem dL_law_218 : decode cL_law 218 = .ok (.iaload, 1) := by decide +kernel
theorem dL_law_219 : decode cL_law 219 = .ok (.aload_n 3, 1) := by decide +kernel
theorem dL_law_220 : decode cL_law 220 = .ok (.invokestatic 114, 3) := by decide +kernel
theorem dL_law_223 : decode cL_law 223 = .ok (.istore 6, 2) := by decide +kernel
theorem dL_law_225 : decode cL_law 225 = .ok (.aload_n 2, 1) := by decide +kernel
theorem dL_law_226 : decode cL_law 226 = .ok (.aload_n 0, 1) := by decide +kernel
theorem dL_law_227 : decode cL_law 227 = .ok (.iload 5, 2) := by decide +kernel
theorem dL_law_229 : decode cL_law 229 = .ok (.iconst 1, 1) := by decide +kernel
theorem dL_law_230 : decode cL_law 230 = .ok (.iadd, 1) := by decide +kernel
theorem dL_law_231 : decode cL_law 231 = .ok (.iaload, 1) := by decide +kernel
theorem dL_law_232 : decode cL_law 232 = .ok (.invokevirtual 117, 3) := by decide +kernel
theorem dL_law_235 : decode cL_law 235 = .ok (.istore 7, 2) := by decide +kernel
theorem dL_law_237 : decode cL_law 237 = .ok (.aload_n 2, 1) := by decide +kernel
theorem dL_law_238 : decode cL_law 238 = .ok (.invokevirtual 111, 3) := by decide +kernel
theorem dL_law_241 : decode cL_law 241 = .ok (.iload 6, 2) := by decide +kernel
theorem dL_law_243 : decode cL_law 243 = .ok (.if_icmp .eq 5, 3) := by decide +kernel
theorem dL_law_246 : decode cL_law 246 = .ok (.iconst 0, 1) := by decide +kernel
theorem dL_law_247 : decode cL_law 247 = .ok (.ireturn, 1) := by decide +kernel
theorem dL_law_248 : decode cL_law 248 = .ok (.iload 6, 2) := by decide +kernel
theorem dL_law_250 : decode cL_law 250 = .ok (.ifCond .ne 22, 3) := by decide +kernel
theorem dL_law_253 : decode cL_law 253 = .ok (.aload_n 3, 1) := by decide +kernel
theorem dL_law_254 : decode cL_law 254 = .ok (.iconst 0, 1) := by decide +kernel
theorem dL_law_255 : decode cL_law 255 = .ok (.laload, 1) := by decide +kernel
theorem dL_law_256 : decode cL_law 256 = .ok (.iload 7, 2) := by decide +kernel
theorem dL_law_258 : decode cL_law 258 = .ok (.ifCond .eq 7, 3) := by decide +kernel
theorem dL_law_261 : decode cL_law 261 = .ok (.lconst 1, 1) := by decide +kernel
theorem dL_law_262 : decode cL_law 262 = .ok (.goto 4, 3) := by decide +kernel
theorem dL_law_265 : decode cL_law 265 = .ok (.lconst 0, 1) := by decide +kernel
theorem dL_law_266 : decode cL_law 266 = .ok (.lcmp, 1) := by decide +kernel
theorem dL_law_267 : decode cL_law 267 = .ok (.ifCond .eq 5, 3) := by decide +kernel
theorem dL_law_270 : decode cL_law 270 = .ok (.iconst 0, 1) := by decide +kernel
theorem dL_law_271 : decode cL_law 271 = .ok (.ireturn, 1) := by decide +kernel
theorem dL_law_272 : decode cL_law 272 = .ok (.goto 1440, 3) := by decide +kernel
theorem dL_law_275 : decode cL_law 275 = .ok (.aload_n 1, 1) := by decide +kernel
theorem dL_law_276 : decode cL_law 276 = .ok (.aload_n 0, 1) := by decide +kernel
theorem dL_law_277 : decode cL_law 277 = .ok (.iload 5, 2) := by decide +kernel
theorem dL_law_279 : decode cL_law 279 = .ok (.iconst 1, 1) := by decide +kernel
theorem dL_law_280 : decode cL_law 280 = .ok (.iadd, 1) := by decide +kernel
theorem dL_law_281 : decode cL_law 281 = .ok (.iaload, 1) := by decide +kernel
theorem dL_law_282 : decode cL_law 282 = .ok (.aload_n 3, 1) := by decide +kernel
theorem dL_law_283 : decode cL_law 283 = .ok (.invokestatic 118, 3) := by decide +kernel
theorem dL_law_286 : decode cL_law 286 = .ok (.istore 6, 2) := by decide +kernel
theorem dL_law_288 : decode cL_law 288 = .ok (.aload_n 2, 1) := by decide +kernel
theorem dL_law_289 : decode cL_law 289 = .ok (.aload_n 0, 1) := by decide +kernel
theorem dL_law_290 : decode cL_law 290 = .ok (.iload 5, 2) := by decide +kernel
theorem dL_law_292 : decode cL_law 292 = .ok (.iconst 1, 1) := by decide +kernel
theorem dL_law_293 : decode cL_law 293 = .ok (.iadd, 1) := by decide +kernel
theorem dL_law_294 : decode cL_law 294 = .ok (.iaload, 1) := by decide +kernel
theorem dL_law_295 : decode cL_law 295 = .ok (.invokevirtual 120, 3) := by decide +kernel
theorem dL_law_298 : decode cL_law 298 = .ok (.istore 7, 2) := by decide +kernel
theorem dL_law_300 : decode cL_law 300 = .ok (.aload_n 2, 1) := by decide +kernel
theorem dL_law_301 : decode cL_law 301 = .ok (.invokevirtual 111, 3) := by decide +kernel
theorem dL_law_304 : decode cL_law 304 = .ok (.iload 6, 2) := by decide +kernel
theorem dL_law_306 : decode cL_law 306 = .ok (.if_icmp .eq 5, 3) := by decide +kernel
theorem dL_law_309 : decode cL_law 309 = .ok (.iconst 0, 1) := by decide +kernel
theorem dL_law_310 : decode cL_law 310 = .ok (.ireturn, 1) := by decide +kernel
theorem dL_law_311 : decode cL_law 311 = .ok (.iload 6, 2) := by decide +kernel
theorem dL_law_313 : decode cL_law 313 = .ok (.ifCond .ne 15, 3) := by decide +kernel
theorem dL_law_316 : decode cL_law 316 = .ok (.aload_n 3, 1) := by decide +kernel
theorem dL_law_317 : decode cL_law 317 = .ok (.iconst 0, 1) := by decide +kernel
theorem dL_law_318 : decode cL_law 318 = .ok (.laload, 1) := by decide +kernel
theorem dL_law_319 : decode cL_law 319 = .ok (.iload 7, 2) := by decide +kernel
theorem dL_law_321 : decode cL_law 321 = .ok (.i2l, 1) := by decide +kernel
theorem dL_law_322 : decode cL_law 322 = .ok (.lcmp, 1) := by decide +kernel
theorem dL_law_323 : decode cL_law 323 = .ok (.ifCond .eq 5, 3) := by decide +kernel
theorem dL_law_326 : decode cL_law 326 = .ok (.iconst 0, 1) := by decide +kernel
theorem dL_law_327 : decode cL_law 327 = .ok (.ireturn, 1) := by decide +kernel
theorem dL_law_328 : decode cL_law 328 = .ok (.goto 1384, 3) := by decide +kernel
theorem dL_law_331 : decode cL_law 331 = .ok (.aload_n 1, 1) := by decide +kernel
theorem dL_law_332 : decode cL_law 332 = .ok (.aload_n 0, 1) := by decide +kernel
theorem dL_law_333 : decode cL_law 333 = .ok (.iload 5, 2) := by decide +kernel
theorem dL_law_335 : decode cL_law 335 = .ok (.iconst 1, 1) := by decide +kernel
theorem dL_law_336 : decode cL_law 336 = .ok (.iadd, 1) := by decide +kernel
theorem dL_law_337 : decode cL_law 337 = .ok (.iaload, 1) := by decide +kernel
theorem dL_law_338 : decode cL_law 338 = .ok (.aload_n 3, 1) := by decide +kernel
theorem dL_law_339 : decode cL_law 339 = .ok (.invokestatic 121, 3) := by decide +kernel
theorem dL_law_342 : decode cL_law 342 = .ok (.istore 6, 2) := by decide +kernel
theorem dL_law_344 : decode cL_law 344 = .ok (.aload_n 2, 1) := by decide +kernel
theorem dL_law_345 : decode cL_law 345 = .ok (.aload_n 0, 1) := by decide +kernel
theorem dL_law_346 : decode cL_law 346 = .ok (.iload 5, 2) := by decide +kernel
theorem dL_law_348 : decode cL_law 348 = .ok (.iconst 1, 1) := by decide +kernel
theorem dL_law_349 : decode cL_law 349 = .ok (.iadd, 1) := by decide +kernel
theorem dL_law_350 : decode cL_law 350 = .ok (.iaload, 1) := by decide +kernel
theorem dL_law_351 : decode cL_law 351 = .ok (.invokevirtual 123, 3) := by decide +kernel
theorem dL_law_354 : decode cL_law 354 = .ok (.istore 7, 2) := by decide +kernel
theorem dL_law_356 : decode cL_law 356 = .ok (.aload_n 2, 1) := by decide +kernel
theorem dL_law_357 : decode cL_law 357 = .ok (.invokevirtual 111, 3) := by decide +kernel
theorem dL_law_360 : decode cL_law 360 = .ok (.iload 6, 2) := by decide +kernel
theorem dL_law_362 : decode cL_law 362 = .ok (.if_icmp .eq 5, 3) := by decide +kernel
theorem dL_law_365 : decode cL_law 365 = .ok (.iconst 0, 1) := by decide +kernel
theorem dL_law_366 : decode cL_law 366 = .ok (.ireturn, 1) := by decide +kernel
theorem dL_law_367 : decode cL_law 367 = .ok (.iload 6, 2) := by decide +kernel
theorem dL_law_369 : decode cL_law 369 = .ok (.ifCond .ne 15, 3) := by decide +kernel
theorem dL_law_372 : decode cL_law 372 = .ok (.aload_n 3, 1) := by decide +kernel
theorem dL_law_373 : decode cL_law 373 = .ok (.iconst 0, 1) := by decide +kernel
theorem dL_law_374 : decode cL_law 374 = .ok (.laload, 1) := by decide +kernel
theorem dL_law_375 : decode cL_law 375 = .ok (.iload 7, 2) := by decide +kernel
theorem dL_law_377 : decode cL_law 377 = .ok (.i2l, 1) := by decide +kernel
theorem dL_law_378 : decode cL_law 378 = .ok (.lcmp, 1) := by decide +kernel
theorem dL_law_379 : decode cL_law 379 = .ok (.ifCond .eq 5, 3) := by decide +kernel
theorem dL_law_382 : decode cL_law 382 = .ok (.iconst 0, 1) := by decide +kernel
theorem dL_law_383 : decode cL_law 383 = .ok (.ireturn, 1) := by decide +kernel
theorem dL_law_384 : decode cL_law 384 = .ok (.goto 1328, 3) := by decide +kernel
theorem dL_law_387 : decode cL_law 387 = .ok (.aload_n 1, 1) := by decide +kernel
theorem dL_law_388 : decode cL_law 388 = .ok (.aload_n 0, 1) := by decide +kernel
theorem dL_law_389 : decode cL_law 389 = .ok (.iload 5, 2) := by decide +kernel
theorem dL_law_391 : decode cL_law 391 = .ok (.iconst 1, 1) := by decide +kernel
theorem dL_law_392 : decode cL_law 392 = .ok (.iadd, 1) := by decide +kernel
theorem dL_law_393 : decode cL_law 393 = .ok (.iaload, 1) := by decide +kernel
theorem dL_law_394 : decode cL_law 394 = .ok (.i2c, 1) := by decide +kernel
theorem dL_law_395 : decode cL_law 395 = .ok (.aload_n 3, 1) := by decide +kernel
theorem dL_law_396 : decode cL_law 396 = .ok (.invokestatic 124, 3) := by decide +kernel
theorem dL_law_399 : decode cL_law 399 = .ok (.istore 6, 2) := by decide +kernel
theorem dL_law_401 : decode cL_law 401 = .ok (.aload_n 2, 1) := by decide +kernel
theorem dL_law_402 : decode cL_law 402 = .ok (.aload_n 0, 1) := by decide +kernel
theorem dL_law_403 : decode cL_law 403 = .ok (.iload 5, 2) := by decide +kernel
theorem dL_law_405 : decode cL_law 405 = .ok (.iconst 1, 1) := by decide +kernel
theorem dL_law_406 : decode cL_law 406 = .ok (.iadd, 1) := by decide +kernel
theorem dL_law_407 : decode cL_law 407 = .ok (.iaload, 1) := by decide +kernel
theorem dL_law_408 : decode cL_law 408 = .ok (.i2c, 1) := by decide +kernel
theorem dL_law_409 : decode cL_law 409 = .ok (.invokevirtual 127, 3) := by decide +kernel
theorem dL_law_412 : decode cL_law 412 = .ok (.istore 7, 2) := by decide +kernel
theorem dL_law_414 : decode cL_law 414 = .ok (.aload_n 2, 1) := by decide +kernel
theorem dL_law_415 : decode cL_law 415 = .ok (.invokevirtual 111, 3) := by decide +kernel
theorem dL_law_418 : decode cL_law 418 = .ok (.iload 6, 2) := by decide +kernel
theorem dL_law_420 : decode cL_law 420 = .ok (.if_icmp .eq 5, 3) := by decide +kernel
theorem dL_law_423 : decode cL_law 423 = .ok (.iconst 0, 1) := by decide +kernel
theorem dL_law_424 : decode cL_law 424 = .ok (.ireturn, 1) := by decide +kernel
theorem dL_law_425 : decode cL_law 425 = .ok (.iload 6, 2) := by decide +kernel
theorem dL_law_427 : decode cL_law 427 = .ok (.ifCond .ne 15, 3) := by decide +kernel
theorem dL_law_430 : decode cL_law 430 = .ok (.aload_n 3, 1) := by decide +kernel
theorem dL_law_431 : decode cL_law 431 = .ok (.iconst 0, 1) := by decide +kernel
theorem dL_law_432 : decode cL_law 432 = .ok (.laload, 1) := by decide +kernel
theorem dL_law_433 : decode cL_law 433 = .ok (.iload 7, 2) := by decide +kernel
theorem dL_law_435 : decode cL_law 435 = .ok (.i2l, 1) := by decide +kernel
theorem dL_law_436 : decode cL_law 436 = .ok (.lcmp, 1) := by decide +kernel
theorem dL_law_437 : decode cL_law 437 = .ok (.ifCond .eq 5, 3) := by decide +kernel
theorem dL_law_440 : decode cL_law 440 = .ok (.iconst 0, 1) := by decide +kernel
theorem dL_law_441 : decode cL_law 441 = .ok (.ireturn, 1) := by decide +kernel
theorem dL_law_442 : decode cL_law 442 = .ok (.goto 1270, 3) := by decide +kernel
theorem dL_law_445 : decode cL_law 445 = .ok (.aload_n 1, 1) := by decide +kernel
theorem dL_law_446 : decode cL_law 446 = .ok (.aload_n 0, 1) := by decide +kernel
theorem dL_law_447 : decode cL_law 447 = .ok (.iload 5, 2) := by decide +kernel
theorem dL_law_449 : decode cL_law 449 = .ok (.iconst 1, 1) := by decide +kernel
theorem dL_law_450 : decode cL_law 450 = .ok (.iadd, 1) := by decide +kernel
theorem dL_law_451 : decode cL_law 451 = .ok (.iaload, 1) := by decide +kernel
theorem dL_law_452 : decode cL_law 452 = .ok (.aload_n 0, 1) := by decide +kernel
theorem dL_law_453 : decode cL_law 453 = .ok (.iload 5, 2) := by decide +kernel
theorem dL_law_455 : decode cL_law 455 = .ok (.iconst 2, 1) := by decide +kernel
theorem dL_law_456 : decode cL_law 456 = .ok (.iadd, 1) := by decide +kernel
theorem dL_law_457 : decode cL_law 457 = .ok (.iaload, 1) := by decide +kernel
theorem dL_law_458 : decode cL_law 458 = .ok (.aload_n 3, 1) := by decide +kernel
theorem dL_law_459 : decode cL_law 459 = .ok (.invokestatic 128, 3) := by decide +kernel
theorem dL_law_462 : decode cL_law 462 = .ok (.istore 6, 2) := by decide +kernel
theorem dL_law_464 : decode cL_law 464 = .ok (.aload_n 2, 1) := by decide +kernel
theorem dL_law_465 : decode cL_law 465 = .ok (.aload_n 0, 1) := by decide +kernel
theorem dL_law_466 : decode cL_law 466 = .ok (.iload 5, 2) := by decide +kernel
theorem dL_law_468 : decode cL_law 468 = .ok (.iconst 1, 1) := by decide +kernel
theorem dL_law_469 : decode cL_law 469 = .ok (.iadd, 1) := by decide +kernel
theorem dL_law_470 : decode cL_law 470 = .ok (.iaload, 1) := by decide +kernel
theorem dL_law_471 : decode cL_law 471 = .ok (.aload_n 0, 1) := by decide +kernel
theorem dL_law_472 : decode cL_law 472 = .ok (.iload 5, 2) := by decide +kernel
theorem dL_law_474 : decode cL_law 474 = .ok (.iconst 2, 1) := by decide +kernel
theorem dL_law_475 : decode cL_law 475 = .ok (.iadd, 1) := by decide +kernel
theorem dL_law_476 : decode cL_law 476 = .ok (.iaload, 1) := by decide +kernel
theorem dL_law_477 : decode cL_law 477 = .ok (.invokevirtual 131, 3) := by decide +kernel
theorem dL_law_480 : decode cL_law 480 = .ok (.istore 7, 2) := by decide +kernel
theorem dL_law_482 : decode cL_law 482 = .ok (.aload_n 2, 1) := by decide +kernel
theorem dL_law_483 : decode cL_law 483 = .ok (.invokevirtual 111, 3) := by decide +kernel
theorem dL_law_486 : decode cL_law 486 = .ok (.iload 6, 2) := by decide +kernel
theorem dL_law_488 : decode cL_law 488 = .ok (.if_icmp .eq 5, 3) := by decide +kernel
theorem dL_law_491 : decode cL_law 491 = .ok (.iconst 0, 1) := by decide +kernel
theorem dL_law_492 : decode cL_law 492 = .ok (.ireturn, 1) := by decide +kernel
theorem dL_law_493 : decode cL_law 493 = .ok (.iload 6, 2) := by decide +kernel
theorem dL_law_495 : decode cL_law 495 = .ok (.ifCond .ne 15, 3) := by decide +kernel
theorem dL_law_498 : decode cL_law 498 = .ok (.aload_n 3, 1) := by decide +kernel
theorem dL_law_499 : decode cL_law 499 = .ok (.iconst 0, 1) := by decide +kernel
theorem dL_law_500 : decode cL_law 500 = .ok (.laload, 1) := by decide +kernel
theorem dL_law_501 : decode cL_law 501 = .ok (.iload 7, 2) := by decide +kernel
theorem dL_law_503 : decode cL_law 503 = .ok (.i2l, 1) := by decide +kernel
theorem dL_law_504 : decode cL_law 504 = .ok (.lcmp, 1) := by decide +kernel
theorem dL_law_505 : decode cL_law 505 = .ok (.ifCond .eq 5, 3) := by decide +kernel
theorem dL_law_508 : decode cL_law 508 = .ok (.iconst 0, 1) := by decide +kernel
theorem dL_law_509 : decode cL_law 509 = .ok (.ireturn, 1) := by decide +kernel
theorem dL_law_510 : decode cL_law 510 = .ok (.goto 1202, 3) := by decide +kernel
theorem dL_law_513 : decode cL_law 513 = .ok (.aload_n 1, 1) := by decide +kernel
theorem dL_law_514 : decode cL_law 514 = .ok (.aload_n 0, 1) := by decide +kernel
theorem dL_law_515 : decode cL_law 515 = .ok (.iload 5, 2) := by decide +kernel
theorem dL_law_517 : decode cL_law 517 = .ok (.iconst 1, 1) := by decide +kernel
theorem dL_law_518 : decode cL_law 518 = .ok (.iadd, 1) := by decide +kernel
theorem dL_law_519 : decode cL_law 519 = .ok (.iaload, 1) := by decide +kernel
theorem dL_law_520 : decode cL_law 520 = .ok (.aload_n 3, 1) := by decide +kernel
theorem dL_law_521 : decode cL_law 521 = .ok (.invokestatic 132, 3) := by decide +kernel
theorem dL_law_524 : decode cL_law 524 = .ok (.istore 6, 2) := by decide +kernel
theorem dL_law_526 : decode cL_law 526 = .ok (.aload_n 2, 1) := by decide +kernel
theorem dL_law_527 : decode cL_law 527 = .ok (.aload_n 0, 1) := by decide +kernel
theorem dL_law_528 : decode cL_law 528 = .ok (.iload 5, 2) := by decide +kernel
theorem dL_law_530 : decode cL_law 530 = .ok (.iconst 1, 1) := by decide +kernel
theorem dL_law_531 : decode cL_law 531 = .ok (.iadd, 1) := by decide +kernel
theorem dL_law_532 : decode cL_law 532 = .ok (.iaload, 1) := by decide +kernel
theorem dL_law_533 : decode cL_law 533 = .ok (.invokevirtual 134, 3) := by decide +kernel
theorem dL_law_536 : decode cL_law 536 = .ok (.istore 7, 2) := by decide +kernel
theorem dL_law_538 : decode cL_law 538 = .ok (.aload_n 2, 1) := by decide +kernel
theorem dL_law_539 : decode cL_law 539 = .ok (.invokevirtual 111, 3) := by decide +kernel
theorem dL_law_542 : decode cL_law 542 = .ok (.iload 6, 2) := by decide +kernel
theorem dL_law_544 : decode cL_law 544 = .ok (.if_icmp .eq 5, 3) := by decide +kernel
theorem dL_law_547 : decode cL_law 547 = .ok (.iconst 0, 1) := by decide +kernel
theorem dL_law_548 : decode cL_law 548 = .ok (.ireturn, 1) := by decide +kernel
theorem dL_law_549 : decode cL_law 549 = .ok (.iload 6, 2) := by decide +kernel
theorem dL_law_551 : decode cL_law 551 = .ok (.ifCond .ne 15, 3) := by decide +kernel
theorem dL_law_554 : decode cL_law 554 = .ok (.aload_n 3, 1) := by decide +kernel
theorem dL_law_555 : decode cL_law 555 = .ok (.iconst 0, 1) := by decide +kernel
theorem dL_law_556 : decode cL_law 556 = .ok (.laload, 1) := by decide +kernel
theorem dL_law_557 : decode cL_law 557 = .ok (.iload 7, 2) := by decide +kernel
theorem dL_law_559 : decode cL_law 559 = .ok (.i2l, 1) := by decide +kernel
theorem dL_law_560 : decode cL_law 560 = .ok (.lcmp, 1) := by decide +kernel
theorem dL_law_561 : decode cL_law 561 = .ok (.ifCond .eq 5, 3) := by decide +kernel
theorem dL_law_564 : decode cL_law 564 = .ok (.iconst 0, 1) := by decide +kernel
theorem dL_law_565 : decode cL_law 565 = .ok (.ireturn, 1) := by decide +kernel
theorem dL_law_566 : decode cL_law 566 = .ok (.goto 1146, 3) := by decide +kernel
theorem dL_law_569 : decode cL_law 569 = .ok (.aload_n 1, 1) := by decide +kernel
theorem dL_law_570 : decode cL_law 570 = .ok (.aload_n 0, 1) := by decide +kernel
theorem dL_law_571 : decode cL_law 571 = .ok (.iload 5, 2) := by decide +kernel
theorem dL_law_573 : decode cL_law 573 = .ok (.iconst 1, 1) := by decide +kernel
theorem dL_law_574 : decode cL_law 574 = .ok (.iadd, 1) := by decide +kernel
theorem dL_law_575 : decode cL_law 575 = .ok (.iaload, 1) := by decide +kernel
theorem dL_law_576 : decode cL_law 576 = .ok (.aload_n 3, 1) := by decide +kernel
theorem dL_law_577 : decode cL_law 577 = .ok (.invokestatic 135, 3) := by decide +kernel
theorem dL_law_580 : decode cL_law 580 = .ok (.istore 6, 2) := by decide +kernel
theorem dL_law_582 : decode cL_law 582 = .ok (.aload_n 2, 1) := by decide +kernel
theorem dL_law_583 : decode cL_law 583 = .ok (.aload_n 0, 1) := by decide +kernel
theorem dL_law_584 : decode cL_law 584 = .ok (.iload 5, 2) := by decide +kernel
theorem dL_law_586 : decode cL_law 586 = .ok (.iconst 1, 1) := by decide +kernel
theorem dL_law_587 : decode cL_law 587 = .ok (.iadd, 1) := by decide +kernel
theorem dL_law_588 : decode cL_law 588 = .ok (.iaload, 1) := by decide +kernel
theorem dL_law_589 : decode cL_law 589 = .ok (.invokevirtual 137, 3) := by decide +kernel
theorem dL_law_592 : decode cL_law 592 = .ok (.istore 7, 2) := by decide +kernel
theorem dL_law_594 : decode cL_law 594 = .ok (.aload_n 2, 1) := by decide +kernel
theorem dL_law_595 : decode cL_law 595 = .ok (.invokevirtual 111, 3) := by decide +kernel
theorem dL_law_598 : decode cL_law 598 = .ok (.iload 6, 2) := by decide +kernel
theorem dL_law_600 : decode cL_law 600 = .ok (.if_icmp .eq 5, 3) := by decide +kernel
theorem dL_law_603 : decode cL_law 603 = .ok (.iconst 0, 1) := by decide +kernel
theorem dL_law_604 : decode cL_law 604 = .ok (.ireturn, 1) := by decide +kernel
theorem dL_law_605 : decode cL_law 605 = .ok (.iload 6, 2) := by decide +kernel
theorem dL_law_607 : decode cL_law 607 = .ok (.ifCond .ne 15, 3) := by decide +kernel
theorem dL_law_610 : decode cL_law 610 = .ok (.aload_n 3, 1) := by decide +kernel
theorem dL_law_611 : decode cL_law 611 = .ok (.iconst 0, 1) := by decide +kernel
theorem dL_law_612 : decode cL_law 612 = .ok (.laload, 1) := by decide +kernel
theorem dL_law_613 : decode cL_law 613 = .ok (.iload 7, 2) := by decide +kernel
theorem dL_law_615 : decode cL_law 615 = .ok (.i2l, 1) := by decide +kernel
theorem dL_law_616 : decode cL_law 616 = .ok (.lcmp, 1) := by decide +kernel
theorem dL_law_617 : decode cL_law 617 = .ok (.ifCond .eq 5, 3) := by decide +kernel
theorem dL_law_620 : decode cL_law 620 = .ok (.iconst 0, 1) := by decide +kernel
theorem dL_law_621 : decode cL_law 621 = .ok (.ireturn, 1) := by decide +kernel
theorem dL_law_622 : decode cL_law 622 = .ok (.goto 1090, 3) := by decide +kernel
theorem dL_law_625 : decode cL_law 625 = .ok (.aload_n 1, 1) := by decide +kernel
theorem dL_law_626 : decode cL_law 626 = .ok (.aload_n 0, 1) := by decide +kernel
theorem dL_law_627 : decode cL_law 627 = .ok (.iload 5, 2) := by decide +kernel
theorem dL_law_629 : decode cL_law 629 = .ok (.iconst 1, 1) := by decide +kernel
theorem dL_law_630 : decode cL_law 630 = .ok (.iadd, 1) := by decide +kernel
theorem dL_law_631 : decode cL_law 631 = .ok (.iaload, 1) := by decide +kernel
theorem dL_law_632 : decode cL_law 632 = .ok (.aload_n 0, 1) := by decide +kernel
theorem dL_law_633 : decode cL_law 633 = .ok (.iload 5, 2) := by decide +kernel
theorem dL_law_635 : decode cL_law 635 = .ok (.iconst 2, 1) := by decide +kernel
theorem dL_law_636 : decode cL_law 636 = .ok (.iadd, 1) := by decide +kernel
theorem dL_law_637 : decode cL_law 637 = .ok (.iaload, 1) := by decide +kernel
theorem dL_law_638 : decode cL_law 638 = .ok (.aload_n 0, 1) := by decide +kernel
theorem dL_law_639 : decode cL_law 639 = .ok (.iload 5, 2) := by decide +kernel
theorem dL_law_641 : decode cL_law 641 = .ok (.iconst 3, 1) := by decide +kernel
theorem dL_law_642 : decode cL_law 642 = .ok (.iadd, 1) := by decide +kernel
theorem dL_law_643 : decode cL_law 643 = .ok (.iaload, 1) := by decide +kernel
theorem dL_law_644 : decode cL_law 644 = .ok (.aload_n 3, 1) := by decide +kernel
theorem dL_law_645 : decode cL_law 645 = .ok (.invokestatic 138, 3) := by decide +kernel
theorem dL_law_648 : decode cL_law 648 = .ok (.istore 6, 2) := by decide +kernel
theorem dL_law_650 : decode cL_law 650 = .ok (.aload_n 2, 1) := by decide +kernel
theorem dL_law_651 : decode cL_law 651 = .ok (.aload_n 0, 1) := by decide +kernel
theorem dL_law_652 : decode cL_law 652 = .ok (.iload 5, 2) := by decide +kernel
theorem dL_law_654 : decode cL_law 654 = .ok (.iconst 1, 1) := by decide +kernel
theorem dL_law_655 : decode cL_law 655 = .ok (.iadd, 1) := by decide +kernel
theorem dL_law_656 : decode cL_law 656 = .ok (.iaload, 1) := by decide +kernel
theorem dL_law_657 : decode cL_law 657 = .ok (.aload_n 0, 1) := by decide +kernel
theorem dL_law_658 : decode cL_law 658 = .ok (.iload 5, 2) := by decide +kernel
theorem dL_law_660 : decode cL_law 660 = .ok (.iconst 2, 1) := by decide +kernel
theorem dL_law_661 : decode cL_law 661 = .ok (.iadd, 1) := by decide +kernel
theorem dL_law_662 : decode cL_law 662 = .ok (.iaload, 1) := by decide +kernel
theorem dL_law_663 : decode cL_law 663 = .ok (.aload_n 0, 1) := by decide +kernel
theorem dL_law_664 : decode cL_law 664 = .ok (.iload 5, 2) := by decide +kernel
theorem dL_law_666 : decode cL_law 666 = .ok (.iconst 3, 1) := by decide +kernel
theorem dL_law_667 : decode cL_law 667 = .ok (.iadd, 1) := by decide +kernel
theorem dL_law_668 : decode cL_law 668 = .ok (.iaload, 1) := by decide +kernel
theorem dL_law_669 : decode cL_law 669 = .ok (.invokevirtual 141, 3) := by decide +kernel
theorem dL_law_672 : decode cL_law 672 = .ok (.istore 7, 2) := by decide +kernel
theorem dL_law_674 : decode cL_law 674 = .ok (.aload_n 2, 1) := by decide +kernel
theorem dL_law_675 : decode cL_law 675 = .ok (.invokevirtual 111, 3) := by decide +kernel
theorem dL_law_678 : decode cL_law 678 = .ok (.iload 6, 2) := by decide +kernel
theorem dL_law_680 : decode cL_law 680 = .ok (.if_icmp .eq 5, 3) := by decide +kernel
theorem dL_law_683 : decode cL_law 683 = .ok (.iconst 0, 1) := by decide +kernel
theorem dL_law_684 : decode cL_law 684 = .ok (.ireturn, 1) := by decide +kernel
theorem dL_law_685 : decode cL_law 685 = .ok (.iload 6, 2) := by decide +kernel
theorem dL_law_687 : decode cL_law 687 = .ok (.ifCond .ne 15, 3) := by decide +kernel
theorem dL_law_690 : decode cL_law 690 = .ok (.aload_n 3, 1) := by decide +kernel
theorem dL_law_691 : decode cL_law 691 = .ok (.iconst 0, 1) := by decide +kernel
theorem dL_law_692 : decode cL_law 692 = .ok (.laload, 1) := by decide +kernel
theorem dL_law_693 : decode cL_law 693 = .ok (.iload 7, 2) := by decide +kernel
theorem dL_law_695 : decode cL_law 695 = .ok (.i2l, 1) := by decide +kernel
theorem dL_law_696 : decode cL_law 696 = .ok (.lcmp, 1) := by decide +kernel
theorem dL_law_697 : decode cL_law 697 = .ok (.ifCond .eq 5, 3) := by decide +kernel
theorem dL_law_700 : decode cL_law 700 = .ok (.iconst 0, 1) := by decide +kernel
theorem dL_law_701 : decode cL_law 701 = .ok (.ireturn, 1) := by decide +kernel
theorem dL_law_702 : decode cL_law 702 = .ok (.goto 1010, 3) := by decide +kernel
theorem dL_law_705 : decode cL_law 705 = .ok (.aload_n 1, 1) := by decide +kernel
theorem dL_law_706 : decode cL_law 706 = .ok (.aload_n 0, 1) := by decide +kernel
theorem dL_law_707 : decode cL_law 707 = .ok (.iload 5, 2) := by decide +kernel
theorem dL_law_709 : decode cL_law 709 = .ok (.iconst 1, 1) := by decide +kernel
theorem dL_law_710 : decode cL_law 710 = .ok (.iadd, 1) := by decide +kernel
theorem dL_law_711 : decode cL_law 711 = .ok (.iaload, 1) := by decide +kernel
theorem dL_law_712 : decode cL_law 712 = .ok (.aload_n 0, 1) := by decide +kernel
theorem dL_law_713 : decode cL_law 713 = .ok (.iload 5, 2) := by decide +kernel
theorem dL_law_715 : decode cL_law 715 = .ok (.iconst 2, 1) := by decide +kernel
theorem dL_law_716 : decode cL_law 716 = .ok (.iadd, 1) := by decide +kernel
theorem dL_law_717 : decode cL_law 717 = .ok (.iaload, 1) := by decide +kernel
theorem dL_law_718 : decode cL_law 718 = .ok (.aload_n 3, 1) := by decide +kernel
theorem dL_law_719 : decode cL_law 719 = .ok (.invokestatic 142, 3) := by decide +kernel
theorem dL_law_722 : decode cL_law 722 = .ok (.istore 6, 2) := by decide +kernel
theorem dL_law_724 : decode cL_law 724 = .ok (.aload_n 2, 1) := by decide +kernel
theorem dL_law_725 : decode cL_law 725 = .ok (.aload_n 0, 1) := by decide +kernel
theorem dL_law_726 : decode cL_law 726 = .ok (.iload 5, 2) := by decide +kernel
theorem dL_law_728 : decode cL_law 728 = .ok (.iconst 1, 1) := by decide +kernel
theorem dL_law_729 : decode cL_law 729 = .ok (.iadd, 1) := by decide +kernel
theorem dL_law_730 : decode cL_law 730 = .ok (.iaload, 1) := by decide +kernel
theorem dL_law_731 : decode cL_law 731 = .ok (.aload_n 0, 1) := by decide +kernel
theorem dL_law_732 : decode cL_law 732 = .ok (.iload 5, 2) := by decide +kernel
theorem dL_law_734 : decode cL_law 734 = .ok (.iconst 2, 1) := by decide +kernel
theorem dL_law_735 : decode cL_law 735 = .ok (.iadd, 1) := by decide +kernel
theorem dL_law_736 : decode cL_law 736 = .ok (.iaload, 1) := by decide +kernel
theorem dL_law_737 : decode cL_law 737 = .ok (.invokevirtual 144, 3) := by decide +kernel
theorem dL_law_740 : decode cL_law 740 = .ok (.istore 7, 2) := by decide +kernel
theorem dL_law_742 : decode cL_law 742 = .ok (.aload_n 2, 1) := by decide +kernel
theorem dL_law_743 : decode cL_law 743 = .ok (.invokevirtual 111, 3) := by decide +kernel
theorem dL_law_746 : decode cL_law 746 = .ok (.iload 6, 2) := by decide +kernel
theorem dL_law_748 : decode cL_law 748 = .ok (.if_icmp .eq 5, 3) := by decide +kernel
theorem dL_law_751 : decode cL_law 751 = .ok (.iconst 0, 1) := by decide +kernel
theorem dL_law_752 : decode cL_law 752 = .ok (.ireturn, 1) := by decide +kernel
theorem dL_law_753 : decode cL_law 753 = .ok (.iload 6, 2) := by decide +kernel
theorem dL_law_755 : decode cL_law 755 = .ok (.ifCond .ne 15, 3) := by decide +kernel
theorem dL_law_758 : decode cL_law 758 = .ok (.aload_n 3, 1) := by decide +kernel
theorem dL_law_759 : decode cL_law 759 = .ok (.iconst 0, 1) := by decide +kernel
theorem dL_law_760 : decode cL_law 760 = .ok (.laload, 1) := by decide +kernel
theorem dL_law_761 : decode cL_law 761 = .ok (.iload 7, 2) := by decide +kernel
theorem dL_law_763 : decode cL_law 763 = .ok (.i2l, 1) := by decide +kernel
theorem dL_law_764 : decode cL_law 764 = .ok (.lcmp, 1) := by decide +kernel
theorem dL_law_765 : decode cL_law 765 = .ok (.ifCond .eq 5, 3) := by decide +kernel
theorem dL_law_768 : decode cL_law 768 = .ok (.iconst 0, 1) := by decide +kernel
theorem dL_law_769 : decode cL_law 769 = .ok (.ireturn, 1) := by decide +kernel
theorem dL_law_770 : decode cL_law 770 = .ok (.goto 942, 3) := by decide +kernel
theorem dL_law_773 : decode cL_law 773 = .ok (.aload_n 1, 1) := by decide +kernel
theorem dL_law_774 : decode cL_law 774 = .ok (.aload_n 0, 1) := by decide +kernel
theorem dL_law_775 : decode cL_law 775 = .ok (.iload 5, 2) := by decide +kernel
theorem dL_law_777 : decode cL_law 777 = .ok (.iconst 1, 1) := by decide +kernel
theorem dL_law_778 : decode cL_law 778 = .ok (.iadd, 1) := by decide +kernel
theorem dL_law_779 : decode cL_law 779 = .ok (.iaload, 1) := by decide +kernel
theorem dL_law_780 : decode cL_law 780 = .ok (.aload_n 0, 1) := by decide +kernel
theorem dL_law_781 : decode cL_law 781 = .ok (.iload 5, 2) := by decide +kernel
theorem dL_law_783 : decode cL_law 783 = .ok (.iconst 2, 1) := by decide +kernel
theorem dL_law_784 : decode cL_law 784 = .ok (.iadd, 1) := by decide +kernel
theorem dL_law_785 : decode cL_law 785 = .ok (.iaload, 1) := by decide +kernel
theorem dL_law_786 : decode cL_law 786 = .ok (.aload_n 0, 1) := by decide +kernel
theorem dL_law_787 : decode cL_law 787 = .ok (.iload 5, 2) := by decide +kernel
theorem dL_law_789 : decode cL_law 789 = .ok (.iconst 3, 1) := by decide +kernel
theorem dL_law_790 : decode cL_law 790 = .ok (.iadd, 1) := by decide +kernel
theorem dL_law_791 : decode cL_law 791 = .ok (.iaload, 1) := by decide +kernel
theorem dL_law_792 : decode cL_law 792 = .ok (.aload_n 3, 1) := by decide +kernel
theorem dL_law_793 : decode cL_law 793 = .ok (.invokestatic 145, 3) := by decide +kernel
theorem dL_law_796 : decode cL_law 796 = .ok (.istore 6, 2) := by decide +kernel
theorem dL_law_798 : decode cL_law 798 = .ok (.aload_n 2, 1) := by decide +kernel
theorem dL_law_799 : decode cL_law 799 = .ok (.aload_n 0, 1) := by decide +kernel
theorem dL_law_800 : decode cL_law 800 = .ok (.iload 5, 2) := by decide +kernel
theorem dL_law_802 : decode cL_law 802 = .ok (.iconst 1, 1) := by decide +kernel
theorem dL_law_803 : decode cL_law 803 = .ok (.iadd, 1) := by decide +kernel
theorem dL_law_804 : decode cL_law 804 = .ok (.iaload, 1) := by decide +kernel
theorem dL_law_805 : decode cL_law 805 = .ok (.aload_n 0, 1) := by decide +kernel
theorem dL_law_806 : decode cL_law 806 = .ok (.iload 5, 2) := by decide +kernel
theorem dL_law_808 : decode cL_law 808 = .ok (.iconst 2, 1) := by decide +kernel
theorem dL_law_809 : decode cL_law 809 = .ok (.iadd, 1) := by decide +kernel
theorem dL_law_810 : decode cL_law 810 = .ok (.iaload, 1) := by decide +kernel
theorem dL_law_811 : decode cL_law 811 = .ok (.aload_n 0, 1) := by decide +kernel
theorem dL_law_812 : decode cL_law 812 = .ok (.iload 5, 2) := by decide +kernel
theorem dL_law_814 : decode cL_law 814 = .ok (.iconst 3, 1) := by decide +kernel
theorem dL_law_815 : decode cL_law 815 = .ok (.iadd, 1) := by decide +kernel
theorem dL_law_816 : decode cL_law 816 = .ok (.iaload, 1) := by decide +kernel
theorem dL_law_817 : decode cL_law 817 = .ok (.invokevirtual 147, 3) := by decide +kernel
theorem dL_law_820 : decode cL_law 820 = .ok (.istore 7, 2) := by decide +kernel
theorem dL_law_822 : decode cL_law 822 = .ok (.aload_n 2, 1) := by decide +kernel
theorem dL_law_823 : decode cL_law 823 = .ok (.invokevirtual 111, 3) := by decide +kernel
theorem dL_law_826 : decode cL_law 826 = .ok (.iload 6, 2) := by decide +kernel
theorem dL_law_828 : decode cL_law 828 = .ok (.if_icmp .eq 5, 3) := by decide +kernel
theorem dL_law_831 : decode cL_law 831 = .ok (.iconst 0, 1) := by decide +kernel
theorem dL_law_832 : decode cL_law 832 = .ok (.ireturn, 1) := by decide +kernel
theorem dL_law_833 : decode cL_law 833 = .ok (.iload 6, 2) := by decide +kernel
theorem dL_law_835 : decode cL_law 835 = .ok (.ifCond .ne 15, 3) := by decide +kernel
theorem dL_law_838 : decode cL_law 838 = .ok (.aload_n 3, 1) := by decide +kernel
theorem dL_law_839 : decode cL_law 839 = .ok (.iconst 0, 1) := by decide +kernel
theorem dL_law_840 : decode cL_law 840 = .ok (.laload, 1) := by decide +kernel
theorem dL_law_841 : decode cL_law 841 = .ok (.iload 7, 2) := by decide +kernel
theorem dL_law_843 : decode cL_law 843 = .ok (.i2l, 1) := by decide +kernel
theorem dL_law_844 : decode cL_law 844 = .ok (.lcmp, 1) := by decide +kernel
theorem dL_law_845 : decode cL_law 845 = .ok (.ifCond .eq 5, 3) := by decide +kernel
theorem dL_law_848 : decode cL_law 848 = .ok (.iconst 0, 1) := by decide +kernel
theorem dL_law_849 : decode cL_law 849 = .ok (.ireturn, 1) := by decide +kernel
theorem dL_law_850 : decode cL_law 850 = .ok (.goto 862, 3) := by decide +kernel
theorem dL_law_853 : decode cL_law 853 = .ok (.aload_n 1, 1) := by decide +kernel
theorem dL_law_854 : decode cL_law 854 = .ok (.aload_n 0, 1) := by decide +kernel
theorem dL_law_855 : decode cL_law 855 = .ok (.iload 5, 2) := by decide +kernel
theorem dL_law_857 : decode cL_law 857 = .ok (.iconst 1, 1) := by decide +kernel
theorem dL_law_858 : decode cL_law 858 = .ok (.iadd, 1) := by decide +kernel
theorem dL_law_859 : decode cL_law 859 = .ok (.iaload, 1) := by decide +kernel
theorem dL_law_860 : decode cL_law 860 = .ok (.aload_n 0, 1) := by decide +kernel
theorem dL_law_861 : decode cL_law 861 = .ok (.iload 5, 2) := by decide +kernel
theorem dL_law_863 : decode cL_law 863 = .ok (.iconst 2, 1) := by decide +kernel
theorem dL_law_864 : decode cL_law 864 = .ok (.iadd, 1) := by decide +kernel
theorem dL_law_865 : decode cL_law 865 = .ok (.iaload, 1) := by decide +kernel
theorem dL_law_866 : decode cL_law 866 = .ok (.aload_n 3, 1) := by decide +kernel
theorem dL_law_867 : decode cL_law 867 = .ok (.invokestatic 148, 3) := by decide +kernel
theorem dL_law_870 : decode cL_law 870 = .ok (.istore 6, 2) := by decide +kernel
theorem dL_law_872 : decode cL_law 872 = .ok (.aload_n 2, 1) := by decide +kernel
theorem dL_law_873 : decode cL_law 873 = .ok (.aload_n 0, 1) := by decide +kernel
theorem dL_law_874 : decode cL_law 874 = .ok (.iload 5, 2) := by decide +kernel
theorem dL_law_876 : decode cL_law 876 = .ok (.iconst 1, 1) := by decide +kernel
theorem dL_law_877 : decode cL_law 877 = .ok (.iadd, 1) := by decide +kernel
theorem dL_law_878 : decode cL_law 878 = .ok (.iaload, 1) := by decide +kernel
theorem dL_law_879 : decode cL_law 879 = .ok (.aload_n 0, 1) := by decide +kernel
theorem dL_law_880 : decode cL_law 880 = .ok (.iload 5, 2) := by decide +kernel
theorem dL_law_882 : decode cL_law 882 = .ok (.iconst 2, 1) := by decide +kernel
theorem dL_law_883 : decode cL_law 883 = .ok (.iadd, 1) := by decide +kernel
theorem dL_law_884 : decode cL_law 884 = .ok (.iaload, 1) := by decide +kernel
theorem dL_law_885 : decode cL_law 885 = .ok (.invokevirtual 150, 3) := by decide +kernel
theorem dL_law_888 : decode cL_law 888 = .ok (.istore 7, 2) := by decide +kernel
theorem dL_law_890 : decode cL_law 890 = .ok (.aload_n 2, 1) := by decide +kernel
theorem dL_law_891 : decode cL_law 891 = .ok (.invokevirtual 111, 3) := by decide +kernel
theorem dL_law_894 : decode cL_law 894 = .ok (.iload 6, 2) := by decide +kernel
theorem dL_law_896 : decode cL_law 896 = .ok (.if_icmp .eq 5, 3) := by decide +kernel
theorem dL_law_899 : decode cL_law 899 = .ok (.iconst 0, 1) := by decide +kernel
theorem dL_law_900 : decode cL_law 900 = .ok (.ireturn, 1) := by decide +kernel
theorem dL_law_901 : decode cL_law 901 = .ok (.iload 6, 2) := by decide +kernel
theorem dL_law_903 : decode cL_law 903 = .ok (.ifCond .ne 15, 3) := by decide +kernel
theorem dL_law_906 : decode cL_law 906 = .ok (.aload_n 3, 1) := by decide +kernel
theorem dL_law_907 : decode cL_law 907 = .ok (.iconst 0, 1) := by decide +kernel
theorem dL_law_908 : decode cL_law 908 = .ok (.laload, 1) := by decide +kernel
theorem dL_law_909 : decode cL_law 909 = .ok (.iload 7, 2) := by decide +kernel
theorem dL_law_911 : decode cL_law 911 = .ok (.i2l, 1) := by decide +kernel
theorem dL_law_912 : decode cL_law 912 = .ok (.lcmp, 1) := by decide +kernel
theorem dL_law_913 : decode cL_law 913 = .ok (.ifCond .eq 5, 3) := by decide +kernel
theorem dL_law_916 : decode cL_law 916 = .ok (.iconst 0, 1) := by decide +kernel
theorem dL_law_917 : decode cL_law 917 = .ok (.ireturn, 1) := by decide +kernel
theorem dL_law_918 : decode cL_law 918 = .ok (.goto 794, 3) := by decide +kernel
theorem dL_law_921 : decode cL_law 921 = .ok (.aload_n 1, 1) := by decide +kernel
theorem dL_law_922 : decode cL_law 922 = .ok (.aload_n 0, 1) := by decide +kernel
theorem dL_law_923 : decode cL_law 923 = .ok (.iload 5, 2) := by decide +kernel
theorem dL_law_925 : decode cL_law 925 = .ok (.iconst 1, 1) := by decide +kernel
theorem dL_law_926 : decode cL_law 926 = .ok (.iadd, 1) := by decide +kernel
theorem dL_law_927 : decode cL_law 927 = .ok (.iaload, 1) := by decide +kernel
theorem dL_law_928 : decode cL_law 928 = .ok (.aload_n 3, 1) := by decide +kernel
theorem dL_law_929 : decode cL_law 929 = .ok (.invokestatic 151, 3) := by decide +kernel
theorem dL_law_932 : decode cL_law 932 = .ok (.istore 6, 2) := by decide +kernel
theorem dL_law_934 : decode cL_law 934 = .ok (.aload_n 2, 1) := by decide +kernel
theorem dL_law_935 : decode cL_law 935 = .ok (.aload_n 0, 1) := by decide +kernel
theorem dL_law_936 : decode cL_law 936 = .ok (.iload 5, 2) := by decide +kernel
theorem dL_law_938 : decode cL_law 938 = .ok (.iconst 1, 1) := by decide +kernel
theorem dL_law_939 : decode cL_law 939 = .ok (.iadd, 1) := by decide +kernel
theorem dL_law_940 : decode cL_law 940 = .ok (.iaload, 1) := by decide +kernel
theorem dL_law_941 : decode cL_law 941 = .ok (.invokevirtual 153, 3) := by decide +kernel
theorem dL_law_944 : decode cL_law 944 = .ok (.istore 7, 2) := by decide +kernel
theorem dL_law_946 : decode cL_law 946 = .ok (.aload_n 2, 1) := by decide +kernel
theorem dL_law_947 : decode cL_law 947 = .ok (.invokevirtual 111, 3) := by decide +kernel
theorem dL_law_950 : decode cL_law 950 = .ok (.iload 6, 2) := by decide +kernel
theorem dL_law_952 : decode cL_law 952 = .ok (.if_icmp .eq 5, 3) := by decide +kernel
theorem dL_law_955 : decode cL_law 955 = .ok (.iconst 0, 1) := by decide +kernel
theorem dL_law_956 : decode cL_law 956 = .ok (.ireturn, 1) := by decide +kernel
theorem dL_law_957 : decode cL_law 957 = .ok (.iload 6, 2) := by decide +kernel
theorem dL_law_959 : decode cL_law 959 = .ok (.ifCond .ne 15, 3) := by decide +kernel
theorem dL_law_962 : decode cL_law 962 = .ok (.aload_n 3, 1) := by decide +kernel
theorem dL_law_963 : decode cL_law 963 = .ok (.iconst 0, 1) := by decide +kernel
theorem dL_law_964 : decode cL_law 964 = .ok (.laload, 1) := by decide +kernel
theorem dL_law_965 : decode cL_law 965 = .ok (.iload 7, 2) := by decide +kernel
theorem dL_law_967 : decode cL_law 967 = .ok (.i2l, 1) := by decide +kernel
theorem dL_law_968 : decode cL_law 968 = .ok (.lcmp, 1) := by decide +kernel
theorem dL_law_969 : decode cL_law 969 = .ok (.ifCond .eq 5, 3) := by decide +kernel
theorem dL_law_972 : decode cL_law 972 = .ok (.iconst 0, 1) := by decide +kernel
theorem dL_law_973 : decode cL_law 973 = .ok (.ireturn, 1) := by decide +kernel
theorem dL_law_974 : decode cL_law 974 = .ok (.goto 738, 3) := by decide +kernel
theorem dL_law_977 : decode cL_law 977 = .ok (.aload_n 1, 1) := by decide +kernel
theorem dL_law_978 : decode cL_law 978 = .ok (.aload_n 0, 1) := by decide +kernel
theorem dL_law_979 : decode cL_law 979 = .ok (.iload 5, 2) := by decide +kernel
theorem dL_law_981 : decode cL_law 981 = .ok (.iconst 1, 1) := by decide +kernel
theorem dL_law_982 : decode cL_law 982 = .ok (.iadd, 1) := by decide +kernel
theorem dL_law_983 : decode cL_law 983 = .ok (.iaload, 1) := by decide +kernel
theorem dL_law_984 : decode cL_law 984 = .ok (.aload_n 3, 1) := by decide +kernel
theorem dL_law_985 : decode cL_law 985 = .ok (.invokestatic 154, 3) := by decide +kernel
theorem dL_law_988 : decode cL_law 988 = .ok (.istore 6, 2) := by decide +kernel
theorem dL_law_990 : decode cL_law 990 = .ok (.aload_n 2, 1) := by decide +kernel
theorem dL_law_991 : decode cL_law 991 = .ok (.aload_n 0, 1) := by decide +kernel
theorem dL_law_992 : decode cL_law 992 = .ok (.iload 5, 2) := by decide +kernel
theorem dL_law_994 : decode cL_law 994 = .ok (.iconst 1, 1) := by decide +kernel
theorem dL_law_995 : decode cL_law 995 = .ok (.iadd, 1) := by decide +kernel
theorem dL_law_996 : decode cL_law 996 = .ok (.iaload, 1) := by decide +kernel
theorem dL_law_997 : decode cL_law 997 = .ok (.invokevirtual 156, 3) := by decide +kernel
theorem dL_law_1000 : decode cL_law 1000 = .ok (.istore 7, 2) := by decide +kernel
theorem dL_law_1002 : decode cL_law 1002 = .ok (.aload_n 2, 1) := by decide +kernel
theorem dL_law_1003 : decode cL_law 1003 = .ok (.invokevirtual 111, 3) := by decide +kernel
theorem dL_law_1006 : decode cL_law 1006 = .ok (.iload 6, 2) := by decide +kernel
theorem dL_law_1008 : decode cL_law 1008 = .ok (.if_icmp .eq 5, 3) := by decide +kernel
theorem dL_law_1011 : decode cL_law 1011 = .ok (.iconst 0, 1) := by decide +kernel
theorem dL_law_1012 : decode cL_law 1012 = .ok (.ireturn, 1) := by decide +kernel
theorem dL_law_1013 : decode cL_law 1013 = .ok (.iload 6, 2) := by decide +kernel
theorem dL_law_1015 : decode cL_law 1015 = .ok (.ifCond .ne 15, 3) := by decide +kernel
theorem dL_law_1018 : decode cL_law 1018 = .ok (.aload_n 3, 1) := by decide +kernel
theorem dL_law_1019 : decode cL_law 1019 = .ok (.iconst 0, 1) := by decide +kernel
theorem dL_law_1020 : decode cL_law 1020 = .ok (.laload, 1) := by decide +kernel
theorem dL_law_1021 : decode cL_law 1021 = .ok (.iload 7, 2) := by decide +kernel
theorem dL_law_1023 : decode cL_law 1023 = .ok (.i2l, 1) := by decide +kernel
theorem dL_law_1024 : decode cL_law 1024 = .ok (.lcmp, 1) := by decide +kernel
theorem dL_law_1025 : decode cL_law 1025 = .ok (.ifCond .eq 5, 3) := by decide +kernel
theorem dL_law_1028 : decode cL_law 1028 = .ok (.iconst 0, 1) := by decide +kernel
theorem dL_law_1029 : decode cL_law 1029 = .ok (.ireturn, 1) := by decide +kernel
theorem dL_law_1030 : decode cL_law 1030 = .ok (.goto 682, 3) := by decide +kernel
theorem dL_law_1033 : decode cL_law 1033 = .ok (.aload_n 1, 1) := by decide +kernel
theorem dL_law_1034 : decode cL_law 1034 = .ok (.aload_n 0, 1) := by decide +kernel
theorem dL_law_1035 : decode cL_law 1035 = .ok (.iload 5, 2) := by decide +kernel
theorem dL_law_1037 : decode cL_law 1037 = .ok (.iconst 1, 1) := by decide +kernel
theorem dL_law_1038 : decode cL_law 1038 = .ok (.iadd, 1) := by decide +kernel
theorem dL_law_1039 : decode cL_law 1039 = .ok (.iaload, 1) := by decide +kernel
theorem dL_law_1040 : decode cL_law 1040 = .ok (.aload_n 0, 1) := by decide +kernel
theorem dL_law_1041 : decode cL_law 1041 = .ok (.iload 5, 2) := by decide +kernel
theorem dL_law_1043 : decode cL_law 1043 = .ok (.iconst 2, 1) := by decide +kernel
theorem dL_law_1044 : decode cL_law 1044 = .ok (.iadd, 1) := by decide +kernel
theorem dL_law_1045 : decode cL_law 1045 = .ok (.iaload, 1) := by decide +kernel
theorem dL_law_1046 : decode cL_law 1046 = .ok (.aload_n 3, 1) := by decide +kernel
theorem dL_law_1047 : decode cL_law 1047 = .ok (.invokestatic 157, 3) := by decide +kernel
theorem dL_law_1050 : decode cL_law 1050 = .ok (.istore 6, 2) := by decide +kernel
theorem dL_law_1052 : decode cL_law 1052 = .ok (.aload_n 2, 1) := by decide +kernel
theorem dL_law_1053 : decode cL_law 1053 = .ok (.aload_n 0, 1) := by decide +kernel
theorem dL_law_1054 : decode cL_law 1054 = .ok (.iload 5, 2) := by decide +kernel
theorem dL_law_1056 : decode cL_law 1056 = .ok (.iconst 1, 1) := by decide +kernel
theorem dL_law_1057 : decode cL_law 1057 = .ok (.iadd, 1) := by decide +kernel
theorem dL_law_1058 : decode cL_law 1058 = .ok (.iaload, 1) := by decide +kernel
theorem dL_law_1059 : decode cL_law 1059 = .ok (.aload_n 0, 1) := by decide +kernel
theorem dL_law_1060 : decode cL_law 1060 = .ok (.iload 5, 2) := by decide +kernel
theorem dL_law_1062 : decode cL_law 1062 = .ok (.iconst 2, 1) := by decide +kernel
theorem dL_law_1063 : decode cL_law 1063 = .ok (.iadd, 1) := by decide +kernel
theorem dL_law_1064 : decode cL_law 1064 = .ok (.iaload, 1) := by decide +kernel
theorem dL_law_1065 : decode cL_law 1065 = .ok (.invokevirtual 159, 3) := by decide +kernel
theorem dL_law_1068 : decode cL_law 1068 = .ok (.istore 7, 2) := by decide +kernel
theorem dL_law_1070 : decode cL_law 1070 = .ok (.aload_n 2, 1) := by decide +kernel
theorem dL_law_1071 : decode cL_law 1071 = .ok (.invokevirtual 111, 3) := by decide +kernel
theorem dL_law_1074 : decode cL_law 1074 = .ok (.iload 6, 2) := by decide +kernel
theorem dL_law_1076 : decode cL_law 1076 = .ok (.if_icmp .eq 5, 3) := by decide +kernel
theorem dL_law_1079 : decode cL_law 1079 = .ok (.iconst 0, 1) := by decide +kernel
theorem dL_law_1080 : decode cL_law 1080 = .ok (.ireturn, 1) := by decide +kernel
theorem dL_law_1081 : decode cL_law 1081 = .ok (.iload 6, 2) := by decide +kernel
theorem dL_law_1083 : decode cL_law 1083 = .ok (.ifCond .ne 15, 3) := by decide +kernel
theorem dL_law_1086 : decode cL_law 1086 = .ok (.aload_n 3, 1) := by decide +kernel
theorem dL_law_1087 : decode cL_law 1087 = .ok (.iconst 0, 1) := by decide +kernel
theorem dL_law_1088 : decode cL_law 1088 = .ok (.laload, 1) := by decide +kernel
theorem dL_law_1089 : decode cL_law 1089 = .ok (.iload 7, 2) := by decide +kernel
theorem dL_law_1091 : decode cL_law 1091 = .ok (.i2l, 1) := by decide +kernel
theorem dL_law_1092 : decode cL_law 1092 = .ok (.lcmp, 1) := by decide +kernel
theorem dL_law_1093 : decode cL_law 1093 = .ok (.ifCond .eq 5, 3) := by decide +kernel
theorem dL_law_1096 : decode cL_law 1096 = .ok (.iconst 0, 1) := by decide +kernel
theorem dL_law_1097 : decode cL_law 1097 = .ok (.ireturn, 1) := by decide +kernel
theorem dL_law_1098 : decode cL_law 1098 = .ok (.goto 614, 3) := by decide +kernel
theorem dL_law_1101 : decode cL_law 1101 = .ok (.aload_n 1, 1) := by decide +kernel
theorem dL_law_1102 : decode cL_law 1102 = .ok (.invokevirtual 160, 3) := by decide +kernel
theorem dL_law_1105 : decode cL_law 1105 = .ok (.aload_n 2, 1) := by decide +kernel
theorem dL_law_1106 : decode cL_law 1106 = .ok (.invokevirtual 163, 3) := by decide +kernel
theorem dL_law_1109 : decode cL_law 1109 = .ok (.if_icmp .eq 603, 3) := by decide +kernel
theorem dL_law_1112 : decode cL_law 1112 = .ok (.iconst 0, 1) := by decide +kernel
theorem dL_law_1113 : decode cL_law 1113 = .ok (.ireturn, 1) := by decide +kernel
theorem dL_law_1114 : decode cL_law 1114 = .ok (.aload_n 1, 1) := by decide +kernel
theorem dL_law_1115 : decode cL_law 1115 = .ok (.aload_n 0, 1) := by decide +kernel
theorem dL_law_1116 : decode cL_law 1116 = .ok (.iload 5, 2) := by decide +kernel
theorem dL_law_1118 : decode cL_law 1118 = .ok (.iconst 1, 1) := by decide +kernel
theorem dL_law_1119 : decode cL_law 1119 = .ok (.iadd, 1) := by decide +kernel
theorem dL_law_1120 : decode cL_law 1120 = .ok (.iaload, 1) := by decide +kernel
theorem dL_law_1121 : decode cL_law 1121 = .ok (.aload_n 3, 1) := by decide +kernel
theorem dL_law_1122 : decode cL_law 1122 = .ok (.invokestatic 164, 3) := by decide +kernel
theorem dL_law_1125 : decode cL_law 1125 = .ok (.istore 6, 2) := by decide +kernel
theorem dL_law_1127 : decode cL_law 1127 = .ok (.aload_n 2, 1) := by decide +kernel
theorem dL_law_1128 : decode cL_law 1128 = .ok (.aload_n 0, 1) := by decide +kernel
theorem dL_law_1129 : decode cL_law 1129 = .ok (.iload 5, 2) := by decide +kernel
theorem dL_law_1131 : decode cL_law 1131 = .ok (.iconst 1, 1) := by decide +kernel
theorem dL_law_1132 : decode cL_law 1132 = .ok (.iadd, 1) := by decide +kernel
theorem dL_law_1133 : decode cL_law 1133 = .ok (.iaload, 1) := by decide +kernel
theorem dL_law_1134 : decode cL_law 1134 = .ok (.invokevirtual 166, 3) := by decide +kernel
theorem dL_law_1137 : decode cL_law 1137 = .ok (.istore 7, 2) := by decide +kernel
theorem dL_law_1139 : decode cL_law 1139 = .ok (.aload_n 2, 1) := by decide +kernel
theorem dL_law_1140 : decode cL_law 1140 = .ok (.invokevirtual 111, 3) := by decide +kernel
theorem dL_law_1143 : decode cL_law 1143 = .ok (.iload 6, 2) := by decide +kernel
theorem dL_law_1145 : decode cL_law 1145 = .ok (.if_icmp .eq 5, 3) := by decide +kernel
theorem dL_law_1148 : decode cL_law 1148 = .ok (.iconst 0, 1) := by decide +kernel
theorem dL_law_1149 : decode cL_law 1149 = .ok (.ireturn, 1) := by decide +kernel
theorem dL_law_1150 : decode cL_law 1150 = .ok (.iload 6, 2) := by decide +kernel
theorem dL_law_1152 : decode cL_law 1152 = .ok (.ifCond .ne 15, 3) := by decide +kernel
theorem dL_law_1155 : decode cL_law 1155 = .ok (.aload_n 3, 1) := by decide +kernel
theorem dL_law_1156 : decode cL_law 1156 = .ok (.iconst 0, 1) := by decide +kernel
theorem dL_law_1157 : decode cL_law 1157 = .ok (.laload, 1) := by decide +kernel
theorem dL_law_1158 : decode cL_law 1158 = .ok (.iload 7, 2) := by decide +kernel
theorem dL_law_1160 : decode cL_law 1160 = .ok (.i2l, 1) := by decide +kernel
theorem dL_law_1161 : decode cL_law 1161 = .ok (.lcmp, 1) := by decide +kernel
theorem dL_law_1162 : decode cL_law 1162 = .ok (.ifCond .eq 5, 3) := by decide +kernel
theorem dL_law_1165 : decode cL_law 1165 = .ok (.iconst 0, 1) := by decide +kernel
theorem dL_law_1166 : decode cL_law 1166 = .ok (.ireturn, 1) := by decide +kernel
theorem dL_law_1167 : decode cL_law 1167 = .ok (.goto 545, 3) := by decide +kernel
theorem dL_law_1170 : decode cL_law 1170 = .ok (.aload_n 1, 1) := by decide +kernel
theorem dL_law_1171 : decode cL_law 1171 = .ok (.aload_n 0, 1) := by decide +kernel
theorem dL_law_1172 : decode cL_law 1172 = .ok (.iload 5, 2) := by decide +kernel
theorem dL_law_1174 : decode cL_law 1174 = .ok (.iconst 1, 1) := by decide +kernel
theorem dL_law_1175 : decode cL_law 1175 = .ok (.iadd, 1) := by decide +kernel
theorem dL_law_1176 : decode cL_law 1176 = .ok (.iaload, 1) := by decide +kernel
theorem dL_law_1177 : decode cL_law 1177 = .ok (.aload_n 0, 1) := by decide +kernel
theorem dL_law_1178 : decode cL_law 1178 = .ok (.iload 5, 2) := by decide +kernel
theorem dL_law_1180 : decode cL_law 1180 = .ok (.iconst 2, 1) := by decide +kernel
theorem dL_law_1181 : decode cL_law 1181 = .ok (.iadd, 1) := by decide +kernel
theorem dL_law_1182 : decode cL_law 1182 = .ok (.iaload, 1) := by decide +kernel
theorem dL_law_1183 : decode cL_law 1183 = .ok (.aload_n 3, 1) := by decide +kernel
theorem dL_law_1184 : decode cL_law 1184 = .ok (.invokestatic 167, 3) := by decide +kernel
theorem dL_law_1187 : decode cL_law 1187 = .ok (.istore 6, 2) := by decide +kernel
theorem dL_law_1189 : decode cL_law 1189 = .ok (.aload_n 2, 1) := by decide +kernel
theorem dL_law_1190 : decode cL_law 1190 = .ok (.aload_n 0, 1) := by decide +kernel
theorem dL_law_1191 : decode cL_law 1191 = .ok (.iload 5, 2) := by decide +kernel
theorem dL_law_1193 : decode cL_law 1193 = .ok (.iconst 1, 1) := by decide +kernel
theorem dL_law_1194 : decode cL_law 1194 = .ok (.iadd, 1) := by decide +kernel
theorem dL_law_1195 : decode cL_law 1195 = .ok (.iaload, 1) := by decide +kernel
theorem dL_law_1196 : decode cL_law 1196 = .ok (.aload_n 0, 1) := by decide +kernel
theorem dL_law_1197 : decode cL_law 1197 = .ok (.iload 5, 2) := by decide +kernel
theorem dL_law_1199 : decode cL_law 1199 = .ok (.iconst 2, 1) := by decide +kernel
theorem dL_law_1200 : decode cL_law 1200 = .ok (.iadd, 1) := by decide +kernel
theorem dL_law_1201 : decode cL_law 1201 = .ok (.iaload, 1) := by decide +kernel
theorem dL_law_1202 : decode cL_law 1202 = .ok (.invokevirtual 169, 3) := by decide +kernel
theorem dL_law_1205 : decode cL_law 1205 = .ok (.istore 7, 2) := by decide +kernel
theorem dL_law_1207 : decode cL_law 1207 = .ok (.aload_n 2, 1) := by decide +kernel
theorem dL_law_1208 : decode cL_law 1208 = .ok (.invokevirtual 111, 3) := by decide +kernel
theorem dL_law_1211 : decode cL_law 1211 = .ok (.iload 6, 2) := by decide +kernel
theorem dL_law_1213 : decode cL_law 1213 = .ok (.if_icmp .eq 5, 3) := by decide +kernel
theorem dL_law_1216 : decode cL_law 1216 = .ok (.iconst 0, 1) := by decide +kernel
theorem dL_law_1217 : decode cL_law 1217 = .ok (.ireturn, 1) := by decide +kernel
theorem dL_law_1218 : decode cL_law 1218 = .ok (.iload 6, 2) := by decide +kernel
theorem dL_law_1220 : decode cL_law 1220 = .ok (.ifCond .ne 15, 3) := by decide +kernel
theorem dL_law_1223 : decode cL_law 1223 = .ok (.aload_n 3, 1) := by decide +kernel
theorem dL_law_1224 : decode cL_law 1224 = .ok (.iconst 0, 1) := by decide +kernel
theorem dL_law_1225 : decode cL_law 1225 = .ok (.laload, 1) := by decide +kernel
theorem dL_law_1226 : decode cL_law 1226 = .ok (.iload 7, 2) := by decide +kernel
theorem dL_law_1228 : decode cL_law 1228 = .ok (.i2l, 1) := by decide +kernel
theorem dL_law_1229 : decode cL_law 1229 = .ok (.lcmp, 1) := by decide +kernel
theorem dL_law_1230 : decode cL_law 1230 = .ok (.ifCond .eq 5, 3) := by decide +kernel
theorem dL_law_1233 : decode cL_law 1233 = .ok (.iconst 0, 1) := by decide +kernel
theorem dL_law_1234 : decode cL_law 1234 = .ok (.ireturn, 1) := by decide +kernel
theorem dL_law_1235 : decode cL_law 1235 = .ok (.goto 477, 3) := by decide +kernel
theorem dL_law_1238 : decode cL_law 1238 = .ok (.aload_n 1, 1) := by decide +kernel
theorem dL_law_1239 : decode cL_law 1239 = .ok (.aload_n 0, 1) := by decide +kernel
theorem dL_law_1240 : decode cL_law 1240 = .ok (.iload 5, 2) := by decide +kernel
theorem dL_law_1242 : decode cL_law 1242 = .ok (.iconst 1, 1) := by decide +kernel
theorem dL_law_1243 : decode cL_law 1243 = .ok (.iadd, 1) := by decide +kernel
theorem dL_law_1244 : decode cL_law 1244 = .ok (.iaload, 1) := by decide +kernel
theorem dL_law_1245 : decode cL_law 1245 = .ok (.aload_n 0, 1) := by decide +kernel
theorem dL_law_1246 : decode cL_law 1246 = .ok (.iload 5, 2) := by decide +kernel
theorem dL_law_1248 : decode cL_law 1248 = .ok (.iconst 2, 1) := by decide +kernel
theorem dL_law_1249 : decode cL_law 1249 = .ok (.iadd, 1) := by decide +kernel
theorem dL_law_1250 : decode cL_law 1250 = .ok (.iaload, 1) := by decide +kernel
theorem dL_law_1251 : decode cL_law 1251 = .ok (.aload_n 3, 1) := by decide +kernel
theorem dL_law_1252 : decode cL_law 1252 = .ok (.invokestatic 170, 3) := by decide +kernel
theorem dL_law_1255 : decode cL_law 1255 = .ok (.istore 6, 2) := by decide +kernel
theorem dL_law_1257 : decode cL_law 1257 = .ok (.aload_n 2, 1) := by decide +kernel
theorem dL_law_1258 : decode cL_law 1258 = .ok (.aload_n 0, 1) := by decide +kernel
theorem dL_law_1259 : decode cL_law 1259 = .ok (.iload 5, 2) := by decide +kernel
theorem dL_law_1261 : decode cL_law 1261 = .ok (.iconst 1, 1) := by decide +kernel
theorem dL_law_1262 : decode cL_law 1262 = .ok (.iadd, 1) := by decide +kernel
theorem dL_law_1263 : decode cL_law 1263 = .ok (.iaload, 1) := by decide +kernel
theorem dL_law_1264 : decode cL_law 1264 = .ok (.aload_n 0, 1) := by decide +kernel
theorem dL_law_1265 : decode cL_law 1265 = .ok (.iload 5, 2) := by decide +kernel
theorem dL_law_1267 : decode cL_law 1267 = .ok (.iconst 2, 1) := by decide +kernel
theorem dL_law_1268 : decode cL_law 1268 = .ok (.iadd, 1) := by decide +kernel
theorem dL_law_1269 : decode cL_law 1269 = .ok (.iaload, 1) := by decide +kernel
theorem dL_law_1270 : decode cL_law 1270 = .ok (.invokevirtual 172, 3) := by decide +kernel
theorem dL_law_1273 : decode cL_law 1273 = .ok (.istore 7, 2) := by decide +kernel
theorem dL_law_1275 : decode cL_law 1275 = .ok (.aload_n 2, 1) := by decide +kernel
theorem dL_law_1276 : decode cL_law 1276 = .ok (.invokevirtual 111, 3) := by decide +kernel
theorem dL_law_1279 : decode cL_law 1279 = .ok (.iload 6, 2) := by decide +kernel
theorem dL_law_1281 : decode cL_law 1281 = .ok (.if_icmp .eq 5, 3) := by decide +kernel
theorem dL_law_1284 : decode cL_law 1284 = .ok (.iconst 0, 1) := by decide +kernel
theorem dL_law_1285 : decode cL_law 1285 = .ok (.ireturn, 1) := by decide +kernel
theorem dL_law_1286 : decode cL_law 1286 = .ok (.iload 6, 2) := by decide +kernel
theorem dL_law_1288 : decode cL_law 1288 = .ok (.ifCond .ne 15, 3) := by decide +kernel
theorem dL_law_1291 : decode cL_law 1291 = .ok (.aload_n 3, 1) := by decide +kernel
theorem dL_law_1292 : decode cL_law 1292 = .ok (.iconst 0, 1) := by decide +kernel
theorem dL_law_1293 : decode cL_law 1293 = .ok (.laload, 1) := by decide +kernel
theorem dL_law_1294 : decode cL_law 1294 = .ok (.iload 7, 2) := by decide +kernel
theorem dL_law_1296 : decode cL_law 1296 = .ok (.i2l, 1) := by decide +kernel
theorem dL_law_1297 : decode cL_law 1297 = .ok (.lcmp, 1) := by decide +kernel
theorem dL_law_1298 : decode cL_law 1298 = .ok (.ifCond .eq 5, 3) := by decide +kernel
theorem dL_law_1301 : decode cL_law 1301 = .ok (.iconst 0, 1) := by decide +kernel
theorem dL_law_1302 : decode cL_law 1302 = .ok (.ireturn, 1) := by decide +kernel
theorem dL_law_1303 : decode cL_law 1303 = .ok (.goto 409, 3) := by decide +kernel
theorem dL_law_1306 : decode cL_law 1306 = .ok (.aload_n 1, 1) := by decide +kernel
theorem dL_law_1307 : decode cL_law 1307 = .ok (.invokevirtual 173, 3) := by decide +kernel
theorem dL_law_1310 : decode cL_law 1310 = .ok (.aload_n 2, 1) := by decide +kernel
theorem dL_law_1311 : decode cL_law 1311 = .ok (.invokevirtual 176, 3) := by decide +kernel
theorem dL_law_1314 : decode cL_law 1314 = .ok (.if_icmp .eq 398, 3) := by decide +kernel
theorem dL_law_1317 : decode cL_law 1317 = .ok (.iconst 0, 1) := by decide +kernel
theorem dL_law_1318 : decode cL_law 1318 = .ok (.ireturn, 1) := by decide +kernel
theorem dL_law_1319 : decode cL_law 1319 = .ok (.aload_n 1, 1) := by decide +kernel
theorem dL_law_1320 : decode cL_law 1320 = .ok (.aload_n 0, 1) := by decide +kernel
theorem dL_law_1321 : decode cL_law 1321 = .ok (.iload 5, 2) := by decide +kernel
theorem dL_law_1323 : decode cL_law 1323 = .ok (.iconst 1, 1) := by decide +kernel
theorem dL_law_1324 : decode cL_law 1324 = .ok (.iadd, 1) := by decide +kernel
theorem dL_law_1325 : decode cL_law 1325 = .ok (.iaload, 1) := by decide +kernel
theorem dL_law_1326 : decode cL_law 1326 = .ok (.aload_n 3, 1) := by decide +kernel
theorem dL_law_1327 : decode cL_law 1327 = .ok (.invokestatic 177, 3) := by decide +kernel
theorem dL_law_1330 : decode cL_law 1330 = .ok (.istore 6, 2) := by decide +kernel
theorem dL_law_1332 : decode cL_law 1332 = .ok (.aload_n 2, 1) := by decide +kernel
theorem dL_law_1333 : decode cL_law 1333 = .ok (.aload_n 0, 1) := by decide +kernel
theorem dL_law_1334 : decode cL_law 1334 = .ok (.iload 5, 2) := by decide +kernel
theorem dL_law_1336 : decode cL_law 1336 = .ok (.iconst 1, 1) := by decide +kernel
theorem dL_law_1337 : decode cL_law 1337 = .ok (.iadd, 1) := by decide +kernel
theorem dL_law_1338 : decode cL_law 1338 = .ok (.iaload, 1) := by decide +kernel
theorem dL_law_1339 : decode cL_law 1339 = .ok (.invokevirtual 179, 3) := by decide +kernel
theorem dL_law_1342 : decode cL_law 1342 = .ok (.istore 7, 2) := by decide +kernel
theorem dL_law_1344 : decode cL_law 1344 = .ok (.aload_n 2, 1) := by decide +kernel
theorem dL_law_1345 : decode cL_law 1345 = .ok (.invokevirtual 111, 3) := by decide +kernel
theorem dL_law_1348 : decode cL_law 1348 = .ok (.iload 6, 2) := by decide +kernel
theorem dL_law_1350 : decode cL_law 1350 = .ok (.if_icmp .eq 5, 3) := by decide +kernel
theorem dL_law_1353 : decode cL_law 1353 = .ok (.iconst 0, 1) := by decide +kernel
theorem dL_law_1354 : decode cL_law 1354 = .ok (.ireturn, 1) := by decide +kernel
theorem dL_law_1355 : decode cL_law 1355 = .ok (.iload 6, 2) := by decide +kernel
theorem dL_law_1357 : decode cL_law 1357 = .ok (.ifCond .ne 15, 3) := by decide +kernel
theorem dL_law_1360 : decode cL_law 1360 = .ok (.aload_n 3, 1) := by decide +kernel
theorem dL_law_1361 : decode cL_law 1361 = .ok (.iconst 0, 1) := by decide +kernel
theorem dL_law_1362 : decode cL_law 1362 = .ok (.laload, 1) := by decide +kernel
theorem dL_law_1363 : decode cL_law 1363 = .ok (.iload 7, 2) := by decide +kernel
theorem dL_law_1365 : decode cL_law 1365 = .ok (.i2l, 1) := by decide +kernel
theorem dL_law_1366 : decode cL_law 1366 = .ok (.lcmp, 1) := by decide +kernel
theorem dL_law_1367 : decode cL_law 1367 = .ok (.ifCond .eq 5, 3) := by decide +kernel
theorem dL_law_1370 : decode cL_law 1370 = .ok (.iconst 0, 1) := by decide +kernel
theorem dL_law_1371 : decode cL_law 1371 = .ok (.ireturn, 1) := by decide +kernel
theorem dL_law_1372 : decode cL_law 1372 = .ok (.goto 340, 3) := by decide +kernel
theorem dL_law_1375 : decode cL_law 1375 = .ok (.aload_n 1, 1) := by decide +kernel
theorem dL_law_1376 : decode cL_law 1376 = .ok (.aload_n 0, 1) := by decide +kernel
theorem dL_law_1377 : decode cL_law 1377 = .ok (.iload 5, 2) := by decide +kernel
theorem dL_law_1379 : decode cL_law 1379 = .ok (.iconst 1, 1) := by decide +kernel
theorem dL_law_1380 : decode cL_law 1380 = .ok (.iadd, 1) := by decide +kernel
theorem dL_law_1381 : decode cL_law 1381 = .ok (.iaload, 1) := by decide +kernel
theorem dL_law_1382 : decode cL_law 1382 = .ok (.aload_n 0, 1) := by decide +kernel
theorem dL_law_1383 : decode cL_law 1383 = .ok (.iload 5, 2) := by decide +kernel
theorem dL_law_1385 : decode cL_law 1385 = .ok (.iconst 2, 1) := by decide +kernel
theorem dL_law_1386 : decode cL_law 1386 = .ok (.iadd, 1) := by decide +kernel
theorem dL_law_1387 : decode cL_law 1387 = .ok (.iaload, 1) := by decide +kernel
theorem dL_law_1388 : decode cL_law 1388 = .ok (.aload_n 3, 1) := by decide +kernel
theorem dL_law_1389 : decode cL_law 1389 = .ok (.invokestatic 180, 3) := by decide +kernel
theorem dL_law_1392 : decode cL_law 1392 = .ok (.istore 6, 2) := by decide +kernel
theorem dL_law_1394 : decode cL_law 1394 = .ok (.aload_n 2, 1) := by decide +kernel
theorem dL_law_1395 : decode cL_law 1395 = .ok (.aload_n 0, 1) := by decide +kernel
theorem dL_law_1396 : decode cL_law 1396 = .ok (.iload 5, 2) := by decide +kernel
theorem dL_law_1398 : decode cL_law 1398 = .ok (.iconst 1, 1) := by decide +kernel
theorem dL_law_1399 : decode cL_law 1399 = .ok (.iadd, 1) := by decide +kernel
theorem dL_law_1400 : decode cL_law 1400 = .ok (.iaload, 1) := by decide +kernel
theorem dL_law_1401 : decode cL_law 1401 = .ok (.aload_n 0, 1) := by decide +kernel
theorem dL_law_1402 : decode cL_law 1402 = .ok (.iload 5, 2) := by decide +kernel
theorem dL_law_1404 : decode cL_law 1404 = .ok (.iconst 2, 1) := by decide +kernel
theorem dL_law_1405 : decode cL_law 1405 = .ok (.iadd, 1) := by decide +kernel
theorem dL_law_1406 : decode cL_law 1406 = .ok (.iaload, 1) := by decide +kernel
theorem dL_law_1407 : decode cL_law 1407 = .ok (.invokevirtual 182, 3) := by decide +kernel
theorem dL_law_1410 : decode cL_law 1410 = .ok (.istore 7, 2) := by decide +kernel
theorem dL_law_1412 : decode cL_law 1412 = .ok (.aload_n 2, 1) := by decide +kernel
theorem dL_law_1413 : decode cL_law 1413 = .ok (.invokevirtual 111, 3) := by decide +kernel
theorem dL_law_1416 : decode cL_law 1416 = .ok (.iload 6, 2) := by decide +kernel
theorem dL_law_1418 : decode cL_law 1418 = .ok (.if_icmp .eq 5, 3) := by decide +kernel
theorem dL_law_1421 : decode cL_law 1421 = .ok (.iconst 0, 1) := by decide +kernel
theorem dL_law_1422 : decode cL_law 1422 = .ok (.ireturn, 1) := by decide +kernel
theorem dL_law_1423 : decode cL_law 1423 = .ok (.iload 6, 2) := by decide +kernel
theorem dL_law_1425 : decode cL_law 1425 = .ok (.ifCond .ne 15, 3) := by decide +kernel
theorem dL_law_1428 : decode cL_law 1428 = .ok (.aload_n 3, 1) := by decide +kernel
theorem dL_law_1429 : decode cL_law 1429 = .ok (.iconst 0, 1) := by decide +kernel
theorem dL_law_1430 : decode cL_law 1430 = .ok (.laload, 1) := by decide +kernel
theorem dL_law_1431 : decode cL_law 1431 = .ok (.iload 7, 2) := by decide +kernel
theorem dL_law_1433 : decode cL_law 1433 = .ok (.i2l, 1) := by decide +kernel
theorem dL_law_1434 : decode cL_law 1434 = .ok (.lcmp, 1) := by decide +kernel
theorem dL_law_1435 : decode cL_law 1435 = .ok (.ifCond .eq 5, 3) := by decide +kernel
theorem dL_law_1438 : decode cL_law 1438 = .ok (.iconst 0, 1) := by decide +kernel
theorem dL_law_1439 : decode cL_law 1439 = .ok (.ireturn, 1) := by decide +kernel
theorem dL_law_1440 : decode cL_law 1440 = .ok (.goto 272, 3) := by decide +kernel
theorem dL_law_1443 : decode cL_law 1443 = .ok (.aload_n 1, 1) := by decide +kernel
theorem dL_law_1444 : decode cL_law 1444 = .ok (.aload_n 0, 1) := by decide +kernel
theorem dL_law_1445 : decode cL_law 1445 = .ok (.iload 5, 2) := by decide +kernel
theorem dL_law_1447 : decode cL_law 1447 = .ok (.iconst 1, 1) := by decide +kernel
theorem dL_law_1448 : decode cL_law 1448 = .ok (.iadd, 1) := by decide +kernel
theorem dL_law_1449 : decode cL_law 1449 = .ok (.iaload, 1) := by decide +kernel
theorem dL_law_1450 : decode cL_law 1450 = .ok (.aload_n 0, 1) := by decide +kernel
theorem dL_law_1451 : decode cL_law 1451 = .ok (.iload 5, 2) := by decide +kernel
theorem dL_law_1453 : decode cL_law 1453 = .ok (.iconst 2, 1) := by decide +kernel
theorem dL_law_1454 : decode cL_law 1454 = .ok (.iadd, 1) := by decide +kernel
theorem dL_law_1455 : decode cL_law 1455 = .ok (.iaload, 1) := by decide +kernel
theorem dL_law_1456 : decode cL_law 1456 = .ok (.aload_n 3, 1) := by decide +kernel
theorem dL_law_1457 : decode cL_law 1457 = .ok (.invokestatic 183, 3) := by decide +kernel
theorem dL_law_1460 : decode cL_law 1460 = .ok (.istore 6, 2) := by decide +kernel
theorem dL_law_1462 : decode cL_law 1462 = .ok (.aload_n 2, 1) := by decide +kernel
theorem dL_law_1463 : decode cL_law 1463 = .ok (.aload_n 0, 1) := by decide +kernel
theorem dL_law_1464 : decode cL_law 1464 = .ok (.iload 5, 2) := by decide +kernel
theorem dL_law_1466 : decode cL_law 1466 = .ok (.iconst 1, 1) := by decide +kernel
theorem dL_law_1467 : decode cL_law 1467 = .ok (.iadd, 1) := by decide +kernel
theorem dL_law_1468 : decode cL_law 1468 = .ok (.iaload, 1) := by decide +kernel
theorem dL_law_1469 : decode cL_law 1469 = .ok (.aload_n 0, 1) := by decide +kernel
theorem dL_law_1470 : decode cL_law 1470 = .ok (.iload 5, 2) := by decide +kernel
theorem dL_law_1472 : decode cL_law 1472 = .ok (.iconst 2, 1) := by decide +kernel
theorem dL_law_1473 : decode cL_law 1473 = .ok (.iadd, 1) := by decide +kernel
theorem dL_law_1474 : decode cL_law 1474 = .ok (.iaload, 1) := by decide +kernel
theorem dL_law_1475 : decode cL_law 1475 = .ok (.invokevirtual 185, 3) := by decide +kernel
theorem dL_law_1478 : decode cL_law 1478 = .ok (.istore 7, 2) := by decide +kernel
theorem dL_law_1480 : decode cL_law 1480 = .ok (.aload_n 2, 1) := by decide +kernel
theorem dL_law_1481 : decode cL_law 1481 = .ok (.invokevirtual 111, 3) := by decide +kernel
theorem dL_law_1484 : decode cL_law 1484 = .ok (.iload 6, 2) := by decide +kernel
theorem dL_law_1486 : decode cL_law 1486 = .ok (.if_icmp .eq 5, 3) := by decide +kernel
theorem dL_law_1489 : decode cL_law 1489 = .ok (.iconst 0, 1) := by decide +kernel
theorem dL_law_1490 : decode cL_law 1490 = .ok (.ireturn, 1) := by decide +kernel
theorem dL_law_1491 : decode cL_law 1491 = .ok (.iload 6, 2) := by decide +kernel
theorem dL_law_1493 : decode cL_law 1493 = .ok (.ifCond .ne 15, 3) := by decide +kernel
theorem dL_law_1496 : decode cL_law 1496 = .ok (.aload_n 3, 1) := by decide +kernel
theorem dL_law_1497 : decode cL_law 1497 = .ok (.iconst 0, 1) := by decide +kernel
theorem dL_law_1498 : decode cL_law 1498 = .ok (.laload, 1) := by decide +kernel
theorem dL_law_1499 : decode cL_law 1499 = .ok (.iload 7, 2) := by decide +kernel
theorem dL_law_1501 : decode cL_law 1501 = .ok (.i2l, 1) := by decide +kernel
theorem dL_law_1502 : decode cL_law 1502 = .ok (.lcmp, 1) := by decide +kernel
theorem dL_law_1503 : decode cL_law 1503 = .ok (.ifCond .eq 5, 3) := by decide +kernel
theorem dL_law_1506 : decode cL_law 1506 = .ok (.iconst 0, 1) := by decide +kernel
theorem dL_law_1507 : decode cL_law 1507 = .ok (.ireturn, 1) := by decide +kernel
theorem dL_law_1508 : decode cL_law 1508 = .ok (.goto 204, 3) := by decide +kernel
theorem dL_law_1511 : decode cL_law 1511 = .ok (.aload_n 1, 1) := by decide +kernel
theorem dL_law_1512 : decode cL_law 1512 = .ok (.aload_n 0, 1) := by decide +kernel
theorem dL_law_1513 : decode cL_law 1513 = .ok (.iload 5, 2) := by decide +kernel
theorem dL_law_1515 : decode cL_law 1515 = .ok (.iconst 1, 1) := by decide +kernel
theorem dL_law_1516 : decode cL_law 1516 = .ok (.iadd, 1) := by decide +kernel
theorem dL_law_1517 : decode cL_law 1517 = .ok (.iaload, 1) := by decide +kernel
theorem dL_law_1518 : decode cL_law 1518 = .ok (.aload_n 3, 1) := by decide +kernel
theorem dL_law_1519 : decode cL_law 1519 = .ok (.invokestatic 186, 3) := by decide +kernel
theorem dL_law_1522 : decode cL_law 1522 = .ok (.istore 6, 2) := by decide +kernel
theorem dL_law_1524 : decode cL_law 1524 = .ok (.aload_n 2, 1) := by decide +kernel
theorem dL_law_1525 : decode cL_law 1525 = .ok (.aload_n 0, 1) := by decide +kernel
theorem dL_law_1526 : decode cL_law 1526 = .ok (.iload 5, 2) := by decide +kernel
theorem dL_law_1528 : decode cL_law 1528 = .ok (.iconst 1, 1) := by decide +kernel
theorem dL_law_1529 : decode cL_law 1529 = .ok (.iadd, 1) := by decide +kernel
theorem dL_law_1530 : decode cL_law 1530 = .ok (.iaload, 1) := by decide +kernel
theorem dL_law_1531 : decode cL_law 1531 = .ok (.invokevirtual 188, 3) := by decide +kernel
theorem dL_law_1534 : decode cL_law 1534 = .ok (.istore 7, 2) := by decide +kernel
theorem dL_law_1536 : decode cL_law 1536 = .ok (.aload_n 2, 1) := by decide +kernel
theorem dL_law_1537 : decode cL_law 1537 = .ok (.invokevirtual 111, 3) := by decide +kernel
theorem dL_law_1540 : decode cL_law 1540 = .ok (.iload 6, 2) := by decide +kernel
theorem dL_law_1542 : decode cL_law 1542 = .ok (.if_icmp .eq 5, 3) := by decide +kernel
theorem dL_law_1545 : decode cL_law 1545 = .ok (.iconst 0, 1) := by decide +kernel
theorem dL_law_1546 : decode cL_law 1546 = .ok (.ireturn, 1) := by decide +kernel
theorem dL_law_1547 : decode cL_law 1547 = .ok (.iload 6, 2) := by decide +kernel
theorem dL_law_1549 : decode cL_law 1549 = .ok (.ifCond .ne 15, 3) := by decide +kernel
theorem dL_law_1552 : decode cL_law 1552 = .ok (.aload_n 3, 1) := by decide +kernel
theorem dL_law_1553 : decode cL_law 1553 = .ok (.iconst 0, 1) := by decide +kernel
theorem dL_law_1554 : decode cL_law 1554 = .ok (.laload, 1) := by decide +kernel
theorem dL_law_1555 : decode cL_law 1555 = .ok (.iload 7, 2) := by decide +kernel
theorem dL_law_1557 : decode cL_law 1557 = .ok (.i2l, 1) := by decide +kernel
theorem dL_law_1558 : decode cL_law 1558 = .ok (.lcmp, 1) := by decide +kernel
theorem dL_law_1559 : decode cL_law 1559 = .ok (.ifCond .eq 5, 3) := by decide +kernel
theorem dL_law_1562 : decode cL_law 1562 = .ok (.iconst 0, 1) := by decide +kernel
theorem dL_law_1563 : decode cL_law 1563 = .ok (.ireturn, 1) := by decide +kernel
theorem dL_law_1564 : decode cL_law 1564 = .ok (.goto 148, 3) := by decide +kernel
theorem dL_law_1567 : decode cL_law 1567 = .ok (.aload_n 1, 1) := by decide +kernel
theorem dL_law_1568 : decode cL_law 1568 = .ok (.invokevirtual 189, 3) := by decide +kernel
theorem dL_law_1571 : decode cL_law 1571 = .ok (.aload_n 2, 1) := by decide +kernel
theorem dL_law_1572 : decode cL_law 1572 = .ok (.invokevirtual 193, 3) := by decide +kernel
theorem dL_law_1575 : decode cL_law 1575 = .ok (.lcmp, 1) := by decide +kernel
theorem dL_law_1576 : decode cL_law 1576 = .ok (.ifCond .eq 136, 3) := by decide +kernel
theorem dL_law_1579 : decode cL_law 1579 = .ok (.iconst 0, 1) := by decide +kernel
theorem dL_law_1580 : decode cL_law 1580 = .ok (.ireturn, 1) := by decide +kernel
theorem dL_law_1581 : decode cL_law 1581 = .ok (.aload_n 1, 1) := by decide +kernel
theorem dL_law_1582 : decode cL_law 1582 = .ok (.aload 4, 2) := by decide +kernel
theorem dL_law_1584 : decode cL_law 1584 = .ok (.invokestatic 194, 3) := by decide +kernel
theorem dL_law_1587 : decode cL_law 1587 = .ok (.istore 6, 2) := by decide +kernel
theorem dL_law_1589 : decode cL_law 1589 = .ok (.aload_n 2, 1) := by decide +kernel
theorem dL_law_1590 : decode cL_law 1590 = .ok (.invokevirtual 197, 3) := by decide +kernel
theorem dL_law_1593 : decode cL_law 1593 = .ok (.fstore 7, 2) := by decide +kernel
theorem dL_law_1595 : decode cL_law 1595 = .ok (.aload_n 2, 1) := by decide +kernel
theorem dL_law_1596 : decode cL_law 1596 = .ok (.invokevirtual 111, 3) := by decide +kernel
theorem dL_law_1599 : decode cL_law 1599 = .ok (.iload 6, 2) := by decide +kernel
theorem dL_law_1601 : decode cL_law 1601 = .ok (.if_icmp .eq 5, 3) := by decide +kernel
theorem dL_law_1604 : decode cL_law 1604 = .ok (.iconst 0, 1) := by decide +kernel
theorem dL_law_1605 : decode cL_law 1605 = .ok (.ireturn, 1) := by decide +kernel
theorem dL_law_1606 : decode cL_law 1606 = .ok (.iload 6, 2) := by decide +kernel
theorem dL_law_1608 : decode cL_law 1608 = .ok (.ifCond .ne 36, 3) := by decide +kernel
theorem dL_law_1611 : decode cL_law 1611 = .ok (.aload 4, 2) := by decide +kernel
theorem dL_law_1613 : decode cL_law 1613 = .ok (.iconst 0, 1) := by decide +kernel
theorem dL_law_1614 : decode cL_law 1614 = .ok (.daload, 1) := by decide +kernel
theorem dL_law_1615 : decode cL_law 1615 = .ok (.fload 7, 2) := by decide +kernel
theorem dL_law_1617 : decode cL_law 1617 = .ok (.f2d, 1) := by decide +kernel
theorem dL_law_1618 : decode cL_law 1618 = .ok (.dcmp .l, 1) := by decide +kernel
theorem dL_law_1619 : decode cL_law 1619 = .ok (.ifCond .eq 25, 3) := by decide +kernel
theorem dL_law_1622 : decode cL_law 1622 = .ok (.aload 4, 2) := by decide +kernel
theorem dL_law_1624 : decode cL_law 1624 = .ok (.iconst 0, 1) := by decide +kernel
theorem dL_law_1625 : decode cL_law 1625 = .ok (.daload, 1) := by decide +kernel
theorem dL_law_1626 : decode cL_law 1626 = .ok (.aload 4, 2) := by decide +kernel
theorem dL_law_1628 : decode cL_law 1628 = .ok (.iconst 0, 1) := by decide +kernel
theorem dL_law_1629 : decode cL_law 1629 = .ok (.daload, 1) := by decide +kernel
theorem dL_law_1630 : decode cL_law 1630 = .ok (.dcmp .l, 1) := by decide +kernel
theorem dL_law_1631 : decode cL_law 1631 = .ok (.ifCond .eq 11, 3) := by decide +kernel
theorem dL_law_1634 : decode cL_law 1634 = .ok (.fload 7, 2) := by decide +kernel
theorem dL_law_1636 : decode cL_law 1636 = .ok (.fload 7, 2) := by decide +kernel
theorem dL_law_1638 : decode cL_law 1638 = .ok (.fcmp .l, 1) := by decide +kernel
theorem dL_law_1639 : decode cL_law 1639 = .ok (.ifCond .ne 5, 3) := by decide +kernel
theorem dL_law_1642 : decode cL_law 1642 = .ok (.iconst 0, 1) := by decide +kernel
theorem dL_law_1643 : decode cL_law 1643 = .ok (.ireturn, 1) := by decide +kernel
theorem dL_law_1644 : decode cL_law 1644 = .ok (.goto 68, 3) := by decide +kernel
theorem dL_law_1647 : decode cL_law 1647 = .ok (.aload_n 1, 1) := by decide +kernel
theorem dL_law_1648 : decode cL_law 1648 = .ok (.aload 4, 2) := by decide +kernel
theorem dL_law_1650 : decode cL_law 1650 = .ok (.invokestatic 198, 3) := by decide +kernel
theorem dL_law_1653 : decode cL_law 1653 = .ok (.istore 6, 2) := by decide +kernel
theorem dL_law_1655 : decode cL_law 1655 = .ok (.aload_n 2, 1) := by decide +kernel
theorem dL_law_1656 : decode cL_law 1656 = .ok (.invokevirtual 200, 3) := by decide +kernel
theorem dL_law_1659 : decode cL_law 1659 = .ok (.dstore 7, 2) := by decide +kernel
theorem dL_law_1661 : decode cL_law 1661 = .ok (.aload_n 2, 1) := by decide +kernel
theorem dL_law_1662 : decode cL_law 1662 = .ok (.invokevirtual 111, 3) := by decide +kernel
theorem dL_law_1665 : decode cL_law 1665 = .ok (.iload 6, 2) := by decide +kernel
theorem dL_law_1667 : decode cL_law 1667 = .ok (.if_icmp .eq 5, 3) := by decide +kernel
theorem dL_law_1670 : decode cL_law 1670 = .ok (.iconst 0, 1) := by decide +kernel
theorem dL_law_1671 : decode cL_law 1671 = .ok (.ireturn, 1) := by decide +kernel
theorem dL_law_1672 : decode cL_law 1672 = .ok (.iload 6, 2) := by decide +kernel
theorem dL_law_1674 : decode cL_law 1674 = .ok (.ifCond .ne 35, 3) := by decide +kernel
theorem dL_law_1677 : decode cL_law 1677 = .ok (.aload 4, 2) := by decide +kernel
theorem dL_law_1679 : decode cL_law 1679 = .ok (.iconst 0, 1) := by decide +kernel
theorem dL_law_1680 : decode cL_law 1680 = .ok (.daload, 1) := by decide +kernel
theorem dL_law_1681 : decode cL_law 1681 = .ok (.dload 7, 2) := by decide +kernel
theorem dL_law_1683 : decode cL_law 1683 = .ok (.dcmp .l, 1) := by decide +kernel
theorem dL_law_1684 : decode cL_law 1684 = .ok (.ifCond .eq 25, 3) := by decide +kernel
theorem dL_law_1687 : decode cL_law 1687 = .ok (.aload 4, 2) := by decide +kernel
theorem dL_law_1689 : decode cL_law 1689 = .ok (.iconst 0, 1) := by decide +kernel
theorem dL_law_1690 : decode cL_law 1690 = .ok (.daload, 1) := by decide +kernel
theorem dL_law_1691 : decode cL_law 1691 = .ok (.aload 4, 2) := by decide +kernel
theorem dL_law_1693 : decode cL_law 1693 = .ok (.iconst 0, 1) := by decide +kernel
theorem dL_law_1694 : decode cL_law 1694 = .ok (.daload, 1) := by decide +kernel
theorem dL_law_1695 : decode cL_law 1695 = .ok (.dcmp .l, 1) := by decide +kernel
theorem dL_law_1696 : decode cL_law 1696 = .ok (.ifCond .eq 11, 3) := by decide +kernel
theorem dL_law_1699 : decode cL_law 1699 = .ok (.dload 7, 2) := by decide +kernel
theorem dL_law_1701 : decode cL_law 1701 = .ok (.dload 7, 2) := by decide +kernel
theorem dL_law_1703 : decode cL_law 1703 = .ok (.dcmp .l, 1) := by decide +kernel
theorem dL_law_1704 : decode cL_law 1704 = .ok (.ifCond .ne 5, 3) := by decide +kernel
theorem dL_law_1707 : decode cL_law 1707 = .ok (.iconst 0, 1) := by decide +kernel
theorem dL_law_1708 : decode cL_law 1708 = .ok (.ireturn, 1) := by decide +kernel
theorem dL_law_1709 : decode cL_law 1709 = .ok (.goto 3, 3) := by decide +kernel
theorem dL_law_1712 : decode cL_law 1712 = .ok (.iinc 5 4, 3) := by decide +kernel
theorem dL_law_1715 : decode cL_law 1715 = .ok (.goto (-1687), 3) := by decide +kernel
theorem dL_law_1718 : decode cL_law 1718 = .ok (.iconst 1, 1) := by decide +kernel
theorem dL_law_1719 : decode cL_law 1719 = .ok (.ireturn, 1) := by decide +kernel
