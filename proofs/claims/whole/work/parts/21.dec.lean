/-! the instructions, read off the bytes (1) -/
theorem d_Answer_init_0 : decode m_Answer_init.2.1 0 = .ok (.aload_n 0, 1) := by decide +kernel
theorem d_Answer_init_1 : decode m_Answer_init.2.1 1 = .ok (.invokespecial 3, 3) := by decide +kernel
theorem d_Answer_init_4 : decode m_Answer_init.2.1 4 = .ok (.aload_n 0, 1) := by decide +kernel
theorem d_Answer_init_5 : decode m_Answer_init.2.1 5 = .ok (.new 9, 3) := by decide +kernel
theorem d_Answer_init_8 : decode m_Answer_init.2.1 8 = .ok (.dup, 1) := by decide +kernel
theorem d_Answer_init_9 : decode m_Answer_init.2.1 9 = .ok (.bipush 60, 2) := by decide +kernel
theorem d_Answer_init_11 : decode m_Answer_init.2.1 11 = .ok (.invokespecial 11, 3) := by decide +kernel
theorem d_Answer_init_14 : decode m_Answer_init.2.1 14 = .ok (.putfield 14, 3) := by decide +kernel
theorem d_Answer_init_17 : decode m_Answer_init.2.1 17 = .ok (.aload_n 0, 1) := by decide +kernel
theorem d_Answer_init_18 : decode m_Answer_init.2.1 18 = .ok (.aload_n 1, 1) := by decide +kernel
theorem d_Answer_init_19 : decode m_Answer_init.2.1 19 = .ok (.putfield 20, 3) := by decide +kernel
theorem d_Answer_init_22 : decode m_Answer_init.2.1 22 = .ok (.aload_n 0, 1) := by decide +kernel
theorem d_Answer_init_23 : decode m_Answer_init.2.1 23 = .ok (.aload_n 2, 1) := by decide +kernel
theorem d_Answer_init_24 : decode m_Answer_init.2.1 24 = .ok (.putfield 24, 3) := by decide +kernel
theorem d_Answer_init_27 : decode m_Answer_init.2.1 27 = .ok (.return_, 1) := by decide +kernel
theorem d_Answer_trace_0 : decode m_Answer_trace.2.1 0 = .ok (.aload_n 0, 1) := by decide +kernel
theorem d_Answer_trace_1 : decode m_Answer_trace.2.1 1 = .ok (.iconst 0, 1) := by decide +kernel
theorem d_Answer_trace_2 : decode m_Answer_trace.2.1 2 = .ok (.putfield 28, 3) := by decide +kernel
theorem d_Answer_trace_5 : decode m_Answer_trace.2.1 5 = .ok (.aload_n 0, 1) := by decide +kernel
theorem d_Answer_trace_6 : decode m_Answer_trace.2.1 6 = .ok (.getfield 20, 3) := by decide +kernel
theorem d_Answer_trace_9 : decode m_Answer_trace.2.1 9 = .ok (.aload_n 0, 1) := by decide +kernel
theorem d_Answer_trace_10 : decode m_Answer_trace.2.1 10 = .ok (.getfield 20, 3) := by decide +kernel
theorem d_Answer_trace_13 : decode m_Answer_trace.2.1 13 = .ok (.getfield 32, 3) := by decide +kernel
theorem d_Answer_trace_16 : decode m_Answer_trace.2.1 16 = .ok (.invokevirtual 38, 3) := by decide +kernel
theorem d_Answer_trace_19 : decode m_Answer_trace.2.1 19 = .ok (.astore_n 1, 1) := by decide +kernel
theorem d_Answer_trace_20 : decode m_Answer_trace.2.1 20 = .ok (.aload_n 1, 1) := by decide +kernel
theorem d_Answer_trace_21 : decode m_Answer_trace.2.1 21 = .ok (.ifnonnull 4, 3) := by decide +kernel
theorem d_Answer_trace_24 : decode m_Answer_trace.2.1 24 = .ok (.return_, 1) := by decide +kernel
theorem d_Answer_trace_25 : decode m_Answer_trace.2.1 25 = .ok (.iconst 0, 1) := by decide +kernel
theorem d_Answer_trace_26 : decode m_Answer_trace.2.1 26 = .ok (.istore_n 2, 1) := by decide +kernel
theorem d_Answer_trace_27 : decode m_Answer_trace.2.1 27 = .ok (.iload_n 2, 1) := by decide +kernel
theorem d_Answer_trace_28 : decode m_Answer_trace.2.1 28 = .ok (.iconst 3, 1) := by decide +kernel
theorem d_Answer_trace_29 : decode m_Answer_trace.2.1 29 = .ok (.if_icmp .ge 39, 3) := by decide +kernel
theorem d_Answer_trace_32 : decode m_Answer_trace.2.1 32 = .ok (.aload_n 0, 1) := by decide +kernel
theorem d_Answer_trace_33 : decode m_Answer_trace.2.1 33 = .ok (.getfield 24, 3) := by decide +kernel
theorem d_Answer_trace_36 : decode m_Answer_trace.2.1 36 = .ok (.aload_n 0, 1) := by decide +kernel
theorem d_Answer_trace_37 : decode m_Answer_trace.2.1 37 = .ok (.getfield 24, 3) := by decide +kernel
theorem d_Answer_trace_40 : decode m_Answer_trace.2.1 40 = .ok (.aload_n 1, 1) := by decide +kernel
theorem d_Answer_trace_41 : decode m_Answer_trace.2.1 41 = .ok (.getfield 42, 3) := by decide +kernel
theorem d_Answer_trace_44 : decode m_Answer_trace.2.1 44 = .ok (.iload_n 2, 1) := by decide +kernel
theorem d_Answer_trace_45 : decode m_Answer_trace.2.1 45 = .ok (.invokestatic 47, 3) := by decide +kernel
theorem d_Answer_trace_48 : decode m_Answer_trace.2.1 48 = .ok (.invokevirtual 53, 3) := by decide +kernel
theorem d_Answer_trace_51 : decode m_Answer_trace.2.1 51 = .ok (.aload_n 0, 1) := by decide +kernel
theorem d_Answer_trace_52 : decode m_Answer_trace.2.1 52 = .ok (.getfield 14, 3) := by decide +kernel
theorem d_Answer_trace_55 : decode m_Answer_trace.2.1 55 = .ok (.iload_n 2, 1) := by decide +kernel
theorem d_Answer_trace_56 : decode m_Answer_trace.2.1 56 = .ok (.invokevirtual 59, 3) := by decide +kernel
theorem d_Answer_trace_59 : decode m_Answer_trace.2.1 59 = .ok (.invokevirtual 63, 3) := by decide +kernel
theorem d_Answer_trace_62 : decode m_Answer_trace.2.1 62 = .ok (.iinc 2 1, 3) := by decide +kernel
theorem d_Answer_trace_65 : decode m_Answer_trace.2.1 65 = .ok (.goto (-38), 3) := by decide +kernel
theorem d_Answer_trace_68 : decode m_Answer_trace.2.1 68 = .ok (.iconst 0, 1) := by decide +kernel
theorem d_Answer_trace_69 : decode m_Answer_trace.2.1 69 = .ok (.istore_n 2, 1) := by decide +kernel
theorem d_Answer_trace_70 : decode m_Answer_trace.2.1 70 = .ok (.iload_n 2, 1) := by decide +kernel
theorem d_Answer_trace_71 : decode m_Answer_trace.2.1 71 = .ok (.sipush 150, 3) := by decide +kernel
theorem d_Answer_trace_74 : decode m_Answer_trace.2.1 74 = .ok (.if_icmp .ge 46, 3) := by decide +kernel
theorem d_Answer_trace_77 : decode m_Answer_trace.2.1 77 = .ok (.aload_n 0, 1) := by decide +kernel
theorem d_Answer_trace_78 : decode m_Answer_trace.2.1 78 = .ok (.getfield 20, 3) := by decide +kernel
theorem d_Answer_trace_81 : decode m_Answer_trace.2.1 81 = .ok (.aload_n 1, 1) := by decide +kernel
theorem d_Answer_trace_82 : decode m_Answer_trace.2.1 82 = .ok (.getfield 67, 3) := by decide +kernel
theorem d_Answer_trace_85 : decode m_Answer_trace.2.1 85 = .ok (.invokevirtual 38, 3) := by decide +kernel
theorem d_Answer_trace_88 : decode m_Answer_trace.2.1 88 = .ok (.astore_n 3, 1) := by decide +kernel
theorem d_Answer_trace_89 : decode m_Answer_trace.2.1 89 = .ok (.aload_n 3, 1) := by decide +kernel
theorem d_Answer_trace_90 : decode m_Answer_trace.2.1 90 = .ok (.ifnonnull 9, 3) := by decide +kernel
theorem d_Answer_trace_93 : decode m_Answer_trace.2.1 93 = .ok (.aload_n 0, 1) := by decide +kernel
theorem d_Answer_trace_94 : decode m_Answer_trace.2.1 94 = .ok (.iconst 1, 1) := by decide +kernel
theorem d_Answer_trace_95 : decode m_Answer_trace.2.1 95 = .ok (.putfield 28, 3) := by decide +kernel
theorem d_Answer_trace_98 : decode m_Answer_trace.2.1 98 = .ok (.return_, 1) := by decide +kernel
theorem d_Answer_trace_99 : decode m_Answer_trace.2.1 99 = .ok (.aload_n 0, 1) := by decide +kernel
theorem d_Answer_trace_100 : decode m_Answer_trace.2.1 100 = .ok (.aload_n 3, 1) := by decide +kernel
theorem d_Answer_trace_101 : decode m_Answer_trace.2.1 101 = .ok (.aload_n 1, 1) := by decide +kernel
theorem d_Answer_trace_102 : decode m_Answer_trace.2.1 102 = .ok (.getfield 70, 3) := by decide +kernel
theorem d_Answer_trace_105 : decode m_Answer_trace.2.1 105 = .ok (.invokevirtual 73, 3) := by decide +kernel
theorem d_Answer_trace_108 : decode m_Answer_trace.2.1 108 = .ok (.ifCond .ne 4, 3) := by decide +kernel
theorem d_Answer_trace_111 : decode m_Answer_trace.2.1 111 = .ok (.return_, 1) := by decide +kernel
theorem d_Answer_trace_112 : decode m_Answer_trace.2.1 112 = .ok (.aload_n 3, 1) := by decide +kernel
theorem d_Answer_trace_113 : decode m_Answer_trace.2.1 113 = .ok (.astore_n 1, 1) := by decide +kernel
theorem d_Answer_trace_114 : decode m_Answer_trace.2.1 114 = .ok (.iinc 2 1, 3) := by decide +kernel
theorem d_Answer_trace_117 : decode m_Answer_trace.2.1 117 = .ok (.goto (-47), 3) := by decide +kernel
theorem d_Answer_trace_120 : decode m_Answer_trace.2.1 120 = .ok (.return_, 1) := by decide +kernel
theorem d_Answer_goBack_0 : decode m_Answer_goBack.2.1 0 = .ok (.iload_n 2, 1) := by decide +kernel
theorem d_Answer_goBack_1 : decode m_Answer_goBack.2.1 1 = .ok (.bipush 100, 2) := by decide +kernel
theorem d_Answer_goBack_3 : decode m_Answer_goBack.2.1 3 = .ok (.idiv, 1) := by decide +kernel
theorem d_Answer_goBack_4 : decode m_Answer_goBack.2.1 4 = .ok (.bipush 10, 2) := by decide +kernel
theorem d_Answer_goBack_6 : decode m_Answer_goBack.2.1 6 = .ok (.irem, 1) := by decide +kernel
theorem d_Answer_goBack_7 : decode m_Answer_goBack.2.1 7 = .ok (.istore_n 3, 1) := by decide +kernel
theorem d_Answer_goBack_8 : decode m_Answer_goBack.2.1 8 = .ok (.aload_n 0, 1) := by decide +kernel
theorem d_Answer_goBack_9 : decode m_Answer_goBack.2.1 9 = .ok (.getfield 14, 3) := by decide +kernel
theorem d_Answer_goBack_12 : decode m_Answer_goBack.2.1 12 = .ok (.iload_n 3, 1) := by decide +kernel
theorem d_Answer_goBack_13 : decode m_Answer_goBack.2.1 13 = .ok (.invokevirtual 59, 3) := by decide +kernel
theorem d_Answer_goBack_16 : decode m_Answer_goBack.2.1 16 = .ok (.astore 4, 2) := by decide +kernel
theorem d_Answer_goBack_18 : decode m_Answer_goBack.2.1 18 = .ok (.iload_n 2, 1) := by decide +kernel
theorem d_Answer_goBack_19 : decode m_Answer_goBack.2.1 19 = .ok (.sipush 1000, 3) := by decide +kernel
theorem d_Answer_goBack_22 : decode m_Answer_goBack.2.1 22 = .ok (.if_icmp .ge 10, 3) := by decide +kernel
theorem d_Answer_goBack_25 : decode m_Answer_goBack.2.1 25 = .ok (.aload 4, 2) := by decide +kernel
theorem d_Answer_goBack_27 : decode m_Answer_goBack.2.1 27 = .ok (.invokevirtual 77, 3) := by decide +kernel
theorem d_Answer_goBack_30 : decode m_Answer_goBack.2.1 30 = .ok (.iconst 1, 1) := by decide +kernel
theorem d_Answer_goBack_31 : decode m_Answer_goBack.2.1 31 = .ok (.ireturn, 1) := by decide +kernel
theorem d_Answer_goBack_32 : decode m_Answer_goBack.2.1 32 = .ok (.aload_n 1, 1) := by decide +kernel
theorem d_Answer_goBack_33 : decode m_Answer_goBack.2.1 33 = .ok (.getfield 82, 3) := by decide +kernel
theorem d_Answer_goBack_36 : decode m_Answer_goBack.2.1 36 = .ok (.iconst 0, 1) := by decide +kernel
theorem d_Answer_goBack_37 : decode m_Answer_goBack.2.1 37 = .ok (.invokevirtual 86, 3) := by decide +kernel
theorem d_Answer_goBack_40 : decode m_Answer_goBack.2.1 40 = .ok (.istore 5, 2) := by decide +kernel
theorem d_Answer_goBack_42 : decode m_Answer_goBack.2.1 42 = .ok (.iload 5, 2) := by decide +kernel
theorem d_Answer_goBack_44 : decode m_Answer_goBack.2.1 44 = .ok (.iload_n 3, 1) := by decide +kernel
theorem d_Answer_goBack_45 : decode m_Answer_goBack.2.1 45 = .ok (.iconst 2, 1) := by decide +kernel
theorem d_Answer_goBack_46 : decode m_Answer_goBack.2.1 46 = .ok (.iadd, 1) := by decide +kernel
theorem d_Answer_goBack_47 : decode m_Answer_goBack.2.1 47 = .ok (.if_icmp .ne 14, 3) := by decide +kernel
theorem d_Answer_goBack_50 : decode m_Answer_goBack.2.1 50 = .ok (.aload_n 1, 1) := by decide +kernel
theorem d_Answer_goBack_51 : decode m_Answer_goBack.2.1 51 = .ok (.getfield 88, 3) := by decide +kernel
theorem d_Answer_goBack_54 : decode m_Answer_goBack.2.1 54 = .ok (.iconst 0, 1) := by decide +kernel
theorem d_Answer_goBack_55 : decode m_Answer_goBack.2.1 55 = .ok (.invokevirtual 86, 3) := by decide +kernel
theorem d_Answer_goBack_58 : decode m_Answer_goBack.2.1 58 = .ok (.goto 5, 3) := by decide +kernel
theorem d_Answer_goBack_61 : decode m_Answer_goBack.2.1 61 = .ok (.iload 5, 2) := by decide +kernel
theorem d_Answer_goBack_63 : decode m_Answer_goBack.2.1 63 = .ok (.istore 6, 2) := by decide +kernel
theorem d_Answer_goBack_65 : decode m_Answer_goBack.2.1 65 = .ok (.iload 6, 2) := by decide +kernel
theorem d_Answer_goBack_67 : decode m_Answer_goBack.2.1 67 = .ok (.iconst 2, 1) := by decide +kernel
theorem d_Answer_goBack_68 : decode m_Answer_goBack.2.1 68 = .ok (.isub, 1) := by decide +kernel
theorem d_Answer_goBack_69 : decode m_Answer_goBack.2.1 69 = .ok (.invokestatic 91, 3) := by decide +kernel
theorem d_Answer_goBack_72 : decode m_Answer_goBack.2.1 72 = .ok (.ifCond .eq 20, 3) := by decide +kernel
theorem d_Answer_goBack_75 : decode m_Answer_goBack.2.1 75 = .ok (.aload 4, 2) := by decide +kernel
theorem d_Answer_goBack_77 : decode m_Answer_goBack.2.1 77 = .ok (.aload_n 0, 1) := by decide +kernel
theorem d_Answer_goBack_78 : decode m_Answer_goBack.2.1 78 = .ok (.getfield 14, 3) := by decide +kernel
theorem d_Answer_goBack_81 : decode m_Answer_goBack.2.1 81 = .ok (.iload 6, 2) := by decide +kernel
theorem d_Answer_goBack_83 : decode m_Answer_goBack.2.1 83 = .ok (.iconst 2, 1) := by decide +kernel
theorem d_Answer_goBack_84 : decode m_Answer_goBack.2.1 84 = .ok (.isub, 1) := by decide +kernel
theorem d_Answer_goBack_85 : decode m_Answer_goBack.2.1 85 = .ok (.invokevirtual 59, 3) := by decide +kernel
theorem d_Answer_goBack_88 : decode m_Answer_goBack.2.1 88 = .ok (.invokevirtual 95, 3) := by decide +kernel
theorem d_Answer_goBack_91 : decode m_Answer_goBack.2.1 91 = .ok (.ireturn, 1) := by decide +kernel
theorem d_Answer_goBack_92 : decode m_Answer_goBack.2.1 92 = .ok (.aload 4, 2) := by decide +kernel
theorem d_Answer_goBack_94 : decode m_Answer_goBack.2.1 94 = .ok (.iload 6, 2) := by decide +kernel
theorem d_Answer_goBack_96 : decode m_Answer_goBack.2.1 96 = .ok (.invokevirtual 99, 3) := by decide +kernel
theorem d_Answer_goBack_99 : decode m_Answer_goBack.2.1 99 = .ok (.ireturn, 1) := by decide +kernel
theorem d_Book_init_0 : decode m_Book_init.2.1 0 = .ok (.aload_n 0, 1) := by decide +kernel
theorem d_Book_init_1 : decode m_Book_init.2.1 1 = .ok (.invokespecial 3, 3) := by decide +kernel
theorem d_Book_init_4 : decode m_Book_init.2.1 4 = .ok (.aload_n 0, 1) := by decide +kernel
theorem d_Book_init_5 : decode m_Book_init.2.1 5 = .ok (.new 9, 3) := by decide +kernel
theorem d_Book_init_8 : decode m_Book_init.2.1 8 = .ok (.dup, 1) := by decide +kernel
theorem d_Book_init_9 : decode m_Book_init.2.1 9 = .ok (.bipush 12, 2) := by decide +kernel
theorem d_Book_init_11 : decode m_Book_init.2.1 11 = .ok (.invokespecial 11, 3) := by decide +kernel
theorem d_Book_init_14 : decode m_Book_init.2.1 14 = .ok (.putfield 14, 3) := by decide +kernel
theorem d_Book_init_17 : decode m_Book_init.2.1 17 = .ok (.aload_n 0, 1) := by decide +kernel
theorem d_Book_init_18 : decode m_Book_init.2.1 18 = .ok (.new 9, 3) := by decide +kernel
theorem d_Book_init_21 : decode m_Book_init.2.1 21 = .ok (.dup, 1) := by decide +kernel
theorem d_Book_init_22 : decode m_Book_init.2.1 22 = .ok (.bipush 12, 2) := by decide +kernel
theorem d_Book_init_24 : decode m_Book_init.2.1 24 = .ok (.invokespecial 11, 3) := by decide +kernel
theorem d_Book_init_27 : decode m_Book_init.2.1 27 = .ok (.putfield 20, 3) := by decide +kernel
theorem d_Book_init_30 : decode m_Book_init.2.1 30 = .ok (.aload_n 0, 1) := by decide +kernel
theorem d_Book_init_31 : decode m_Book_init.2.1 31 = .ok (.new 23, 3) := by decide +kernel
theorem d_Book_init_34 : decode m_Book_init.2.1 34 = .ok (.dup, 1) := by decide +kernel
theorem d_Book_init_35 : decode m_Book_init.2.1 35 = .ok (.invokespecial 25, 3) := by decide +kernel
theorem d_Book_init_38 : decode m_Book_init.2.1 38 = .ok (.putfield 26, 3) := by decide +kernel
theorem d_Book_init_41 : decode m_Book_init.2.1 41 = .ok (.aload_n 0, 1) := by decide +kernel
theorem d_Book_init_42 : decode m_Book_init.2.1 42 = .ok (.new 30, 3) := by decide +kernel
theorem d_Book_init_45 : decode m_Book_init.2.1 45 = .ok (.dup, 1) := by decide +kernel
theorem d_Book_init_46 : decode m_Book_init.2.1 46 = .ok (.bipush 12, 2) := by decide +kernel
theorem d_Book_init_48 : decode m_Book_init.2.1 48 = .ok (.invokespecial 32, 3) := by decide +kernel
theorem d_Book_init_51 : decode m_Book_init.2.1 51 = .ok (.putfield 33, 3) := by decide +kernel
theorem d_Book_init_54 : decode m_Book_init.2.1 54 = .ok (.aload_n 0, 1) := by decide +kernel
theorem d_Book_init_55 : decode m_Book_init.2.1 55 = .ok (.ldc 39, 2) := by decide +kernel
theorem d_Book_init_57 : decode m_Book_init.2.1 57 = .ok (.putfield 40, 3) := by decide +kernel
theorem d_Book_init_60 : decode m_Book_init.2.1 60 = .ok (.return_, 1) := by decide +kernel
theorem d_Book_copy_0 : decode m_Book_copy.2.1 0 = .ok (.aload_n 0, 1) := by decide +kernel
theorem d_Book_copy_1 : decode m_Book_copy.2.1 1 = .ok (.getfield 14, 3) := by decide +kernel
theorem d_Book_copy_4 : decode m_Book_copy.2.1 4 = .ok (.aload_n 1, 1) := by decide +kernel
theorem d_Book_copy_5 : decode m_Book_copy.2.1 5 = .ok (.getfield 14, 3) := by decide +kernel
theorem d_Book_copy_8 : decode m_Book_copy.2.1 8 = .ok (.invokevirtual 44, 3) := by decide +kernel
theorem d_Book_copy_11 : decode m_Book_copy.2.1 11 = .ok (.aload_n 0, 1) := by decide +kernel
theorem d_Book_copy_12 : decode m_Book_copy.2.1 12 = .ok (.getfield 20, 3) := by decide +kernel
theorem d_Book_copy_15 : decode m_Book_copy.2.1 15 = .ok (.aload_n 1, 1) := by decide +kernel
theorem d_Book_copy_16 : decode m_Book_copy.2.1 16 = .ok (.getfield 20, 3) := by decide +kernel
theorem d_Book_copy_19 : decode m_Book_copy.2.1 19 = .ok (.invokevirtual 44, 3) := by decide +kernel
theorem d_Book_copy_22 : decode m_Book_copy.2.1 22 = .ok (.aload_n 0, 1) := by decide +kernel
theorem d_Book_copy_23 : decode m_Book_copy.2.1 23 = .ok (.getfield 26, 3) := by decide +kernel
theorem d_Book_copy_26 : decode m_Book_copy.2.1 26 = .ok (.aload_n 1, 1) := by decide +kernel
theorem d_Book_copy_27 : decode m_Book_copy.2.1 27 = .ok (.getfield 26, 3) := by decide +kernel
theorem d_Book_copy_30 : decode m_Book_copy.2.1 30 = .ok (.invokevirtual 48, 3) := by decide +kernel
theorem d_Book_copy_33 : decode m_Book_copy.2.1 33 = .ok (.aload_n 0, 1) := by decide +kernel
theorem d_Book_copy_34 : decode m_Book_copy.2.1 34 = .ok (.getfield 33, 3) := by decide +kernel
theorem d_Book_copy_37 : decode m_Book_copy.2.1 37 = .ok (.aload_n 1, 1) := by decide +kernel
theorem d_Book_copy_38 : decode m_Book_copy.2.1 38 = .ok (.getfield 33, 3) := by decide +kernel
theorem d_Book_copy_41 : decode m_Book_copy.2.1 41 = .ok (.invokevirtual 51, 3) := by decide +kernel
theorem d_Book_copy_44 : decode m_Book_copy.2.1 44 = .ok (.aload_n 0, 1) := by decide +kernel
theorem d_Book_copy_45 : decode m_Book_copy.2.1 45 = .ok (.aload_n 1, 1) := by decide +kernel
theorem d_Book_copy_46 : decode m_Book_copy.2.1 46 = .ok (.getfield 40, 3) := by decide +kernel
theorem d_Book_copy_49 : decode m_Book_copy.2.1 49 = .ok (.putfield 40, 3) := by decide +kernel
theorem d_Book_copy_52 : decode m_Book_copy.2.1 52 = .ok (.return_, 1) := by decide +kernel
theorem d_Book_wordsMeetNeeds_0 : decode m_Book_wordsMeetNeeds.2.1 0 = .ok (.iconst 0, 1) := by decide +kernel
theorem d_Book_wordsMeetNeeds_1 : decode m_Book_wordsMeetNeeds.2.1 1 = .ok (.istore_n 1, 1) := by decide +kernel
theorem d_Book_wordsMeetNeeds_2 : decode m_Book_wordsMeetNeeds.2.1 2 = .ok (.iload_n 1, 1) := by decide +kernel
theorem d_Book_wordsMeetNeeds_3 : decode m_Book_wordsMeetNeeds.2.1 3 = .ok (.iconst 3, 1) := by decide +kernel
theorem d_Book_wordsMeetNeeds_4 : decode m_Book_wordsMeetNeeds.2.1 4 = .ok (.if_icmp .ge 37, 3) := by decide +kernel
theorem d_Book_wordsMeetNeeds_7 : decode m_Book_wordsMeetNeeds.2.1 7 = .ok (.aload_n 0, 1) := by decide +kernel
theorem d_Book_wordsMeetNeeds_8 : decode m_Book_wordsMeetNeeds.2.1 8 = .ok (.getfield 40, 3) := by decide +kernel
theorem d_Book_wordsMeetNeeds_11 : decode m_Book_wordsMeetNeeds.2.1 11 = .ok (.iload_n 1, 1) := by decide +kernel
theorem d_Book_wordsMeetNeeds_12 : decode m_Book_wordsMeetNeeds.2.1 12 = .ok (.invokestatic 54, 3) := by decide +kernel
theorem d_Book_wordsMeetNeeds_15 : decode m_Book_wordsMeetNeeds.2.1 15 = .ok (.aload_n 0, 1) := by decide +kernel
theorem d_Book_wordsMeetNeeds_16 : decode m_Book_wordsMeetNeeds.2.1 16 = .ok (.aload_n 0, 1) := by decide +kernel
theorem d_Book_wordsMeetNeeds_17 : decode m_Book_wordsMeetNeeds.2.1 17 = .ok (.getfield 33, 3) := by decide +kernel
theorem d_Book_wordsMeetNeeds_20 : decode m_Book_wordsMeetNeeds.2.1 20 = .ok (.iload_n 1, 1) := by decide +kernel
theorem d_Book_wordsMeetNeeds_21 : decode m_Book_wordsMeetNeeds.2.1 21 = .ok (.invokevirtual 58, 3) := by decide +kernel
theorem d_Book_wordsMeetNeeds_24 : decode m_Book_wordsMeetNeeds.2.1 24 = .ok (.invokevirtual 62, 3) := by decide +kernel
theorem d_Book_wordsMeetNeeds_27 : decode m_Book_wordsMeetNeeds.2.1 27 = .ok (.invokestatic 66, 3) := by decide +kernel
theorem d_Book_wordsMeetNeeds_30 : decode m_Book_wordsMeetNeeds.2.1 30 = .ok (.ifCond .ne 5, 3) := by decide +kernel
theorem d_Book_wordsMeetNeeds_33 : decode m_Book_wordsMeetNeeds.2.1 33 = .ok (.iconst 0, 1) := by decide +kernel
theorem d_Book_wordsMeetNeeds_34 : decode m_Book_wordsMeetNeeds.2.1 34 = .ok (.ireturn, 1) := by decide +kernel
theorem d_Book_wordsMeetNeeds_35 : decode m_Book_wordsMeetNeeds.2.1 35 = .ok (.iinc 1 1, 3) := by decide +kernel
theorem d_Book_wordsMeetNeeds_38 : decode m_Book_wordsMeetNeeds.2.1 38 = .ok (.goto (-36), 3) := by decide +kernel
theorem d_Book_wordsMeetNeeds_41 : decode m_Book_wordsMeetNeeds.2.1 41 = .ok (.iconst 1, 1) := by decide +kernel
theorem d_Book_wordsMeetNeeds_42 : decode m_Book_wordsMeetNeeds.2.1 42 = .ok (.ireturn, 1) := by decide +kernel
theorem d_Book_mapOf_0 : decode m_Book_mapOf.2.1 0 = .ok (.sipush 273, 3) := by decide +kernel
theorem d_Book_mapOf_3 : decode m_Book_mapOf.2.1 3 = .ok (.istore_n 2, 1) := by decide +kernel
theorem d_Book_mapOf_4 : decode m_Book_mapOf.2.1 4 = .ok (.iconst 0, 1) := by decide +kernel
theorem d_Book_mapOf_5 : decode m_Book_mapOf.2.1 5 = .ok (.istore_n 3, 1) := by decide +kernel
theorem d_Book_mapOf_6 : decode m_Book_mapOf.2.1 6 = .ok (.iload_n 3, 1) := by decide +kernel
theorem d_Book_mapOf_7 : decode m_Book_mapOf.2.1 7 = .ok (.aload_n 1, 1) := by decide +kernel
theorem d_Book_mapOf_8 : decode m_Book_mapOf.2.1 8 = .ok (.invokevirtual 70, 3) := by decide +kernel
theorem d_Book_mapOf_11 : decode m_Book_mapOf.2.1 11 = .ok (.if_icmp .ge 23, 3) := by decide +kernel
theorem d_Book_mapOf_14 : decode m_Book_mapOf.2.1 14 = .ok (.aload_n 0, 1) := by decide +kernel
theorem d_Book_mapOf_15 : decode m_Book_mapOf.2.1 15 = .ok (.getfield 26, 3) := by decide +kernel
theorem d_Book_mapOf_18 : decode m_Book_mapOf.2.1 18 = .ok (.iload_n 2, 1) := by decide +kernel
theorem d_Book_mapOf_19 : decode m_Book_mapOf.2.1 19 = .ok (.aload_n 1, 1) := by decide +kernel
theorem d_Book_mapOf_20 : decode m_Book_mapOf.2.1 20 = .ok (.iload_n 3, 1) := by decide +kernel
theorem d_Book_mapOf_21 : decode m_Book_mapOf.2.1 21 = .ok (.invokevirtual 74, 3) := by decide +kernel
theorem d_Book_mapOf_24 : decode m_Book_mapOf.2.1 24 = .ok (.invokevirtual 78, 3) := by decide +kernel
theorem d_Book_mapOf_27 : decode m_Book_mapOf.2.1 27 = .ok (.istore_n 2, 1) := by decide +kernel
theorem d_Book_mapOf_28 : decode m_Book_mapOf.2.1 28 = .ok (.iinc 3 1, 3) := by decide +kernel
theorem d_Book_mapOf_31 : decode m_Book_mapOf.2.1 31 = .ok (.goto (-25), 3) := by decide +kernel
theorem d_Book_mapOf_34 : decode m_Book_mapOf.2.1 34 = .ok (.iload_n 2, 1) := by decide +kernel
theorem d_Book_mapOf_35 : decode m_Book_mapOf.2.1 35 = .ok (.ireturn, 1) := by decide +kernel
theorem d_Machine_init_0 : decode m_Machine_init.2.1 0 = .ok (.aload_n 0, 1) := by decide +kernel
theorem d_Machine_init_1 : decode m_Machine_init.2.1 1 = .ok (.invokespecial 3, 3) := by decide +kernel
theorem d_Machine_init_4 : decode m_Machine_init.2.1 4 = .ok (.aload_n 0, 1) := by decide +kernel
theorem d_Machine_init_5 : decode m_Machine_init.2.1 5 = .ok (.bipush 6, 2) := by decide +kernel
theorem d_Machine_init_7 : decode m_Machine_init.2.1 7 = .ok (.newarray .int, 2) := by decide +kernel
theorem d_Machine_init_9 : decode m_Machine_init.2.1 9 = .ok (.putfield 9, 3) := by decide +kernel
theorem d_Machine_init_12 : decode m_Machine_init.2.1 12 = .ok (.iconst 0, 1) := by decide +kernel
theorem d_Machine_init_13 : decode m_Machine_init.2.1 13 = .ok (.istore_n 1, 1) := by decide +kernel
theorem d_Machine_init_14 : decode m_Machine_init.2.1 14 = .ok (.iload_n 1, 1) := by decide +kernel
theorem d_Machine_init_15 : decode m_Machine_init.2.1 15 = .ok (.aload_n 0, 1) := by decide +kernel
theorem d_Machine_init_16 : decode m_Machine_init.2.1 16 = .ok (.getfield 9, 3) := by decide +kernel
theorem d_Machine_init_19 : decode m_Machine_init.2.1 19 = .ok (.arraylength, 1) := by decide +kernel
theorem d_Machine_init_20 : decode m_Machine_init.2.1 20 = .ok (.if_icmp .ge 18, 3) := by decide +kernel
theorem d_Machine_init_23 : decode m_Machine_init.2.1 23 = .ok (.aload_n 0, 1) := by decide +kernel
theorem d_Machine_init_24 : decode m_Machine_init.2.1 24 = .ok (.getfield 9, 3) := by decide +kernel
theorem d_Machine_init_27 : decode m_Machine_init.2.1 27 = .ok (.iload_n 1, 1) := by decide +kernel
theorem d_Machine_init_28 : decode m_Machine_init.2.1 28 = .ok (.iload_n 1, 1) := by decide +kernel
theorem d_Machine_init_29 : decode m_Machine_init.2.1 29 = .ok (.iconst 3, 1) := by decide +kernel
theorem d_Machine_init_30 : decode m_Machine_init.2.1 30 = .ok (.irem, 1) := by decide +kernel
theorem d_Machine_init_31 : decode m_Machine_init.2.1 31 = .ok (.iastore, 1) := by decide +kernel
theorem d_Machine_init_32 : decode m_Machine_init.2.1 32 = .ok (.iinc 1 1, 3) := by decide +kernel
theorem d_Machine_init_35 : decode m_Machine_init.2.1 35 = .ok (.goto (-21), 3) := by decide +kernel
theorem d_Machine_init_38 : decode m_Machine_init.2.1 38 = .ok (.return_, 1) := by decide +kernel
theorem d_Machine_after_0 : decode m_Machine_after.2.1 0 = .ok (.iconst 3, 1) := by decide +kernel
theorem d_Machine_after_1 : decode m_Machine_after.2.1 1 = .ok (.iload_n 2, 1) := by decide +kernel
theorem d_Machine_after_2 : decode m_Machine_after.2.1 2 = .ok (.imul, 1) := by decide +kernel
theorem d_Machine_after_3 : decode m_Machine_after.2.1 3 = .ok (.iload_n 1, 1) := by decide +kernel
theorem d_Machine_after_4 : decode m_Machine_after.2.1 4 = .ok (.iadd, 1) := by decide +kernel
theorem d_Machine_after_5 : decode m_Machine_after.2.1 5 = .ok (.istore_n 3, 1) := by decide +kernel
theorem d_Machine_after_6 : decode m_Machine_after.2.1 6 = .ok (.iload_n 3, 1) := by decide +kernel
theorem d_Machine_after_7 : decode m_Machine_after.2.1 7 = .ok (.ifCond .lt 21, 3) := by decide +kernel
theorem d_Machine_after_10 : decode m_Machine_after.2.1 10 = .ok (.iload_n 3, 1) := by decide +kernel
theorem d_Machine_after_11 : decode m_Machine_after.2.1 11 = .ok (.aload_n 0, 1) := by decide +kernel
theorem d_Machine_after_12 : decode m_Machine_after.2.1 12 = .ok (.getfield 9, 3) := by decide +kernel
theorem d_Machine_after_15 : decode m_Machine_after.2.1 15 = .ok (.arraylength, 1) := by decide +kernel
theorem d_Machine_after_16 : decode m_Machine_after.2.1 16 = .ok (.if_icmp .ge 12, 3) := by decide +kernel
theorem d_Machine_after_19 : decode m_Machine_after.2.1 19 = .ok (.aload_n 0, 1) := by decide +kernel
theorem d_Machine_after_20 : decode m_Machine_after.2.1 20 = .ok (.getfield 9, 3) := by decide +kernel
theorem d_Machine_after_23 : decode m_Machine_after.2.1 23 = .ok (.iload_n 3, 1) := by decide +kernel
theorem d_Machine_after_24 : decode m_Machine_after.2.1 24 = .ok (.iaload, 1) := by decide +kernel
theorem d_Machine_after_25 : decode m_Machine_after.2.1 25 = .ok (.goto 4, 3) := by decide +kernel
theorem d_Machine_after_28 : decode m_Machine_after.2.1 28 = .ok (.iconst 0, 1) := by decide +kernel
theorem d_Machine_after_29 : decode m_Machine_after.2.1 29 = .ok (.ireturn, 1) := by decide +kernel
theorem d_Machine_turn_0 : decode m_Machine_turn.2.1 0 = .ok (.iconst 3, 1) := by decide +kernel
theorem d_Machine_turn_1 : decode m_Machine_turn.2.1 1 = .ok (.iload_n 2, 1) := by decide +kernel
theorem d_Machine_turn_2 : decode m_Machine_turn.2.1 2 = .ok (.imul, 1) := by decide +kernel
theorem d_Machine_turn_3 : decode m_Machine_turn.2.1 3 = .ok (.iload_n 1, 1) := by decide +kernel
theorem d_Machine_turn_4 : decode m_Machine_turn.2.1 4 = .ok (.iadd, 1) := by decide +kernel
theorem d_Machine_turn_5 : decode m_Machine_turn.2.1 5 = .ok (.istore 4, 2) := by decide +kernel
theorem d_Machine_turn_7 : decode m_Machine_turn.2.1 7 = .ok (.iload 4, 2) := by decide +kernel
theorem d_Machine_turn_9 : decode m_Machine_turn.2.1 9 = .ok (.ifCond .lt 21, 3) := by decide +kernel
theorem d_Machine_turn_12 : decode m_Machine_turn.2.1 12 = .ok (.iload 4, 2) := by decide +kernel
theorem d_Machine_turn_14 : decode m_Machine_turn.2.1 14 = .ok (.aload_n 0, 1) := by decide +kernel
theorem d_Machine_turn_15 : decode m_Machine_turn.2.1 15 = .ok (.getfield 9, 3) := by decide +kernel
theorem d_Machine_turn_18 : decode m_Machine_turn.2.1 18 = .ok (.arraylength, 1) := by decide +kernel
theorem d_Machine_turn_19 : decode m_Machine_turn.2.1 19 = .ok (.if_icmp .ge 11, 3) := by decide +kernel
theorem d_Machine_turn_22 : decode m_Machine_turn.2.1 22 = .ok (.aload_n 0, 1) := by decide +kernel
theorem d_Machine_turn_23 : decode m_Machine_turn.2.1 23 = .ok (.getfield 9, 3) := by decide +kernel
theorem d_Machine_turn_26 : decode m_Machine_turn.2.1 26 = .ok (.iload 4, 2) := by decide +kernel
theorem d_Machine_turn_28 : decode m_Machine_turn.2.1 28 = .ok (.iload_n 3, 1) := by decide +kernel
theorem d_Machine_turn_29 : decode m_Machine_turn.2.1 29 = .ok (.iastore, 1) := by decide +kernel
theorem d_Machine_turn_30 : decode m_Machine_turn.2.1 30 = .ok (.return_, 1) := by decide +kernel
theorem d_Machine_mapBehind_0 : decode m_Machine_mapBehind.2.1 0 = .ok (.iconst 0, 1) := by decide +kernel
theorem d_Machine_mapBehind_1 : decode m_Machine_mapBehind.2.1 1 = .ok (.istore_n 3, 1) := by decide +kernel
theorem d_Machine_mapBehind_2 : decode m_Machine_mapBehind.2.1 2 = .ok (.iconst 0, 1) := by decide +kernel
theorem d_Machine_mapBehind_3 : decode m_Machine_mapBehind.2.1 3 = .ok (.istore 4, 2) := by decide +kernel
theorem d_Machine_mapBehind_5 : decode m_Machine_mapBehind.2.1 5 = .ok (.iload 4, 2) := by decide +kernel
theorem d_Machine_mapBehind_7 : decode m_Machine_mapBehind.2.1 7 = .ok (.iconst 3, 1) := by decide +kernel
theorem d_Machine_mapBehind_8 : decode m_Machine_mapBehind.2.1 8 = .ok (.if_icmp .ge 56, 3) := by decide +kernel
theorem d_Machine_mapBehind_11 : decode m_Machine_mapBehind.2.1 11 = .ok (.iconst 0, 1) := by decide +kernel
theorem d_Machine_mapBehind_12 : decode m_Machine_mapBehind.2.1 12 = .ok (.istore 5, 2) := by decide +kernel
theorem d_Machine_mapBehind_14 : decode m_Machine_mapBehind.2.1 14 = .ok (.iload 5, 2) := by decide +kernel
theorem d_Machine_mapBehind_16 : decode m_Machine_mapBehind.2.1 16 = .ok (.iconst 3, 1) := by decide +kernel
theorem d_Machine_mapBehind_17 : decode m_Machine_mapBehind.2.1 17 = .ok (.if_icmp .ge 41, 3) := by decide +kernel
theorem d_Machine_mapBehind_20 : decode m_Machine_mapBehind.2.1 20 = .ok (.iload_n 1, 1) := by decide +kernel
theorem d_Machine_mapBehind_21 : decode m_Machine_mapBehind.2.1 21 = .ok (.iconst 3, 1) := by decide +kernel
theorem d_Machine_mapBehind_22 : decode m_Machine_mapBehind.2.1 22 = .ok (.iload 4, 2) := by decide +kernel
theorem d_Machine_mapBehind_24 : decode m_Machine_mapBehind.2.1 24 = .ok (.imul, 1) := by decide +kernel
theorem d_Machine_mapBehind_25 : decode m_Machine_mapBehind.2.1 25 = .ok (.iload 5, 2) := by decide +kernel
theorem d_Machine_mapBehind_27 : decode m_Machine_mapBehind.2.1 27 = .ok (.iadd, 1) := by decide +kernel
theorem d_Machine_mapBehind_28 : decode m_Machine_mapBehind.2.1 28 = .ok (.ishr, 1) := by decide +kernel
theorem d_Machine_mapBehind_29 : decode m_Machine_mapBehind.2.1 29 = .ok (.iconst 1, 1) := by decide +kernel
theorem d_Machine_mapBehind_30 : decode m_Machine_mapBehind.2.1 30 = .ok (.iand, 1) := by decide +kernel
theorem d_Machine_mapBehind_31 : decode m_Machine_mapBehind.2.1 31 = .ok (.iconst 1, 1) := by decide +kernel
theorem d_Machine_mapBehind_32 : decode m_Machine_mapBehind.2.1 32 = .ok (.if_icmp .ne 20, 3) := by decide +kernel
theorem d_Machine_mapBehind_35 : decode m_Machine_mapBehind.2.1 35 = .ok (.iload_n 3, 1) := by decide +kernel
theorem d_Machine_mapBehind_36 : decode m_Machine_mapBehind.2.1 36 = .ok (.iconst 1, 1) := by decide +kernel
theorem d_Machine_mapBehind_37 : decode m_Machine_mapBehind.2.1 37 = .ok (.iconst 3, 1) := by decide +kernel
theorem d_Machine_mapBehind_38 : decode m_Machine_mapBehind.2.1 38 = .ok (.iload 4, 2) := by decide +kernel
theorem d_Machine_mapBehind_40 : decode m_Machine_mapBehind.2.1 40 = .ok (.imul, 1) := by decide +kernel
theorem d_Machine_mapBehind_41 : decode m_Machine_mapBehind.2.1 41 = .ok (.aload_n 0, 1) := by decide +kernel
theorem d_Machine_mapBehind_42 : decode m_Machine_mapBehind.2.1 42 = .ok (.iload 5, 2) := by decide +kernel
theorem d_Machine_mapBehind_44 : decode m_Machine_mapBehind.2.1 44 = .ok (.iload_n 2, 1) := by decide +kernel
theorem d_Machine_mapBehind_45 : decode m_Machine_mapBehind.2.1 45 = .ok (.invokevirtual 15, 3) := by decide +kernel
theorem d_Machine_mapBehind_48 : decode m_Machine_mapBehind.2.1 48 = .ok (.iadd, 1) := by decide +kernel
theorem d_Machine_mapBehind_49 : decode m_Machine_mapBehind.2.1 49 = .ok (.ishl, 1) := by decide +kernel
theorem d_Machine_mapBehind_50 : decode m_Machine_mapBehind.2.1 50 = .ok (.ior, 1) := by decide +kernel
theorem d_Machine_mapBehind_51 : decode m_Machine_mapBehind.2.1 51 = .ok (.istore_n 3, 1) := by decide +kernel
theorem d_Machine_mapBehind_52 : decode m_Machine_mapBehind.2.1 52 = .ok (.iinc 5 1, 3) := by decide +kernel
theorem d_Machine_mapBehind_55 : decode m_Machine_mapBehind.2.1 55 = .ok (.goto (-41), 3) := by decide +kernel
theorem d_Machine_mapBehind_58 : decode m_Machine_mapBehind.2.1 58 = .ok (.iinc 4 1, 3) := by decide +kernel
theorem d_Machine_mapBehind_61 : decode m_Machine_mapBehind.2.1 61 = .ok (.goto (-56), 3) := by decide +kernel
theorem d_Machine_mapBehind_64 : decode m_Machine_mapBehind.2.1 64 = .ok (.iload_n 3, 1) := by decide +kernel
theorem d_Machine_mapBehind_65 : decode m_Machine_mapBehind.2.1 65 = .ok (.ireturn, 1) := by decide +kernel
theorem d_Machine_copy_0 : decode m_Machine_copy.2.1 0 = .ok (.iconst 0, 1) := by decide +kernel
theorem d_Machine_copy_1 : decode m_Machine_copy.2.1 1 = .ok (.istore_n 2, 1) := by decide +kernel
theorem d_Machine_copy_2 : decode m_Machine_copy.2.1 2 = .ok (.iload_n 2, 1) := by decide +kernel
theorem d_Machine_copy_3 : decode m_Machine_copy.2.1 3 = .ok (.aload_n 0, 1) := by decide +kernel
theorem d_Machine_copy_4 : decode m_Machine_copy.2.1 4 = .ok (.getfield 9, 3) := by decide +kernel
theorem d_Machine_copy_7 : decode m_Machine_copy.2.1 7 = .ok (.arraylength, 1) := by decide +kernel
theorem d_Machine_copy_8 : decode m_Machine_copy.2.1 8 = .ok (.if_icmp .ge 30, 3) := by decide +kernel
theorem d_Machine_copy_11 : decode m_Machine_copy.2.1 11 = .ok (.iload_n 2, 1) := by decide +kernel
theorem d_Machine_copy_12 : decode m_Machine_copy.2.1 12 = .ok (.aload_n 1, 1) := by decide +kernel
theorem d_Machine_copy_13 : decode m_Machine_copy.2.1 13 = .ok (.getfield 9, 3) := by decide +kernel
theorem d_Machine_copy_16 : decode m_Machine_copy.2.1 16 = .ok (.arraylength, 1) := by decide +kernel
theorem d_Machine_copy_17 : decode m_Machine_copy.2.1 17 = .ok (.if_icmp .ge 21, 3) := by decide +kernel
theorem d_Machine_copy_20 : decode m_Machine_copy.2.1 20 = .ok (.aload_n 0, 1) := by decide +kernel
theorem d_Machine_copy_21 : decode m_Machine_copy.2.1 21 = .ok (.getfield 9, 3) := by decide +kernel
theorem d_Machine_copy_24 : decode m_Machine_copy.2.1 24 = .ok (.iload_n 2, 1) := by decide +kernel
theorem d_Machine_copy_25 : decode m_Machine_copy.2.1 25 = .ok (.aload_n 1, 1) := by decide +kernel
theorem d_Machine_copy_26 : decode m_Machine_copy.2.1 26 = .ok (.getfield 9, 3) := by decide +kernel
theorem d_Machine_copy_29 : decode m_Machine_copy.2.1 29 = .ok (.iload_n 2, 1) := by decide +kernel
theorem d_Machine_copy_30 : decode m_Machine_copy.2.1 30 = .ok (.iaload, 1) := by decide +kernel
theorem d_Machine_copy_31 : decode m_Machine_copy.2.1 31 = .ok (.iastore, 1) := by decide +kernel
theorem d_Machine_copy_32 : decode m_Machine_copy.2.1 32 = .ok (.iinc 2 1, 3) := by decide +kernel
theorem d_Machine_copy_35 : decode m_Machine_copy.2.1 35 = .ok (.goto (-33), 3) := by decide +kernel
theorem d_Machine_copy_38 : decode m_Machine_copy.2.1 38 = .ok (.return_, 1) := by decide +kernel
theorem d_Need_ofVariable_0 : decode m_Need_ofVariable.2.1 0 = .ok (.iload_n 0, 1) := by decide +kernel
theorem d_Need_ofVariable_1 : decode m_Need_ofVariable.2.1 1 = .ok (.bipush 9, 2) := by decide +kernel
theorem d_Need_ofVariable_3 : decode m_Need_ofVariable.2.1 3 = .ok (.iload_n 1, 1) := by decide +kernel
theorem d_Need_ofVariable_4 : decode m_Need_ofVariable.2.1 4 = .ok (.imul, 1) := by decide +kernel
theorem d_Need_ofVariable_5 : decode m_Need_ofVariable.2.1 5 = .ok (.ishr, 1) := by decide +kernel
theorem d_Need_ofVariable_6 : decode m_Need_ofVariable.2.1 6 = .ok (.sipush 511, 3) := by decide +kernel
theorem d_Need_ofVariable_9 : decode m_Need_ofVariable.2.1 9 = .ok (.iand, 1) := by decide +kernel
theorem d_Need_ofVariable_10 : decode m_Need_ofVariable.2.1 10 = .ok (.ireturn, 1) := by decide +kernel
theorem d_Need_ofState_0 : decode m_Need_ofState.2.1 0 = .ok (.iload_n 0, 1) := by decide +kernel
theorem d_Need_ofState_1 : decode m_Need_ofState.2.1 1 = .ok (.iconst 3, 1) := by decide +kernel
theorem d_Need_ofState_2 : decode m_Need_ofState.2.1 2 = .ok (.iload_n 1, 1) := by decide +kernel
theorem d_Need_ofState_3 : decode m_Need_ofState.2.1 3 = .ok (.imul, 1) := by decide +kernel
theorem d_Need_ofState_4 : decode m_Need_ofState.2.1 4 = .ok (.ishr, 1) := by decide +kernel
theorem d_Need_ofState_5 : decode m_Need_ofState.2.1 5 = .ok (.bipush 7, 2) := by decide +kernel
theorem d_Need_ofState_7 : decode m_Need_ofState.2.1 7 = .ok (.iand, 1) := by decide +kernel
theorem d_Need_ofState_8 : decode m_Need_ofState.2.1 8 = .ok (.ireturn, 1) := by decide +kernel
theorem d_Need_withVariable_0 : decode m_Need_withVariable.2.1 0 = .ok (.iload_n 0, 1) := by decide +kernel
theorem d_Need_withVariable_1 : decode m_Need_withVariable.2.1 1 = .ok (.sipush 511, 3) := by decide +kernel
theorem d_Need_withVariable_4 : decode m_Need_withVariable.2.1 4 = .ok (.bipush 9, 2) := by decide +kernel
theorem d_Need_withVariable_6 : decode m_Need_withVariable.2.1 6 = .ok (.iload_n 1, 1) := by decide +kernel
theorem d_Need_withVariable_7 : decode m_Need_withVariable.2.1 7 = .ok (.imul, 1) := by decide +kernel
theorem d_Need_withVariable_8 : decode m_Need_withVariable.2.1 8 = .ok (.ishl, 1) := by decide +kernel
theorem d_Need_withVariable_9 : decode m_Need_withVariable.2.1 9 = .ok (.iconst (-1), 1) := by decide +kernel
theorem d_Need_withVariable_10 : decode m_Need_withVariable.2.1 10 = .ok (.ixor, 1) := by decide +kernel
theorem d_Need_withVariable_11 : decode m_Need_withVariable.2.1 11 = .ok (.iand, 1) := by decide +kernel
theorem d_Need_withVariable_12 : decode m_Need_withVariable.2.1 12 = .ok (.iload_n 2, 1) := by decide +kernel
theorem d_Need_withVariable_13 : decode m_Need_withVariable.2.1 13 = .ok (.bipush 9, 2) := by decide +kernel
theorem d_Need_withVariable_15 : decode m_Need_withVariable.2.1 15 = .ok (.iload_n 1, 1) := by decide +kernel
theorem d_Need_withVariable_16 : decode m_Need_withVariable.2.1 16 = .ok (.imul, 1) := by decide +kernel
theorem d_Need_withVariable_17 : decode m_Need_withVariable.2.1 17 = .ok (.ishl, 1) := by decide +kernel
theorem d_Need_withVariable_18 : decode m_Need_withVariable.2.1 18 = .ok (.ior, 1) := by decide +kernel
theorem d_Need_withVariable_19 : decode m_Need_withVariable.2.1 19 = .ok (.ireturn, 1) := by decide +kernel
theorem d_Need_withState_0 : decode m_Need_withState.2.1 0 = .ok (.bipush 9, 2) := by decide +kernel
theorem d_Need_withState_2 : decode m_Need_withState.2.1 2 = .ok (.iload_n 1, 1) := by decide +kernel
theorem d_Need_withState_3 : decode m_Need_withState.2.1 3 = .ok (.imul, 1) := by decide +kernel
theorem d_Need_withState_4 : decode m_Need_withState.2.1 4 = .ok (.iconst 3, 1) := by decide +kernel
theorem d_Need_withState_5 : decode m_Need_withState.2.1 5 = .ok (.iload_n 2, 1) := by decide +kernel
theorem d_Need_withState_6 : decode m_Need_withState.2.1 6 = .ok (.imul, 1) := by decide +kernel
theorem d_Need_withState_7 : decode m_Need_withState.2.1 7 = .ok (.iadd, 1) := by decide +kernel
theorem d_Need_withState_8 : decode m_Need_withState.2.1 8 = .ok (.istore 4, 2) := by decide +kernel
theorem d_Need_withState_10 : decode m_Need_withState.2.1 10 = .ok (.iload_n 0, 1) := by decide +kernel
theorem d_Need_withState_11 : decode m_Need_withState.2.1 11 = .ok (.bipush 7, 2) := by decide +kernel
theorem d_Need_withState_13 : decode m_Need_withState.2.1 13 = .ok (.iload 4, 2) := by decide +kernel
theorem d_Need_withState_15 : decode m_Need_withState.2.1 15 = .ok (.ishl, 1) := by decide +kernel
theorem d_Need_withState_16 : decode m_Need_withState.2.1 16 = .ok (.iconst (-1), 1) := by decide +kernel
theorem d_Need_withState_17 : decode m_Need_withState.2.1 17 = .ok (.ixor, 1) := by decide +kernel
theorem d_Need_withState_18 : decode m_Need_withState.2.1 18 = .ok (.iand, 1) := by decide +kernel
theorem d_Need_withState_19 : decode m_Need_withState.2.1 19 = .ok (.iload_n 3, 1) := by decide +kernel
theorem d_Need_withState_20 : decode m_Need_withState.2.1 20 = .ok (.iload 4, 2) := by decide +kernel
theorem d_Need_withState_22 : decode m_Need_withState.2.1 22 = .ok (.ishl, 1) := by decide +kernel
theorem d_Need_withState_23 : decode m_Need_withState.2.1 23 = .ok (.ior, 1) := by decide +kernel
theorem d_Need_withState_24 : decode m_Need_withState.2.1 24 = .ok (.ireturn, 1) := by decide +kernel
theorem d_Need_allows_0 : decode m_Need_allows.2.1 0 = .ok (.iload_n 1, 1) := by decide +kernel
theorem d_Need_allows_1 : decode m_Need_allows.2.1 1 = .ok (.iload_n 0, 1) := by decide +kernel
theorem d_Need_allows_2 : decode m_Need_allows.2.1 2 = .ok (.iconst (-1), 1) := by decide +kernel
theorem d_Need_allows_3 : decode m_Need_allows.2.1 3 = .ok (.ixor, 1) := by decide +kernel
theorem d_Need_allows_4 : decode m_Need_allows.2.1 4 = .ok (.iand, 1) := by decide +kernel
theorem d_Need_allows_5 : decode m_Need_allows.2.1 5 = .ok (.ifCond .ne 7, 3) := by decide +kernel
theorem d_Need_allows_8 : decode m_Need_allows.2.1 8 = .ok (.iconst 1, 1) := by decide +kernel
theorem d_Need_allows_9 : decode m_Need_allows.2.1 9 = .ok (.goto 4, 3) := by decide +kernel
theorem d_Need_allows_12 : decode m_Need_allows.2.1 12 = .ok (.iconst 0, 1) := by decide +kernel
theorem d_Need_allows_13 : decode m_Need_allows.2.1 13 = .ok (.ireturn, 1) := by decide +kernel
theorem d_Need_narrowed_0 : decode m_Need_narrowed.2.1 0 = .ok (.iload_n 0, 1) := by decide +kernel
theorem d_Need_narrowed_1 : decode m_Need_narrowed.2.1 1 = .ok (.bipush 7, 2) := by decide +kernel
theorem d_Need_narrowed_3 : decode m_Need_narrowed.2.1 3 = .ok (.iload_n 2, 1) := by decide +kernel
theorem d_Need_narrowed_4 : decode m_Need_narrowed.2.1 4 = .ok (.iconst (-1), 1) := by decide +kernel
theorem d_Need_narrowed_5 : decode m_Need_narrowed.2.1 5 = .ok (.ixor, 1) := by decide +kernel
theorem d_Need_narrowed_6 : decode m_Need_narrowed.2.1 6 = .ok (.iand, 1) := by decide +kernel
theorem d_Need_narrowed_7 : decode m_Need_narrowed.2.1 7 = .ok (.iconst 3, 1) := by decide +kernel
theorem d_Need_narrowed_8 : decode m_Need_narrowed.2.1 8 = .ok (.iload_n 1, 1) := by decide +kernel
theorem d_Need_narrowed_9 : decode m_Need_narrowed.2.1 9 = .ok (.imul, 1) := by decide +kernel
theorem d_Need_narrowed_10 : decode m_Need_narrowed.2.1 10 = .ok (.ishl, 1) := by decide +kernel
theorem d_Need_narrowed_11 : decode m_Need_narrowed.2.1 11 = .ok (.iconst (-1), 1) := by decide +kernel
theorem d_Need_narrowed_12 : decode m_Need_narrowed.2.1 12 = .ok (.ixor, 1) := by decide +kernel
theorem d_Need_narrowed_13 : decode m_Need_narrowed.2.1 13 = .ok (.iand, 1) := by decide +kernel
theorem d_Need_narrowed_14 : decode m_Need_narrowed.2.1 14 = .ok (.ireturn, 1) := by decide +kernel
theorem d_Need_behindLetter_0 : decode m_Need_behindLetter.2.1 0 = .ok (.sipush 511, 3) := by decide +kernel
theorem d_Need_behindLetter_3 : decode m_Need_behindLetter.2.1 3 = .ok (.istore_n 3, 1) := by decide +kernel
theorem d_Need_behindLetter_4 : decode m_Need_behindLetter.2.1 4 = .ok (.iconst 0, 1) := by decide +kernel
theorem d_Need_behindLetter_5 : decode m_Need_behindLetter.2.1 5 = .ok (.istore 4, 2) := by decide +kernel
theorem d_Need_behindLetter_7 : decode m_Need_behindLetter.2.1 7 = .ok (.iload 4, 2) := by decide +kernel
theorem d_Need_behindLetter_9 : decode m_Need_behindLetter.2.1 9 = .ok (.iconst 3, 1) := by decide +kernel
theorem d_Need_behindLetter_10 : decode m_Need_behindLetter.2.1 10 = .ok (.if_icmp .ge 27, 3) := by decide +kernel
theorem d_Need_behindLetter_13 : decode m_Need_behindLetter.2.1 13 = .ok (.iload_n 3, 1) := by decide +kernel
theorem d_Need_behindLetter_14 : decode m_Need_behindLetter.2.1 14 = .ok (.aload_n 2, 1) := by decide +kernel
theorem d_Need_behindLetter_15 : decode m_Need_behindLetter.2.1 15 = .ok (.iload 4, 2) := by decide +kernel
theorem d_Need_behindLetter_17 : decode m_Need_behindLetter.2.1 17 = .ok (.iload_n 1, 1) := by decide +kernel
theorem d_Need_behindLetter_18 : decode m_Need_behindLetter.2.1 18 = .ok (.invokevirtual 11, 3) := by decide +kernel
theorem d_Need_behindLetter_21 : decode m_Need_behindLetter.2.1 21 = .ok (.iload_n 0, 1) := by decide +kernel
theorem d_Need_behindLetter_22 : decode m_Need_behindLetter.2.1 22 = .ok (.iload 4, 2) := by decide +kernel
theorem d_Need_behindLetter_24 : decode m_Need_behindLetter.2.1 24 = .ok (.invokestatic 17, 3) := by decide +kernel
theorem d_Need_behindLetter_27 : decode m_Need_behindLetter.2.1 27 = .ok (.invokestatic 20, 3) := by decide +kernel
theorem d_Need_behindLetter_30 : decode m_Need_behindLetter.2.1 30 = .ok (.istore_n 3, 1) := by decide +kernel
theorem d_Need_behindLetter_31 : decode m_Need_behindLetter.2.1 31 = .ok (.iinc 4 1, 3) := by decide +kernel
theorem d_Need_behindLetter_34 : decode m_Need_behindLetter.2.1 34 = .ok (.goto (-27), 3) := by decide +kernel
theorem d_Need_behindLetter_37 : decode m_Need_behindLetter.2.1 37 = .ok (.iload_n 3, 1) := by decide +kernel
theorem d_Need_behindLetter_38 : decode m_Need_behindLetter.2.1 38 = .ok (.ireturn, 1) := by decide +kernel
theorem d_Need_stateOfTurn_0 : decode m_Need_stateOfTurn.2.1 0 = .ok (.iload_n 1, 1) := by decide +kernel
theorem d_Need_stateOfTurn_1 : decode m_Need_stateOfTurn.2.1 1 = .ok (.ifCond .ne 9, 3) := by decide +kernel
theorem d_Need_stateOfTurn_4 : decode m_Need_stateOfTurn.2.1 4 = .ok (.iload_n 0, 1) := by decide +kernel
theorem d_Need_stateOfTurn_5 : decode m_Need_stateOfTurn.2.1 5 = .ok (.iconst 3, 1) := by decide +kernel
theorem d_Need_stateOfTurn_6 : decode m_Need_stateOfTurn.2.1 6 = .ok (.irem, 1) := by decide +kernel
theorem d_Need_stateOfTurn_7 : decode m_Need_stateOfTurn.2.1 7 = .ok (.goto 22, 3) := by decide +kernel
theorem d_Need_stateOfTurn_10 : decode m_Need_stateOfTurn.2.1 10 = .ok (.iload_n 1, 1) := by decide +kernel
theorem d_Need_stateOfTurn_11 : decode m_Need_stateOfTurn.2.1 11 = .ok (.iconst 1, 1) := by decide +kernel
theorem d_Need_stateOfTurn_12 : decode m_Need_stateOfTurn.2.1 12 = .ok (.if_icmp .ne 11, 3) := by decide +kernel
theorem d_Need_stateOfTurn_15 : decode m_Need_stateOfTurn.2.1 15 = .ok (.iload_n 0, 1) := by decide +kernel
theorem d_Need_stateOfTurn_16 : decode m_Need_stateOfTurn.2.1 16 = .ok (.iconst 3, 1) := by decide +kernel
theorem d_Need_stateOfTurn_17 : decode m_Need_stateOfTurn.2.1 17 = .ok (.idiv, 1) := by decide +kernel
theorem d_Need_stateOfTurn_18 : decode m_Need_stateOfTurn.2.1 18 = .ok (.iconst 3, 1) := by decide +kernel
theorem d_Need_stateOfTurn_19 : decode m_Need_stateOfTurn.2.1 19 = .ok (.irem, 1) := by decide +kernel
theorem d_Need_stateOfTurn_20 : decode m_Need_stateOfTurn.2.1 20 = .ok (.goto 9, 3) := by decide +kernel
theorem d_Need_stateOfTurn_23 : decode m_Need_stateOfTurn.2.1 23 = .ok (.iload_n 0, 1) := by decide +kernel
theorem d_Need_stateOfTurn_24 : decode m_Need_stateOfTurn.2.1 24 = .ok (.bipush 9, 2) := by decide +kernel
theorem d_Need_stateOfTurn_26 : decode m_Need_stateOfTurn.2.1 26 = .ok (.idiv, 1) := by decide +kernel
theorem d_Need_stateOfTurn_27 : decode m_Need_stateOfTurn.2.1 27 = .ok (.iconst 3, 1) := by decide +kernel
theorem d_Need_stateOfTurn_28 : decode m_Need_stateOfTurn.2.1 28 = .ok (.irem, 1) := by decide +kernel
theorem d_Need_stateOfTurn_29 : decode m_Need_stateOfTurn.2.1 29 = .ok (.ireturn, 1) := by decide +kernel
theorem d_Need_isTurn_0 : decode m_Need_isTurn.2.1 0 = .ok (.iconst 0, 1) := by decide +kernel
theorem d_Need_isTurn_1 : decode m_Need_isTurn.2.1 1 = .ok (.istore_n 2, 1) := by decide +kernel
theorem d_Need_isTurn_2 : decode m_Need_isTurn.2.1 2 = .ok (.iload_n 2, 1) := by decide +kernel
theorem d_Need_isTurn_3 : decode m_Need_isTurn.2.1 3 = .ok (.iconst 3, 1) := by decide +kernel
theorem d_Need_isTurn_4 : decode m_Need_isTurn.2.1 4 = .ok (.if_icmp .ge 29, 3) := by decide +kernel
theorem d_Need_isTurn_7 : decode m_Need_isTurn.2.1 7 = .ok (.iload_n 0, 1) := by decide +kernel
theorem d_Need_isTurn_8 : decode m_Need_isTurn.2.1 8 = .ok (.iload_n 2, 1) := by decide +kernel
theorem d_Need_isTurn_9 : decode m_Need_isTurn.2.1 9 = .ok (.invokestatic 17, 3) := by decide +kernel
theorem d_Need_isTurn_12 : decode m_Need_isTurn.2.1 12 = .ok (.bipush 7, 2) := by decide +kernel
theorem d_Need_isTurn_14 : decode m_Need_isTurn.2.1 14 = .ok (.if_icmp .ne 13, 3) := by decide +kernel
theorem d_Need_isTurn_17 : decode m_Need_isTurn.2.1 17 = .ok (.iload_n 1, 1) := by decide +kernel
theorem d_Need_isTurn_18 : decode m_Need_isTurn.2.1 18 = .ok (.iload_n 2, 1) := by decide +kernel
theorem d_Need_isTurn_19 : decode m_Need_isTurn.2.1 19 = .ok (.invokestatic 24, 3) := by decide +kernel
theorem d_Need_isTurn_22 : decode m_Need_isTurn.2.1 22 = .ok (.ifCond .eq 5, 3) := by decide +kernel
theorem d_Need_isTurn_25 : decode m_Need_isTurn.2.1 25 = .ok (.iconst 0, 1) := by decide +kernel
theorem d_Need_isTurn_26 : decode m_Need_isTurn.2.1 26 = .ok (.ireturn, 1) := by decide +kernel
theorem d_Need_isTurn_27 : decode m_Need_isTurn.2.1 27 = .ok (.iinc 2 1, 3) := by decide +kernel
theorem d_Need_isTurn_30 : decode m_Need_isTurn.2.1 30 = .ok (.goto (-28), 3) := by decide +kernel
theorem d_Need_isTurn_33 : decode m_Need_isTurn.2.1 33 = .ok (.iconst 1, 1) := by decide +kernel
theorem d_Need_isTurn_34 : decode m_Need_isTurn.2.1 34 = .ok (.ireturn, 1) := by decide +kernel
theorem d_Need_behindTurn_0 : decode m_Need_behindTurn.2.1 0 = .ok (.sipush 511, 3) := by decide +kernel
theorem d_Need_behindTurn_3 : decode m_Need_behindTurn.2.1 3 = .ok (.istore_n 2, 1) := by decide +kernel
theorem d_Need_behindTurn_4 : decode m_Need_behindTurn.2.1 4 = .ok (.iconst 0, 1) := by decide +kernel
theorem d_Need_behindTurn_5 : decode m_Need_behindTurn.2.1 5 = .ok (.istore_n 3, 1) := by decide +kernel
theorem d_Need_behindTurn_6 : decode m_Need_behindTurn.2.1 6 = .ok (.iload_n 3, 1) := by decide +kernel
theorem d_Need_behindTurn_7 : decode m_Need_behindTurn.2.1 7 = .ok (.iconst 3, 1) := by decide +kernel
theorem d_Need_behindTurn_8 : decode m_Need_behindTurn.2.1 8 = .ok (.if_icmp .ge 24, 3) := by decide +kernel
theorem d_Need_behindTurn_11 : decode m_Need_behindTurn.2.1 11 = .ok (.iload_n 2, 1) := by decide +kernel
theorem d_Need_behindTurn_12 : decode m_Need_behindTurn.2.1 12 = .ok (.iload_n 1, 1) := by decide +kernel
theorem d_Need_behindTurn_13 : decode m_Need_behindTurn.2.1 13 = .ok (.iload_n 3, 1) := by decide +kernel
theorem d_Need_behindTurn_14 : decode m_Need_behindTurn.2.1 14 = .ok (.invokestatic 24, 3) := by decide +kernel
theorem d_Need_behindTurn_17 : decode m_Need_behindTurn.2.1 17 = .ok (.iload_n 0, 1) := by decide +kernel
theorem d_Need_behindTurn_18 : decode m_Need_behindTurn.2.1 18 = .ok (.iload_n 3, 1) := by decide +kernel
theorem d_Need_behindTurn_19 : decode m_Need_behindTurn.2.1 19 = .ok (.invokestatic 17, 3) := by decide +kernel
theorem d_Need_behindTurn_22 : decode m_Need_behindTurn.2.1 22 = .ok (.invokestatic 20, 3) := by decide +kernel
theorem d_Need_behindTurn_25 : decode m_Need_behindTurn.2.1 25 = .ok (.istore_n 2, 1) := by decide +kernel
theorem d_Need_behindTurn_26 : decode m_Need_behindTurn.2.1 26 = .ok (.iinc 3 1, 3) := by decide +kernel
theorem d_Need_behindTurn_29 : decode m_Need_behindTurn.2.1 29 = .ok (.goto (-23), 3) := by decide +kernel
theorem d_Need_behindTurn_32 : decode m_Need_behindTurn.2.1 32 = .ok (.iload_n 2, 1) := by decide +kernel
theorem d_Need_behindTurn_33 : decode m_Need_behindTurn.2.1 33 = .ok (.ireturn, 1) := by decide +kernel
theorem d_Need_aheadOfTurn_0 : decode m_Need_aheadOfTurn.2.1 0 = .ok (.iload_n 0, 1) := by decide +kernel
theorem d_Need_aheadOfTurn_1 : decode m_Need_aheadOfTurn.2.1 1 = .ok (.istore_n 3, 1) := by decide +kernel
theorem d_Need_aheadOfTurn_2 : decode m_Need_aheadOfTurn.2.1 2 = .ok (.iconst 0, 1) := by decide +kernel
theorem d_Need_aheadOfTurn_3 : decode m_Need_aheadOfTurn.2.1 3 = .ok (.istore 4, 2) := by decide +kernel
theorem d_Need_aheadOfTurn_5 : decode m_Need_aheadOfTurn.2.1 5 = .ok (.iload 4, 2) := by decide +kernel
theorem d_Need_aheadOfTurn_7 : decode m_Need_aheadOfTurn.2.1 7 = .ok (.iconst 3, 1) := by decide +kernel
theorem d_Need_aheadOfTurn_8 : decode m_Need_aheadOfTurn.2.1 8 = .ok (.if_icmp .ge 35, 3) := by decide +kernel
theorem d_Need_aheadOfTurn_11 : decode m_Need_aheadOfTurn.2.1 11 = .ok (.iload_n 1, 1) := by decide +kernel
theorem d_Need_aheadOfTurn_12 : decode m_Need_aheadOfTurn.2.1 12 = .ok (.iload 4, 2) := by decide +kernel
theorem d_Need_aheadOfTurn_14 : decode m_Need_aheadOfTurn.2.1 14 = .ok (.invokestatic 17, 3) := by decide +kernel
theorem d_Need_aheadOfTurn_17 : decode m_Need_aheadOfTurn.2.1 17 = .ok (.bipush 7, 2) := by decide +kernel
theorem d_Need_aheadOfTurn_19 : decode m_Need_aheadOfTurn.2.1 19 = .ok (.if_icmp .eq 18, 3) := by decide +kernel
theorem d_Need_aheadOfTurn_22 : decode m_Need_aheadOfTurn.2.1 22 = .ok (.iload_n 3, 1) := by decide +kernel
theorem d_Need_aheadOfTurn_23 : decode m_Need_aheadOfTurn.2.1 23 = .ok (.iload 4, 2) := by decide +kernel
theorem d_Need_aheadOfTurn_25 : decode m_Need_aheadOfTurn.2.1 25 = .ok (.iconst 1, 1) := by decide +kernel
theorem d_Need_aheadOfTurn_26 : decode m_Need_aheadOfTurn.2.1 26 = .ok (.iload_n 2, 1) := by decide +kernel
theorem d_Need_aheadOfTurn_27 : decode m_Need_aheadOfTurn.2.1 27 = .ok (.iload 4, 2) := by decide +kernel
theorem d_Need_aheadOfTurn_29 : decode m_Need_aheadOfTurn.2.1 29 = .ok (.invokestatic 24, 3) := by decide +kernel
theorem d_Need_aheadOfTurn_32 : decode m_Need_aheadOfTurn.2.1 32 = .ok (.ishl, 1) := by decide +kernel
theorem d_Need_aheadOfTurn_33 : decode m_Need_aheadOfTurn.2.1 33 = .ok (.invokestatic 20, 3) := by decide +kernel
theorem d_Need_aheadOfTurn_36 : decode m_Need_aheadOfTurn.2.1 36 = .ok (.istore_n 3, 1) := by decide +kernel
theorem d_Need_aheadOfTurn_37 : decode m_Need_aheadOfTurn.2.1 37 = .ok (.iinc 4 1, 3) := by decide +kernel
theorem d_Need_aheadOfTurn_40 : decode m_Need_aheadOfTurn.2.1 40 = .ok (.goto (-35), 3) := by decide +kernel
theorem d_Need_aheadOfTurn_43 : decode m_Need_aheadOfTurn.2.1 43 = .ok (.iload_n 3, 1) := by decide +kernel
theorem d_Need_aheadOfTurn_44 : decode m_Need_aheadOfTurn.2.1 44 = .ok (.ireturn, 1) := by decide +kernel
theorem d_Net_init_0 : decode m_Net_init.2.1 0 = .ok (.aload_n 0, 1) := by decide +kernel
theorem d_Net_init_1 : decode m_Net_init.2.1 1 = .ok (.invokespecial 3, 3) := by decide +kernel
theorem d_Net_init_4 : decode m_Net_init.2.1 4 = .ok (.aload_n 0, 1) := by decide +kernel
theorem d_Net_init_5 : decode m_Net_init.2.1 5 = .ok (.sipush 150, 3) := by decide +kernel
theorem d_Net_init_8 : decode m_Net_init.2.1 8 = .ok (.anewarray 9, 3) := by decide +kernel
theorem d_Net_init_11 : decode m_Net_init.2.1 11 = .ok (.putfield 11, 3) := by decide +kernel
theorem d_Net_init_14 : decode m_Net_init.2.1 14 = .ok (.aload_n 0, 1) := by decide +kernel
theorem d_Net_init_15 : decode m_Net_init.2.1 15 = .ok (.sipush 256, 3) := by decide +kernel
theorem d_Net_init_18 : decode m_Net_init.2.1 18 = .ok (.newarray .int, 2) := by decide +kernel
theorem d_Net_init_20 : decode m_Net_init.2.1 20 = .ok (.putfield 17, 3) := by decide +kernel
theorem d_Net_init_23 : decode m_Net_init.2.1 23 = .ok (.aload_n 0, 1) := by decide +kernel
theorem d_Net_init_24 : decode m_Net_init.2.1 24 = .ok (.new 21, 3) := by decide +kernel
theorem d_Net_init_27 : decode m_Net_init.2.1 27 = .ok (.dup, 1) := by decide +kernel
theorem d_Net_init_28 : decode m_Net_init.2.1 28 = .ok (.bipush 48, 2) := by decide +kernel
theorem d_Net_init_30 : decode m_Net_init.2.1 30 = .ok (.invokespecial 23, 3) := by decide +kernel
theorem d_Net_init_33 : decode m_Net_init.2.1 33 = .ok (.putfield 26, 3) := by decide +kernel
theorem d_Net_init_36 : decode m_Net_init.2.1 36 = .ok (.aload_n 0, 1) := by decide +kernel
theorem d_Net_init_37 : decode m_Net_init.2.1 37 = .ok (.new 21, 3) := by decide +kernel
theorem d_Net_init_40 : decode m_Net_init.2.1 40 = .ok (.dup, 1) := by decide +kernel
theorem d_Net_init_41 : decode m_Net_init.2.1 41 = .ok (.bipush 48, 2) := by decide +kernel
theorem d_Net_init_43 : decode m_Net_init.2.1 43 = .ok (.invokespecial 23, 3) := by decide +kernel
theorem d_Net_init_46 : decode m_Net_init.2.1 46 = .ok (.putfield 30, 3) := by decide +kernel
theorem d_Net_init_49 : decode m_Net_init.2.1 49 = .ok (.aload_n 0, 1) := by decide +kernel
theorem d_Net_init_50 : decode m_Net_init.2.1 50 = .ok (.new 21, 3) := by decide +kernel
theorem d_Net_init_53 : decode m_Net_init.2.1 53 = .ok (.dup, 1) := by decide +kernel
theorem d_Net_init_54 : decode m_Net_init.2.1 54 = .ok (.bipush 27, 2) := by decide +kernel
theorem d_Net_init_56 : decode m_Net_init.2.1 56 = .ok (.invokespecial 23, 3) := by decide +kernel
theorem d_Net_init_59 : decode m_Net_init.2.1 59 = .ok (.putfield 33, 3) := by decide +kernel
theorem d_Net_init_62 : decode m_Net_init.2.1 62 = .ok (.aload_n 0, 1) := by decide +kernel
theorem d_Net_init_63 : decode m_Net_init.2.1 63 = .ok (.new 21, 3) := by decide +kernel
theorem d_Net_init_66 : decode m_Net_init.2.1 66 = .ok (.dup, 1) := by decide +kernel
theorem d_Net_init_67 : decode m_Net_init.2.1 67 = .ok (.bipush 27, 2) := by decide +kernel
theorem d_Net_init_69 : decode m_Net_init.2.1 69 = .ok (.invokespecial 23, 3) := by decide +kernel
theorem d_Net_init_72 : decode m_Net_init.2.1 72 = .ok (.putfield 36, 3) := by decide +kernel
theorem d_Net_init_75 : decode m_Net_init.2.1 75 = .ok (.aload_n 0, 1) := by decide +kernel
theorem d_Net_init_76 : decode m_Net_init.2.1 76 = .ok (.aload_n 1, 1) := by decide +kernel
theorem d_Net_init_77 : decode m_Net_init.2.1 77 = .ok (.putfield 39, 3) := by decide +kernel
theorem d_Net_init_80 : decode m_Net_init.2.1 80 = .ok (.aload_n 0, 1) := by decide +kernel
theorem d_Net_init_81 : decode m_Net_init.2.1 81 = .ok (.aload_n 2, 1) := by decide +kernel
theorem d_Net_init_82 : decode m_Net_init.2.1 82 = .ok (.putfield 43, 3) := by decide +kernel
theorem d_Net_init_85 : decode m_Net_init.2.1 85 = .ok (.return_, 1) := by decide +kernel
theorem d_Net_at_0 : decode m_Net_at.2.1 0 = .ok (.iload_n 1, 1) := by decide +kernel
theorem d_Net_at_1 : decode m_Net_at.2.1 1 = .ok (.ifCond .lt 27, 3) := by decide +kernel
theorem d_Net_at_4 : decode m_Net_at.2.1 4 = .ok (.iload_n 1, 1) := by decide +kernel
theorem d_Net_at_5 : decode m_Net_at.2.1 5 = .ok (.aload_n 0, 1) := by decide +kernel
theorem d_Net_at_6 : decode m_Net_at.2.1 6 = .ok (.getfield 47, 3) := by decide +kernel
theorem d_Net_at_9 : decode m_Net_at.2.1 9 = .ok (.if_icmp .ge 19, 3) := by decide +kernel
theorem d_Net_at_12 : decode m_Net_at.2.1 12 = .ok (.iload_n 1, 1) := by decide +kernel
theorem d_Net_at_13 : decode m_Net_at.2.1 13 = .ok (.sipush 150, 3) := by decide +kernel
theorem d_Net_at_16 : decode m_Net_at.2.1 16 = .ok (.if_icmp .ge 12, 3) := by decide +kernel
theorem d_Net_at_19 : decode m_Net_at.2.1 19 = .ok (.aload_n 0, 1) := by decide +kernel
theorem d_Net_at_20 : decode m_Net_at.2.1 20 = .ok (.getfield 11, 3) := by decide +kernel
theorem d_Net_at_23 : decode m_Net_at.2.1 23 = .ok (.iload_n 1, 1) := by decide +kernel
theorem d_Net_at_24 : decode m_Net_at.2.1 24 = .ok (.aaload, 1) := by decide +kernel
theorem d_Net_at_25 : decode m_Net_at.2.1 25 = .ok (.goto 4, 3) := by decide +kernel
theorem d_Net_at_28 : decode m_Net_at.2.1 28 = .ok (.aconst_null, 1) := by decide +kernel
theorem d_Net_at_29 : decode m_Net_at.2.1 29 = .ok (.areturn, 1) := by decide +kernel
theorem d_Net_verdict_0 : decode m_Net_verdict.2.1 0 = .ok (.aload_n 0, 1) := by decide +kernel
theorem d_Net_verdict_1 : decode m_Net_verdict.2.1 1 = .ok (.getfield 51, 3) := by decide +kernel
theorem d_Net_verdict_4 : decode m_Net_verdict.2.1 4 = .ok (.bipush (-6), 2) := by decide +kernel
theorem d_Net_verdict_6 : decode m_Net_verdict.2.1 6 = .ok (.if_icmp .eq 5, 3) := by decide +kernel
theorem d_Net_verdict_9 : decode m_Net_verdict.2.1 9 = .ok (.iconst 1, 1) := by decide +kernel
theorem d_Net_verdict_10 : decode m_Net_verdict.2.1 10 = .ok (.ireturn, 1) := by decide +kernel
theorem d_Net_verdict_11 : decode m_Net_verdict.2.1 11 = .ok (.aload_n 0, 1) := by decide +kernel
theorem d_Net_verdict_12 : decode m_Net_verdict.2.1 12 = .ok (.getfield 54, 3) := by decide +kernel
theorem d_Net_verdict_15 : decode m_Net_verdict.2.1 15 = .ok (.ifCond .ne 7, 3) := by decide +kernel
theorem d_Net_verdict_18 : decode m_Net_verdict.2.1 18 = .ok (.iconst 0, 1) := by decide +kernel
theorem d_Net_verdict_19 : decode m_Net_verdict.2.1 19 = .ok (.goto 4, 3) := by decide +kernel
theorem d_Net_verdict_22 : decode m_Net_verdict.2.1 22 = .ok (.iconst 2, 1) := by decide +kernel
theorem d_Net_verdict_23 : decode m_Net_verdict.2.1 23 = .ok (.ireturn, 1) := by decide +kernel
theorem d_Net_begin_0 : decode m_Net_begin.2.1 0 = .ok (.aload_n 0, 1) := by decide +kernel
theorem d_Net_begin_1 : decode m_Net_begin.2.1 1 = .ok (.iconst 0, 1) := by decide +kernel
theorem d_Net_begin_2 : decode m_Net_begin.2.1 2 = .ok (.putfield 47, 3) := by decide +kernel
theorem d_Net_begin_5 : decode m_Net_begin.2.1 5 = .ok (.aload_n 0, 1) := by decide +kernel
theorem d_Net_begin_6 : decode m_Net_begin.2.1 6 = .ok (.bipush (-6), 2) := by decide +kernel
theorem d_Net_begin_8 : decode m_Net_begin.2.1 8 = .ok (.putfield 51, 3) := by decide +kernel
theorem d_Net_begin_11 : decode m_Net_begin.2.1 11 = .ok (.aload_n 0, 1) := by decide +kernel
theorem d_Net_begin_12 : decode m_Net_begin.2.1 12 = .ok (.iconst 0, 1) := by decide +kernel
theorem d_Net_begin_13 : decode m_Net_begin.2.1 13 = .ok (.putfield 57, 3) := by decide +kernel
theorem d_Net_begin_16 : decode m_Net_begin.2.1 16 = .ok (.aload_n 0, 1) := by decide +kernel
theorem d_Net_begin_17 : decode m_Net_begin.2.1 17 = .ok (.iconst 0, 1) := by decide +kernel
theorem d_Net_begin_18 : decode m_Net_begin.2.1 18 = .ok (.putfield 54, 3) := by decide +kernel
theorem d_Net_begin_21 : decode m_Net_begin.2.1 21 = .ok (.aload_n 0, 1) := by decide +kernel
theorem d_Net_begin_22 : decode m_Net_begin.2.1 22 = .ok (.getfield 17, 3) := by decide +kernel
theorem d_Net_begin_25 : decode m_Net_begin.2.1 25 = .ok (.bipush (-6), 2) := by decide +kernel
theorem d_Net_begin_27 : decode m_Net_begin.2.1 27 = .ok (.invokestatic 60, 3) := by decide +kernel
theorem d_Net_begin_30 : decode m_Net_begin.2.1 30 = .ok (.aload_n 0, 1) := by decide +kernel
theorem d_Net_begin_31 : decode m_Net_begin.2.1 31 = .ok (.getfield 26, 3) := by decide +kernel
theorem d_Net_begin_34 : decode m_Net_begin.2.1 34 = .ok (.aload_n 0, 1) := by decide +kernel
theorem d_Net_begin_35 : decode m_Net_begin.2.1 35 = .ok (.getfield 39, 3) := by decide +kernel
theorem d_Net_begin_38 : decode m_Net_begin.2.1 38 = .ok (.getfield 66, 3) := by decide +kernel
theorem d_Net_begin_41 : decode m_Net_begin.2.1 41 = .ok (.invokevirtual 69, 3) := by decide +kernel
theorem d_Net_begin_44 : decode m_Net_begin.2.1 44 = .ok (.aload_n 0, 1) := by decide +kernel
theorem d_Net_begin_45 : decode m_Net_begin.2.1 45 = .ok (.getfield 30, 3) := by decide +kernel
theorem d_Net_begin_48 : decode m_Net_begin.2.1 48 = .ok (.aload_n 0, 1) := by decide +kernel
theorem d_Net_begin_49 : decode m_Net_begin.2.1 49 = .ok (.getfield 39, 3) := by decide +kernel
theorem d_Net_begin_52 : decode m_Net_begin.2.1 52 = .ok (.getfield 73, 3) := by decide +kernel
theorem d_Net_begin_55 : decode m_Net_begin.2.1 55 = .ok (.invokevirtual 69, 3) := by decide +kernel
theorem d_Net_begin_58 : decode m_Net_begin.2.1 58 = .ok (.aload_n 0, 1) := by decide +kernel
theorem d_Net_begin_59 : decode m_Net_begin.2.1 59 = .ok (.invokevirtual 74, 3) := by decide +kernel
theorem d_Net_begin_62 : decode m_Net_begin.2.1 62 = .ok (.aload_n 0, 1) := by decide +kernel
theorem d_Net_begin_63 : decode m_Net_begin.2.1 63 = .ok (.aload_n 0, 1) := by decide +kernel
theorem d_Net_begin_64 : decode m_Net_begin.2.1 64 = .ok (.getfield 39, 3) := by decide +kernel
theorem d_Net_begin_67 : decode m_Net_begin.2.1 67 = .ok (.getfield 77, 3) := by decide +kernel
theorem d_Net_begin_70 : decode m_Net_begin.2.1 70 = .ok (.invokevirtual 80, 3) := by decide +kernel
theorem d_Net_begin_73 : decode m_Net_begin.2.1 73 = .ok (.pop, 1) := by decide +kernel
theorem d_Net_begin_74 : decode m_Net_begin.2.1 74 = .ok (.return_, 1) := by decide +kernel
theorem d_Net_unfold_0 : decode m_Net_unfold.2.1 0 = .ok (.aload_n 0, 1) := by decide +kernel
theorem d_Net_unfold_1 : decode m_Net_unfold.2.1 1 = .ok (.iload_n 1, 1) := by decide +kernel
theorem d_Net_unfold_2 : decode m_Net_unfold.2.1 2 = .ok (.invokevirtual 84, 3) := by decide +kernel
theorem d_Net_unfold_5 : decode m_Net_unfold.2.1 5 = .ok (.astore_n 2, 1) := by decide +kernel
theorem d_Net_unfold_6 : decode m_Net_unfold.2.1 6 = .ok (.aload_n 2, 1) := by decide +kernel
theorem d_Net_unfold_7 : decode m_Net_unfold.2.1 7 = .ok (.ifnonnull 4, 3) := by decide +kernel
theorem d_Net_unfold_10 : decode m_Net_unfold.2.1 10 = .ok (.return_, 1) := by decide +kernel
theorem d_Net_unfold_11 : decode m_Net_unfold.2.1 11 = .ok (.aload_n 0, 1) := by decide +kernel
theorem d_Net_unfold_12 : decode m_Net_unfold.2.1 12 = .ok (.aload_n 0, 1) := by decide +kernel
theorem d_Net_unfold_13 : decode m_Net_unfold.2.1 13 = .ok (.getfield 57, 3) := by decide +kernel
theorem d_Net_unfold_16 : decode m_Net_unfold.2.1 16 = .ok (.aload_n 2, 1) := by decide +kernel
theorem d_Net_unfold_17 : decode m_Net_unfold.2.1 17 = .ok (.getfield 87, 3) := by decide +kernel
theorem d_Net_unfold_20 : decode m_Net_unfold.2.1 20 = .ok (.invokestatic 90, 3) := by decide +kernel
theorem d_Net_unfold_23 : decode m_Net_unfold.2.1 23 = .ok (.putfield 57, 3) := by decide +kernel
theorem d_Net_unfold_26 : decode m_Net_unfold.2.1 26 = .ok (.aload_n 2, 1) := by decide +kernel
theorem d_Net_unfold_27 : decode m_Net_unfold.2.1 27 = .ok (.getfield 96, 3) := by decide +kernel
theorem d_Net_unfold_30 : decode m_Net_unfold.2.1 30 = .ok (.iconst 0, 1) := by decide +kernel
theorem d_Net_unfold_31 : decode m_Net_unfold.2.1 31 = .ok (.invokevirtual 97, 3) := by decide +kernel
theorem d_Net_unfold_34 : decode m_Net_unfold.2.1 34 = .ok (.istore_n 3, 1) := by decide +kernel
theorem d_Net_unfold_35 : decode m_Net_unfold.2.1 35 = .ok (.aload_n 2, 1) := by decide +kernel
theorem d_Net_unfold_36 : decode m_Net_unfold.2.1 36 = .ok (.getfield 100, 3) := by decide +kernel
theorem d_Net_unfold_39 : decode m_Net_unfold.2.1 39 = .ok (.iconst 0, 1) := by decide +kernel
theorem d_Net_unfold_40 : decode m_Net_unfold.2.1 40 = .ok (.invokevirtual 97, 3) := by decide +kernel
theorem d_Net_unfold_43 : decode m_Net_unfold.2.1 43 = .ok (.istore 4, 2) := by decide +kernel
theorem d_Net_unfold_45 : decode m_Net_unfold.2.1 45 = .ok (.iload_n 3, 1) := by decide +kernel
theorem d_Net_unfold_46 : decode m_Net_unfold.2.1 46 = .ok (.bipush (-6), 2) := by decide +kernel
theorem d_Net_unfold_48 : decode m_Net_unfold.2.1 48 = .ok (.if_icmp .ne 42, 3) := by decide +kernel
theorem d_Net_unfold_51 : decode m_Net_unfold.2.1 51 = .ok (.iload 4, 2) := by decide +kernel
theorem d_Net_unfold_53 : decode m_Net_unfold.2.1 53 = .ok (.bipush (-6), 2) := by decide +kernel
theorem d_Net_unfold_55 : decode m_Net_unfold.2.1 55 = .ok (.if_icmp .ne 35, 3) := by decide +kernel
theorem d_Net_unfold_58 : decode m_Net_unfold.2.1 58 = .ok (.aload_n 0, 1) := by decide +kernel
theorem d_Net_unfold_59 : decode m_Net_unfold.2.1 59 = .ok (.getfield 51, 3) := by decide +kernel
theorem d_Net_unfold_62 : decode m_Net_unfold.2.1 62 = .ok (.bipush (-6), 2) := by decide +kernel
theorem d_Net_unfold_64 : decode m_Net_unfold.2.1 64 = .ok (.if_icmp .ne 25, 3) := by decide +kernel
theorem d_Net_unfold_67 : decode m_Net_unfold.2.1 67 = .ok (.aload_n 0, 1) := by decide +kernel
theorem d_Net_unfold_68 : decode m_Net_unfold.2.1 68 = .ok (.getfield 43, 3) := by decide +kernel
theorem d_Net_unfold_71 : decode m_Net_unfold.2.1 71 = .ok (.aload_n 2, 1) := by decide +kernel
theorem d_Net_unfold_72 : decode m_Net_unfold.2.1 72 = .ok (.getfield 101, 3) := by decide +kernel
theorem d_Net_unfold_75 : decode m_Net_unfold.2.1 75 = .ok (.invokevirtual 102, 3) := by decide +kernel
theorem d_Net_unfold_78 : decode m_Net_unfold.2.1 78 = .ok (.ifCond .ne 11, 3) := by decide +kernel
theorem d_Net_unfold_81 : decode m_Net_unfold.2.1 81 = .ok (.aload_n 0, 1) := by decide +kernel
theorem d_Net_unfold_82 : decode m_Net_unfold.2.1 82 = .ok (.aload_n 2, 1) := by decide +kernel
theorem d_Net_unfold_83 : decode m_Net_unfold.2.1 83 = .ok (.getfield 108, 3) := by decide +kernel
theorem d_Net_unfold_86 : decode m_Net_unfold.2.1 86 = .ok (.putfield 51, 3) := by decide +kernel
theorem d_Net_unfold_89 : decode m_Net_unfold.2.1 89 = .ok (.return_, 1) := by decide +kernel
theorem d_Net_unfold_90 : decode m_Net_unfold.2.1 90 = .ok (.aload_n 0, 1) := by decide +kernel
theorem d_Net_unfold_91 : decode m_Net_unfold.2.1 91 = .ok (.aload_n 2, 1) := by decide +kernel
theorem d_Net_unfold_92 : decode m_Net_unfold.2.1 92 = .ok (.iload_n 3, 1) := by decide +kernel
theorem d_Net_unfold_93 : decode m_Net_unfold.2.1 93 = .ok (.invokevirtual 111, 3) := by decide +kernel
theorem d_Net_unfold_96 : decode m_Net_unfold.2.1 96 = .ok (.aload_n 0, 1) := by decide +kernel
theorem d_Net_unfold_97 : decode m_Net_unfold.2.1 97 = .ok (.aload_n 2, 1) := by decide +kernel
theorem d_Net_unfold_98 : decode m_Net_unfold.2.1 98 = .ok (.invokevirtual 115, 3) := by decide +kernel
theorem d_Net_unfold_101 : decode m_Net_unfold.2.1 101 = .ok (.aload_n 0, 1) := by decide +kernel
theorem d_Net_unfold_102 : decode m_Net_unfold.2.1 102 = .ok (.aload_n 2, 1) := by decide +kernel
theorem d_Net_unfold_103 : decode m_Net_unfold.2.1 103 = .ok (.iload 4, 2) := by decide +kernel
theorem d_Net_unfold_105 : decode m_Net_unfold.2.1 105 = .ok (.invokevirtual 111, 3) := by decide +kernel
theorem d_Net_unfold_108 : decode m_Net_unfold.2.1 108 = .ok (.aload_n 0, 1) := by decide +kernel
theorem d_Net_unfold_109 : decode m_Net_unfold.2.1 109 = .ok (.aload_n 2, 1) := by decide +kernel
theorem d_Net_unfold_110 : decode m_Net_unfold.2.1 110 = .ok (.invokevirtual 115, 3) := by decide +kernel
theorem d_Net_unfold_113 : decode m_Net_unfold.2.1 113 = .ok (.iload_n 3, 1) := by decide +kernel
theorem d_Net_unfold_114 : decode m_Net_unfold.2.1 114 = .ok (.bipush (-6), 2) := by decide +kernel
theorem d_Net_unfold_116 : decode m_Net_unfold.2.1 116 = .ok (.if_icmp .eq 36, 3) := by decide +kernel
theorem d_Net_unfold_119 : decode m_Net_unfold.2.1 119 = .ok (.iload 4, 2) := by decide +kernel
theorem d_Net_unfold_121 : decode m_Net_unfold.2.1 121 = .ok (.bipush (-6), 2) := by decide +kernel
theorem d_Net_unfold_123 : decode m_Net_unfold.2.1 123 = .ok (.if_icmp .eq 29, 3) := by decide +kernel
theorem d_Net_unfold_126 : decode m_Net_unfold.2.1 126 = .ok (.aload_n 0, 1) := by decide +kernel
theorem d_Net_unfold_127 : decode m_Net_unfold.2.1 127 = .ok (.aload_n 2, 1) := by decide +kernel
theorem d_Net_unfold_128 : decode m_Net_unfold.2.1 128 = .ok (.iload_n 3, 1) := by decide +kernel
theorem d_Net_unfold_129 : decode m_Net_unfold.2.1 129 = .ok (.iload 4, 2) := by decide +kernel
theorem d_Net_unfold_131 : decode m_Net_unfold.2.1 131 = .ok (.invokevirtual 119, 3) := by decide +kernel
theorem d_Net_unfold_134 : decode m_Net_unfold.2.1 134 = .ok (.aload_n 0, 1) := by decide +kernel
theorem d_Net_unfold_135 : decode m_Net_unfold.2.1 135 = .ok (.aload_n 2, 1) := by decide +kernel
theorem d_Net_unfold_136 : decode m_Net_unfold.2.1 136 = .ok (.invokevirtual 115, 3) := by decide +kernel
theorem d_Net_unfold_139 : decode m_Net_unfold.2.1 139 = .ok (.aload_n 0, 1) := by decide +kernel
theorem d_Net_unfold_140 : decode m_Net_unfold.2.1 140 = .ok (.aload_n 2, 1) := by decide +kernel
theorem d_Net_unfold_141 : decode m_Net_unfold.2.1 141 = .ok (.iload 4, 2) := by decide +kernel
theorem d_Net_unfold_143 : decode m_Net_unfold.2.1 143 = .ok (.iload_n 3, 1) := by decide +kernel
theorem d_Net_unfold_144 : decode m_Net_unfold.2.1 144 = .ok (.invokevirtual 119, 3) := by decide +kernel
theorem d_Net_unfold_147 : decode m_Net_unfold.2.1 147 = .ok (.aload_n 0, 1) := by decide +kernel
theorem d_Net_unfold_148 : decode m_Net_unfold.2.1 148 = .ok (.aload_n 2, 1) := by decide +kernel
theorem d_Net_unfold_149 : decode m_Net_unfold.2.1 149 = .ok (.invokevirtual 115, 3) := by decide +kernel
theorem d_Net_unfold_152 : decode m_Net_unfold.2.1 152 = .ok (.aload_n 2, 1) := by decide +kernel
theorem d_Net_unfold_153 : decode m_Net_unfold.2.1 153 = .ok (.getfield 123, 3) := by decide +kernel
theorem d_Net_unfold_156 : decode m_Net_unfold.2.1 156 = .ok (.ifCond .eq 13, 3) := by decide +kernel
theorem d_Net_unfold_159 : decode m_Net_unfold.2.1 159 = .ok (.aload_n 0, 1) := by decide +kernel
theorem d_Net_unfold_160 : decode m_Net_unfold.2.1 160 = .ok (.dup, 1) := by decide +kernel
theorem d_Net_unfold_161 : decode m_Net_unfold.2.1 161 = .ok (.getfield 54, 3) := by decide +kernel
theorem d_Net_unfold_164 : decode m_Net_unfold.2.1 164 = .ok (.iconst 1, 1) := by decide +kernel
theorem d_Net_unfold_165 : decode m_Net_unfold.2.1 165 = .ok (.iadd, 1) := by decide +kernel
theorem d_Net_unfold_166 : decode m_Net_unfold.2.1 166 = .ok (.putfield 54, 3) := by decide +kernel
theorem d_Net_unfold_169 : decode m_Net_unfold.2.1 169 = .ok (.return_, 1) := by decide +kernel
theorem d_Net_draftNothing_0 : decode m_Net_draftNothing.2.1 0 = .ok (.iload_n 2, 1) := by decide +kernel
theorem d_Net_draftNothing_1 : decode m_Net_draftNothing.2.1 1 = .ok (.iconst 2, 1) := by decide +kernel
theorem d_Net_draftNothing_2 : decode m_Net_draftNothing.2.1 2 = .ok (.isub, 1) := by decide +kernel
theorem d_Net_draftNothing_3 : decode m_Net_draftNothing.2.1 3 = .ok (.istore_n 3, 1) := by decide +kernel
theorem d_Net_draftNothing_4 : decode m_Net_draftNothing.2.1 4 = .ok (.iload_n 3, 1) := by decide +kernel
theorem d_Net_draftNothing_5 : decode m_Net_draftNothing.2.1 5 = .ok (.invokestatic 127, 3) := by decide +kernel
theorem d_Net_draftNothing_8 : decode m_Net_draftNothing.2.1 8 = .ok (.ifCond .eq 20, 3) := by decide +kernel
theorem d_Net_draftNothing_11 : decode m_Net_draftNothing.2.1 11 = .ok (.aload_n 1, 1) := by decide +kernel
theorem d_Net_draftNothing_12 : decode m_Net_draftNothing.2.1 12 = .ok (.getfield 101, 3) := by decide +kernel
theorem d_Net_draftNothing_15 : decode m_Net_draftNothing.2.1 15 = .ok (.iload_n 3, 1) := by decide +kernel
theorem d_Net_draftNothing_16 : decode m_Net_draftNothing.2.1 16 = .ok (.invokestatic 130, 3) := by decide +kernel
theorem d_Net_draftNothing_19 : decode m_Net_draftNothing.2.1 19 = .ok (.sipush 273, 3) := by decide +kernel
theorem d_Net_draftNothing_22 : decode m_Net_draftNothing.2.1 22 = .ok (.invokestatic 135, 3) := by decide +kernel
theorem d_Net_draftNothing_25 : decode m_Net_draftNothing.2.1 25 = .ok (.ifCond .ne 4, 3) := by decide +kernel
theorem d_Net_draftNothing_28 : decode m_Net_draftNothing.2.1 28 = .ok (.return_, 1) := by decide +kernel
theorem d_Net_draftNothing_29 : decode m_Net_draftNothing.2.1 29 = .ok (.aload_n 0, 1) := by decide +kernel
theorem d_Net_draftNothing_30 : decode m_Net_draftNothing.2.1 30 = .ok (.getfield 26, 3) := by decide +kernel
theorem d_Net_draftNothing_33 : decode m_Net_draftNothing.2.1 33 = .ok (.aload_n 1, 1) := by decide +kernel
theorem d_Net_draftNothing_34 : decode m_Net_draftNothing.2.1 34 = .ok (.getfield 96, 3) := by decide +kernel
theorem d_Net_draftNothing_37 : decode m_Net_draftNothing.2.1 37 = .ok (.iload_n 2, 1) := by decide +kernel
theorem d_Net_draftNothing_38 : decode m_Net_draftNothing.2.1 38 = .ok (.invokevirtual 139, 3) := by decide +kernel
theorem d_Net_draftNothing_41 : decode m_Net_draftNothing.2.1 41 = .ok (.aload_n 0, 1) := by decide +kernel
theorem d_Net_draftNothing_42 : decode m_Net_draftNothing.2.1 42 = .ok (.getfield 30, 3) := by decide +kernel
theorem d_Net_draftNothing_45 : decode m_Net_draftNothing.2.1 45 = .ok (.aload_n 1, 1) := by decide +kernel
theorem d_Net_draftNothing_46 : decode m_Net_draftNothing.2.1 46 = .ok (.getfield 100, 3) := by decide +kernel
theorem d_Net_draftNothing_49 : decode m_Net_draftNothing.2.1 49 = .ok (.iload_n 2, 1) := by decide +kernel
theorem d_Net_draftNothing_50 : decode m_Net_draftNothing.2.1 50 = .ok (.invokevirtual 139, 3) := by decide +kernel
theorem d_Net_draftNothing_53 : decode m_Net_draftNothing.2.1 53 = .ok (.aload_n 0, 1) := by decide +kernel
theorem d_Net_draftNothing_54 : decode m_Net_draftNothing.2.1 54 = .ok (.invokevirtual 74, 3) := by decide +kernel
theorem d_Net_draftNothing_57 : decode m_Net_draftNothing.2.1 57 = .ok (.aload_n 0, 1) := by decide +kernel
theorem d_Net_draftNothing_58 : decode m_Net_draftNothing.2.1 58 = .ok (.aload_n 1, 1) := by decide +kernel
theorem d_Net_draftNothing_59 : decode m_Net_draftNothing.2.1 59 = .ok (.getfield 101, 3) := by decide +kernel
theorem d_Net_draftNothing_62 : decode m_Net_draftNothing.2.1 62 = .ok (.iload_n 3, 1) := by decide +kernel
theorem d_Net_draftNothing_63 : decode m_Net_draftNothing.2.1 63 = .ok (.sipush 511, 3) := by decide +kernel
theorem d_Net_draftNothing_66 : decode m_Net_draftNothing.2.1 66 = .ok (.invokestatic 143, 3) := by decide +kernel
theorem d_Net_draftNothing_69 : decode m_Net_draftNothing.2.1 69 = .ok (.bipush 100, 2) := by decide +kernel
theorem d_Net_draftNothing_71 : decode m_Net_draftNothing.2.1 71 = .ok (.iload_n 3, 1) := by decide +kernel
theorem d_Net_draftNothing_72 : decode m_Net_draftNothing.2.1 72 = .ok (.imul, 1) := by decide +kernel
theorem d_Net_draftNothing_73 : decode m_Net_draftNothing.2.1 73 = .ok (.invokevirtual 147, 3) := by decide +kernel
theorem d_Net_draftNothing_76 : decode m_Net_draftNothing.2.1 76 = .ok (.return_, 1) := by decide +kernel
theorem d_Net_draftBegins_0 : decode m_Net_draftBegins.2.1 0 = .ok (.iload_n 2, 1) := by decide +kernel
theorem d_Net_draftBegins_1 : decode m_Net_draftBegins.2.1 1 = .ok (.iconst 2, 1) := by decide +kernel
theorem d_Net_draftBegins_2 : decode m_Net_draftBegins.2.1 2 = .ok (.isub, 1) := by decide +kernel
theorem d_Net_draftBegins_3 : decode m_Net_draftBegins.2.1 3 = .ok (.istore 4, 2) := by decide +kernel
theorem d_Net_draftBegins_5 : decode m_Net_draftBegins.2.1 5 = .ok (.iload 4, 2) := by decide +kernel
theorem d_Net_draftBegins_7 : decode m_Net_draftBegins.2.1 7 = .ok (.invokestatic 127, 3) := by decide +kernel
theorem d_Net_draftBegins_10 : decode m_Net_draftBegins.2.1 10 = .ok (.ifCond .ne 4, 3) := by decide +kernel
theorem d_Net_draftBegins_13 : decode m_Net_draftBegins.2.1 13 = .ok (.return_, 1) := by decide +kernel
theorem d_Net_draftBegins_14 : decode m_Net_draftBegins.2.1 14 = .ok (.aload_n 0, 1) := by decide +kernel
theorem d_Net_draftBegins_15 : decode m_Net_draftBegins.2.1 15 = .ok (.getfield 26, 3) := by decide +kernel
theorem d_Net_draftBegins_18 : decode m_Net_draftBegins.2.1 18 = .ok (.aload_n 1, 1) := by decide +kernel
theorem d_Net_draftBegins_19 : decode m_Net_draftBegins.2.1 19 = .ok (.getfield 96, 3) := by decide +kernel
theorem d_Net_draftBegins_22 : decode m_Net_draftBegins.2.1 22 = .ok (.iload_n 2, 1) := by decide +kernel
theorem d_Net_draftBegins_23 : decode m_Net_draftBegins.2.1 23 = .ok (.iload_n 3, 1) := by decide +kernel
theorem d_Net_draftBegins_24 : decode m_Net_draftBegins.2.1 24 = .ok (.invokevirtual 151, 3) := by decide +kernel
theorem d_Net_draftBegins_27 : decode m_Net_draftBegins.2.1 27 = .ok (.aload_n 0, 1) := by decide +kernel
theorem d_Net_draftBegins_28 : decode m_Net_draftBegins.2.1 28 = .ok (.getfield 30, 3) := by decide +kernel
theorem d_Net_draftBegins_31 : decode m_Net_draftBegins.2.1 31 = .ok (.aload_n 1, 1) := by decide +kernel
theorem d_Net_draftBegins_32 : decode m_Net_draftBegins.2.1 32 = .ok (.getfield 100, 3) := by decide +kernel
theorem d_Net_draftBegins_35 : decode m_Net_draftBegins.2.1 35 = .ok (.iload_n 2, 1) := by decide +kernel
theorem d_Net_draftBegins_36 : decode m_Net_draftBegins.2.1 36 = .ok (.iload_n 3, 1) := by decide +kernel
theorem d_Net_draftBegins_37 : decode m_Net_draftBegins.2.1 37 = .ok (.invokevirtual 151, 3) := by decide +kernel
theorem d_Net_draftBegins_40 : decode m_Net_draftBegins.2.1 40 = .ok (.aload_n 0, 1) := by decide +kernel
theorem d_Net_draftBegins_41 : decode m_Net_draftBegins.2.1 41 = .ok (.invokevirtual 74, 3) := by decide +kernel
theorem d_Net_draftBegins_44 : decode m_Net_draftBegins.2.1 44 = .ok (.sipush 1000, 3) := by decide +kernel
theorem d_Net_draftBegins_47 : decode m_Net_draftBegins.2.1 47 = .ok (.bipush 100, 2) := by decide +kernel
theorem d_Net_draftBegins_49 : decode m_Net_draftBegins.2.1 49 = .ok (.iload 4, 2) := by decide +kernel
theorem d_Net_draftBegins_51 : decode m_Net_draftBegins.2.1 51 = .ok (.imul, 1) := by decide +kernel
theorem d_Net_draftBegins_52 : decode m_Net_draftBegins.2.1 52 = .ok (.iadd, 1) := by decide +kernel
theorem d_Net_draftBegins_53 : decode m_Net_draftBegins.2.1 53 = .ok (.istore 5, 2) := by decide +kernel
theorem d_Net_draftBegins_55 : decode m_Net_draftBegins.2.1 55 = .ok (.iload_n 3, 1) := by decide +kernel
theorem d_Net_draftBegins_56 : decode m_Net_draftBegins.2.1 56 = .ok (.iconst 2, 1) := by decide +kernel
theorem d_Net_draftBegins_57 : decode m_Net_draftBegins.2.1 57 = .ok (.isub, 1) := by decide +kernel
theorem d_Net_draftBegins_58 : decode m_Net_draftBegins.2.1 58 = .ok (.invokestatic 127, 3) := by decide +kernel
theorem d_Net_draftBegins_61 : decode m_Net_draftBegins.2.1 61 = .ok (.ifCond .eq 21, 3) := by decide +kernel
theorem d_Net_draftBegins_64 : decode m_Net_draftBegins.2.1 64 = .ok (.aload_n 0, 1) := by decide +kernel
theorem d_Net_draftBegins_65 : decode m_Net_draftBegins.2.1 65 = .ok (.aload_n 1, 1) := by decide +kernel
theorem d_Net_draftBegins_66 : decode m_Net_draftBegins.2.1 66 = .ok (.getfield 101, 3) := by decide +kernel
theorem d_Net_draftBegins_69 : decode m_Net_draftBegins.2.1 69 = .ok (.iload 4, 2) := by decide +kernel
theorem d_Net_draftBegins_71 : decode m_Net_draftBegins.2.1 71 = .ok (.iload_n 3, 1) := by decide +kernel
theorem d_Net_draftBegins_72 : decode m_Net_draftBegins.2.1 72 = .ok (.iconst 2, 1) := by decide +kernel
theorem d_Net_draftBegins_73 : decode m_Net_draftBegins.2.1 73 = .ok (.isub, 1) := by decide +kernel
theorem d_Net_draftBegins_74 : decode m_Net_draftBegins.2.1 74 = .ok (.iload 5, 2) := by decide +kernel
theorem d_Net_draftBegins_76 : decode m_Net_draftBegins.2.1 76 = .ok (.invokevirtual 155, 3) := by decide +kernel
theorem d_Net_draftBegins_79 : decode m_Net_draftBegins.2.1 79 = .ok (.goto 46, 3) := by decide +kernel
theorem d_Net_draftBegins_82 : decode m_Net_draftBegins.2.1 82 = .ok (.aload_n 1, 1) := by decide +kernel
theorem d_Net_draftBegins_83 : decode m_Net_draftBegins.2.1 83 = .ok (.getfield 101, 3) := by decide +kernel
theorem d_Net_draftBegins_86 : decode m_Net_draftBegins.2.1 86 = .ok (.iload 4, 2) := by decide +kernel
theorem d_Net_draftBegins_88 : decode m_Net_draftBegins.2.1 88 = .ok (.invokestatic 130, 3) := by decide +kernel
theorem d_Net_draftBegins_91 : decode m_Net_draftBegins.2.1 91 = .ok (.istore 6, 2) := by decide +kernel
theorem d_Net_draftBegins_93 : decode m_Net_draftBegins.2.1 93 = .ok (.iload 6, 2) := by decide +kernel
theorem d_Net_draftBegins_95 : decode m_Net_draftBegins.2.1 95 = .ok (.iload_n 3, 1) := by decide +kernel
theorem d_Net_draftBegins_96 : decode m_Net_draftBegins.2.1 96 = .ok (.aload_n 0, 1) := by decide +kernel
theorem d_Net_draftBegins_97 : decode m_Net_draftBegins.2.1 97 = .ok (.getfield 39, 3) := by decide +kernel
theorem d_Net_draftBegins_100 : decode m_Net_draftBegins.2.1 100 = .ok (.getfield 159, 3) := by decide +kernel
theorem d_Net_draftBegins_103 : decode m_Net_draftBegins.2.1 103 = .ok (.invokestatic 163, 3) := by decide +kernel
theorem d_Net_draftBegins_106 : decode m_Net_draftBegins.2.1 106 = .ok (.istore 7, 2) := by decide +kernel
theorem d_Net_draftBegins_108 : decode m_Net_draftBegins.2.1 108 = .ok (.aload_n 0, 1) := by decide +kernel
theorem d_Net_draftBegins_109 : decode m_Net_draftBegins.2.1 109 = .ok (.aload_n 1, 1) := by decide +kernel
theorem d_Net_draftBegins_110 : decode m_Net_draftBegins.2.1 110 = .ok (.getfield 101, 3) := by decide +kernel
theorem d_Net_draftBegins_113 : decode m_Net_draftBegins.2.1 113 = .ok (.iload 4, 2) := by decide +kernel
theorem d_Net_draftBegins_115 : decode m_Net_draftBegins.2.1 115 = .ok (.iload 7, 2) := by decide +kernel
theorem d_Net_draftBegins_117 : decode m_Net_draftBegins.2.1 117 = .ok (.invokestatic 143, 3) := by decide +kernel
theorem d_Net_draftBegins_120 : decode m_Net_draftBegins.2.1 120 = .ok (.iload 5, 2) := by decide +kernel
theorem d_Net_draftBegins_122 : decode m_Net_draftBegins.2.1 122 = .ok (.invokevirtual 147, 3) := by decide +kernel
theorem d_Net_draftBegins_125 : decode m_Net_draftBegins.2.1 125 = .ok (.return_, 1) := by decide +kernel
theorem d_Net_draftTurns_0 : decode m_Net_draftTurns.2.1 0 = .ok (.iload_n 1, 1) := by decide +kernel
theorem d_Net_draftTurns_1 : decode m_Net_draftTurns.2.1 1 = .ok (.iload_n 2, 1) := by decide +kernel
theorem d_Net_draftTurns_2 : decode m_Net_draftTurns.2.1 2 = .ok (.invokestatic 130, 3) := by decide +kernel
theorem d_Net_draftTurns_5 : decode m_Net_draftTurns.2.1 5 = .ok (.istore 5, 2) := by decide +kernel
theorem d_Net_draftTurns_7 : decode m_Net_draftTurns.2.1 7 = .ok (.iload_n 1, 1) := by decide +kernel
theorem d_Net_draftTurns_8 : decode m_Net_draftTurns.2.1 8 = .ok (.iload_n 3, 1) := by decide +kernel
theorem d_Net_draftTurns_9 : decode m_Net_draftTurns.2.1 9 = .ok (.invokestatic 130, 3) := by decide +kernel
theorem d_Net_draftTurns_12 : decode m_Net_draftTurns.2.1 12 = .ok (.istore 6, 2) := by decide +kernel
theorem d_Net_draftTurns_14 : decode m_Net_draftTurns.2.1 14 = .ok (.iconst 0, 1) := by decide +kernel
theorem d_Net_draftTurns_15 : decode m_Net_draftTurns.2.1 15 = .ok (.istore 7, 2) := by decide +kernel
theorem d_Net_draftTurns_17 : decode m_Net_draftTurns.2.1 17 = .ok (.iload 7, 2) := by decide +kernel
theorem d_Net_draftTurns_19 : decode m_Net_draftTurns.2.1 19 = .ok (.bipush 27, 2) := by decide +kernel
theorem d_Net_draftTurns_21 : decode m_Net_draftTurns.2.1 21 = .ok (.if_icmp .ge 57, 3) := by decide +kernel
theorem d_Net_draftTurns_24 : decode m_Net_draftTurns.2.1 24 = .ok (.iload 5, 2) := by decide +kernel
theorem d_Net_draftTurns_26 : decode m_Net_draftTurns.2.1 26 = .ok (.iload 7, 2) := by decide +kernel
theorem d_Net_draftTurns_28 : decode m_Net_draftTurns.2.1 28 = .ok (.invokestatic 167, 3) := by decide +kernel
theorem d_Net_draftTurns_31 : decode m_Net_draftTurns.2.1 31 = .ok (.ifCond .eq 41, 3) := by decide +kernel
theorem d_Net_draftTurns_34 : decode m_Net_draftTurns.2.1 34 = .ok (.iload_n 1, 1) := by decide +kernel
theorem d_Net_draftTurns_35 : decode m_Net_draftTurns.2.1 35 = .ok (.iload_n 2, 1) := by decide +kernel
theorem d_Net_draftTurns_36 : decode m_Net_draftTurns.2.1 36 = .ok (.iload 5, 2) := by decide +kernel
theorem d_Net_draftTurns_38 : decode m_Net_draftTurns.2.1 38 = .ok (.iload 7, 2) := by decide +kernel
theorem d_Net_draftTurns_40 : decode m_Net_draftTurns.2.1 40 = .ok (.invokestatic 170, 3) := by decide +kernel
theorem d_Net_draftTurns_43 : decode m_Net_draftTurns.2.1 43 = .ok (.invokestatic 143, 3) := by decide +kernel
theorem d_Net_draftTurns_46 : decode m_Net_draftTurns.2.1 46 = .ok (.istore 8, 2) := by decide +kernel
theorem d_Net_draftTurns_48 : decode m_Net_draftTurns.2.1 48 = .ok (.aload_n 0, 1) := by decide +kernel
theorem d_Net_draftTurns_49 : decode m_Net_draftTurns.2.1 49 = .ok (.iload 8, 2) := by decide +kernel
theorem d_Net_draftTurns_51 : decode m_Net_draftTurns.2.1 51 = .ok (.iload_n 3, 1) := by decide +kernel
theorem d_Net_draftTurns_52 : decode m_Net_draftTurns.2.1 52 = .ok (.iload 6, 2) := by decide +kernel
theorem d_Net_draftTurns_54 : decode m_Net_draftTurns.2.1 54 = .ok (.iload 5, 2) := by decide +kernel
theorem d_Net_draftTurns_56 : decode m_Net_draftTurns.2.1 56 = .ok (.iload 7, 2) := by decide +kernel
theorem d_Net_draftTurns_58 : decode m_Net_draftTurns.2.1 58 = .ok (.invokestatic 173, 3) := by decide +kernel
theorem d_Net_draftTurns_61 : decode m_Net_draftTurns.2.1 61 = .ok (.invokestatic 143, 3) := by decide +kernel
theorem d_Net_draftTurns_64 : decode m_Net_draftTurns.2.1 64 = .ok (.iload 4, 2) := by decide +kernel
theorem d_Net_draftTurns_66 : decode m_Net_draftTurns.2.1 66 = .ok (.iload 7, 2) := by decide +kernel
theorem d_Net_draftTurns_68 : decode m_Net_draftTurns.2.1 68 = .ok (.iadd, 1) := by decide +kernel
theorem d_Net_draftTurns_69 : decode m_Net_draftTurns.2.1 69 = .ok (.invokevirtual 147, 3) := by decide +kernel
theorem d_Net_draftTurns_72 : decode m_Net_draftTurns.2.1 72 = .ok (.iinc 7 1, 3) := by decide +kernel
theorem d_Net_draftTurns_75 : decode m_Net_draftTurns.2.1 75 = .ok (.goto (-58), 3) := by decide +kernel
theorem d_Net_draftTurns_78 : decode m_Net_draftTurns.2.1 78 = .ok (.return_, 1) := by decide +kernel
theorem d_Net_addDraft_0 : decode m_Net_addDraft.2.1 0 = .ok (.aload_n 0, 1) := by decide +kernel
theorem d_Net_addDraft_1 : decode m_Net_addDraft.2.1 1 = .ok (.getfield 33, 3) := by decide +kernel
theorem d_Net_addDraft_4 : decode m_Net_addDraft.2.1 4 = .ok (.iload_n 1, 1) := by decide +kernel
theorem d_Net_addDraft_5 : decode m_Net_addDraft.2.1 5 = .ok (.invokevirtual 176, 3) := by decide +kernel
theorem d_Net_addDraft_8 : decode m_Net_addDraft.2.1 8 = .ok (.pop, 1) := by decide +kernel
theorem d_Net_addDraft_9 : decode m_Net_addDraft.2.1 9 = .ok (.aload_n 0, 1) := by decide +kernel
theorem d_Net_addDraft_10 : decode m_Net_addDraft.2.1 10 = .ok (.getfield 36, 3) := by decide +kernel
theorem d_Net_addDraft_13 : decode m_Net_addDraft.2.1 13 = .ok (.iload_n 2, 1) := by decide +kernel
theorem d_Net_addDraft_14 : decode m_Net_addDraft.2.1 14 = .ok (.invokevirtual 176, 3) := by decide +kernel
theorem d_Net_addDraft_17 : decode m_Net_addDraft.2.1 17 = .ok (.pop, 1) := by decide +kernel
theorem d_Net_addDraft_18 : decode m_Net_addDraft.2.1 18 = .ok (.return_, 1) := by decide +kernel
theorem d_Net_makeLean_0 : decode m_Net_makeLean.2.1 0 = .ok (.aload_n 0, 1) := by decide +kernel
theorem d_Net_makeLean_1 : decode m_Net_makeLean.2.1 1 = .ok (.getfield 26, 3) := by decide +kernel
theorem d_Net_makeLean_4 : decode m_Net_makeLean.2.1 4 = .ok (.aload_n 0, 1) := by decide +kernel
theorem d_Net_makeLean_5 : decode m_Net_makeLean.2.1 5 = .ok (.getfield 30, 3) := by decide +kernel
theorem d_Net_makeLean_8 : decode m_Net_makeLean.2.1 8 = .ok (.invokevirtual 179, 3) := by decide +kernel
theorem d_Net_makeLean_11 : decode m_Net_makeLean.2.1 11 = .ok (.istore_n 1, 1) := by decide +kernel
theorem d_Net_makeLean_12 : decode m_Net_makeLean.2.1 12 = .ok (.aload_n 0, 1) := by decide +kernel
theorem d_Net_makeLean_13 : decode m_Net_makeLean.2.1 13 = .ok (.getfield 26, 3) := by decide +kernel
theorem d_Net_makeLean_16 : decode m_Net_makeLean.2.1 16 = .ok (.iload_n 1, 1) := by decide +kernel
theorem d_Net_makeLean_17 : decode m_Net_makeLean.2.1 17 = .ok (.invokevirtual 183, 3) := by decide +kernel
theorem d_Net_makeLean_20 : decode m_Net_makeLean.2.1 20 = .ok (.aload_n 0, 1) := by decide +kernel
theorem d_Net_makeLean_21 : decode m_Net_makeLean.2.1 21 = .ok (.getfield 30, 3) := by decide +kernel
theorem d_Net_makeLean_24 : decode m_Net_makeLean.2.1 24 = .ok (.iload_n 1, 1) := by decide +kernel
theorem d_Net_makeLean_25 : decode m_Net_makeLean.2.1 25 = .ok (.invokevirtual 183, 3) := by decide +kernel
theorem d_Net_makeLean_28 : decode m_Net_makeLean.2.1 28 = .ok (.aload_n 0, 1) := by decide +kernel
theorem d_Net_makeLean_29 : decode m_Net_makeLean.2.1 29 = .ok (.aload_n 0, 1) := by decide +kernel
theorem d_Net_makeLean_30 : decode m_Net_makeLean.2.1 30 = .ok (.getfield 26, 3) := by decide +kernel
theorem d_Net_makeLean_33 : decode m_Net_makeLean.2.1 33 = .ok (.invokevirtual 186, 3) := by decide +kernel
theorem d_Net_makeLean_36 : decode m_Net_makeLean.2.1 36 = .ok (.bipush 31, 2) := by decide +kernel
theorem d_Net_makeLean_38 : decode m_Net_makeLean.2.1 38 = .ok (.imul, 1) := by decide +kernel
theorem d_Net_makeLean_39 : decode m_Net_makeLean.2.1 39 = .ok (.aload_n 0, 1) := by decide +kernel
theorem d_Net_makeLean_40 : decode m_Net_makeLean.2.1 40 = .ok (.getfield 30, 3) := by decide +kernel
theorem d_Net_makeLean_43 : decode m_Net_makeLean.2.1 43 = .ok (.invokevirtual 186, 3) := by decide +kernel
theorem d_Net_makeLean_46 : decode m_Net_makeLean.2.1 46 = .ok (.iadd, 1) := by decide +kernel
theorem d_Net_makeLean_47 : decode m_Net_makeLean.2.1 47 = .ok (.putfield 190, 3) := by decide +kernel
theorem d_Net_makeLean_50 : decode m_Net_makeLean.2.1 50 = .ok (.return_, 1) := by decide +kernel
theorem d_Net_settleDrafts_0 : decode m_Net_settleDrafts.2.1 0 = .ok (.aload_n 0, 1) := by decide +kernel
theorem d_Net_settleDrafts_1 : decode m_Net_settleDrafts.2.1 1 = .ok (.getfield 26, 3) := by decide +kernel
theorem d_Net_settleDrafts_4 : decode m_Net_settleDrafts.2.1 4 = .ok (.invokevirtual 192, 3) := by decide +kernel
theorem d_Net_settleDrafts_7 : decode m_Net_settleDrafts.2.1 7 = .ok (.bipush 24, 2) := by decide +kernel
theorem d_Net_settleDrafts_9 : decode m_Net_settleDrafts.2.1 9 = .ok (.if_icmp .gt 15, 3) := by decide +kernel
theorem d_Net_settleDrafts_12 : decode m_Net_settleDrafts.2.1 12 = .ok (.aload_n 0, 1) := by decide +kernel
theorem d_Net_settleDrafts_13 : decode m_Net_settleDrafts.2.1 13 = .ok (.getfield 30, 3) := by decide +kernel
theorem d_Net_settleDrafts_16 : decode m_Net_settleDrafts.2.1 16 = .ok (.invokevirtual 192, 3) := by decide +kernel
theorem d_Net_settleDrafts_19 : decode m_Net_settleDrafts.2.1 19 = .ok (.bipush 24, 2) := by decide +kernel
theorem d_Net_settleDrafts_21 : decode m_Net_settleDrafts.2.1 21 = .ok (.if_icmp .le 7, 3) := by decide +kernel
theorem d_Net_settleDrafts_24 : decode m_Net_settleDrafts.2.1 24 = .ok (.iconst 1, 1) := by decide +kernel
theorem d_Net_settleDrafts_25 : decode m_Net_settleDrafts.2.1 25 = .ok (.goto 4, 3) := by decide +kernel
theorem d_Net_settleDrafts_28 : decode m_Net_settleDrafts.2.1 28 = .ok (.iconst 0, 1) := by decide +kernel
theorem d_Net_settleDrafts_29 : decode m_Net_settleDrafts.2.1 29 = .ok (.istore_n 2, 1) := by decide +kernel
theorem d_Net_settleDrafts_30 : decode m_Net_settleDrafts.2.1 30 = .ok (.iconst 0, 1) := by decide +kernel
theorem d_Net_settleDrafts_31 : decode m_Net_settleDrafts.2.1 31 = .ok (.istore_n 3, 1) := by decide +kernel
theorem d_Net_settleDrafts_32 : decode m_Net_settleDrafts.2.1 32 = .ok (.iload_n 3, 1) := by decide +kernel
theorem d_Net_settleDrafts_33 : decode m_Net_settleDrafts.2.1 33 = .ok (.aload_n 0, 1) := by decide +kernel
theorem d_Net_settleDrafts_34 : decode m_Net_settleDrafts.2.1 34 = .ok (.getfield 33, 3) := by decide +kernel
theorem d_Net_settleDrafts_37 : decode m_Net_settleDrafts.2.1 37 = .ok (.invokevirtual 192, 3) := by decide +kernel
theorem d_Net_settleDrafts_40 : decode m_Net_settleDrafts.2.1 40 = .ok (.if_icmp .ge 94, 3) := by decide +kernel
theorem d_Net_settleDrafts_43 : decode m_Net_settleDrafts.2.1 43 = .ok (.aload_n 0, 1) := by decide +kernel
theorem d_Net_settleDrafts_44 : decode m_Net_settleDrafts.2.1 44 = .ok (.getfield 33, 3) := by decide +kernel
theorem d_Net_settleDrafts_47 : decode m_Net_settleDrafts.2.1 47 = .ok (.iload_n 3, 1) := by decide +kernel
theorem d_Net_settleDrafts_48 : decode m_Net_settleDrafts.2.1 48 = .ok (.invokevirtual 97, 3) := by decide +kernel
theorem d_Net_settleDrafts_51 : decode m_Net_settleDrafts.2.1 51 = .ok (.istore 4, 2) := by decide +kernel
theorem d_Net_settleDrafts_53 : decode m_Net_settleDrafts.2.1 53 = .ok (.aload_n 0, 1) := by decide +kernel
theorem d_Net_settleDrafts_54 : decode m_Net_settleDrafts.2.1 54 = .ok (.getfield 43, 3) := by decide +kernel
theorem d_Net_settleDrafts_57 : decode m_Net_settleDrafts.2.1 57 = .ok (.iload 4, 2) := by decide +kernel
theorem d_Net_settleDrafts_59 : decode m_Net_settleDrafts.2.1 59 = .ok (.invokevirtual 102, 3) := by decide +kernel
theorem d_Net_settleDrafts_62 : decode m_Net_settleDrafts.2.1 62 = .ok (.ifCond .eq 6, 3) := by decide +kernel
theorem d_Net_settleDrafts_65 : decode m_Net_settleDrafts.2.1 65 = .ok (.goto 63, 3) := by decide +kernel
theorem d_Net_settleDrafts_68 : decode m_Net_settleDrafts.2.1 68 = .ok (.iload_n 2, 1) := by decide +kernel
theorem d_Net_settleDrafts_69 : decode m_Net_settleDrafts.2.1 69 = .ok (.ifCond .eq 7, 3) := by decide +kernel
theorem d_Net_settleDrafts_72 : decode m_Net_settleDrafts.2.1 72 = .ok (.aconst_null, 1) := by decide +kernel
theorem d_Net_settleDrafts_73 : decode m_Net_settleDrafts.2.1 73 = .ok (.goto 9, 3) := by decide +kernel
theorem d_Net_settleDrafts_76 : decode m_Net_settleDrafts.2.1 76 = .ok (.aload_n 0, 1) := by decide +kernel
theorem d_Net_settleDrafts_77 : decode m_Net_settleDrafts.2.1 77 = .ok (.iload 4, 2) := by decide +kernel
theorem d_Net_settleDrafts_79 : decode m_Net_settleDrafts.2.1 79 = .ok (.invokevirtual 195, 3) := by decide +kernel
theorem d_Net_settleDrafts_82 : decode m_Net_settleDrafts.2.1 82 = .ok (.astore 5, 2) := by decide +kernel
theorem d_Net_settleDrafts_84 : decode m_Net_settleDrafts.2.1 84 = .ok (.aload 5, 2) := by decide +kernel
theorem d_Net_settleDrafts_86 : decode m_Net_settleDrafts.2.1 86 = .ok (.ifnonnull 15, 3) := by decide +kernel
theorem d_Net_settleDrafts_89 : decode m_Net_settleDrafts.2.1 89 = .ok (.iload_n 2, 1) := by decide +kernel
theorem d_Net_settleDrafts_90 : decode m_Net_settleDrafts.2.1 90 = .ok (.ifCond .ne 11, 3) := by decide +kernel
theorem d_Net_settleDrafts_93 : decode m_Net_settleDrafts.2.1 93 = .ok (.aload_n 0, 1) := by decide +kernel
theorem d_Net_settleDrafts_94 : decode m_Net_settleDrafts.2.1 94 = .ok (.iload 4, 2) := by decide +kernel
theorem d_Net_settleDrafts_96 : decode m_Net_settleDrafts.2.1 96 = .ok (.invokevirtual 80, 3) := by decide +kernel
theorem d_Net_settleDrafts_99 : decode m_Net_settleDrafts.2.1 99 = .ok (.astore 5, 2) := by decide +kernel
theorem d_Net_settleDrafts_101 : decode m_Net_settleDrafts.2.1 101 = .ok (.aload 5, 2) := by decide +kernel
theorem d_Net_settleDrafts_103 : decode m_Net_settleDrafts.2.1 103 = .ok (.ifnonnull 11, 3) := by decide +kernel
theorem d_Net_settleDrafts_106 : decode m_Net_settleDrafts.2.1 106 = .ok (.aload_n 1, 1) := by decide +kernel
theorem d_Net_settleDrafts_107 : decode m_Net_settleDrafts.2.1 107 = .ok (.iconst 1, 1) := by decide +kernel
theorem d_Net_settleDrafts_108 : decode m_Net_settleDrafts.2.1 108 = .ok (.putfield 123, 3) := by decide +kernel
theorem d_Net_settleDrafts_111 : decode m_Net_settleDrafts.2.1 111 = .ok (.goto 17, 3) := by decide +kernel
theorem d_Net_settleDrafts_114 : decode m_Net_settleDrafts.2.1 114 = .ok (.aload_n 1, 1) := by decide +kernel
theorem d_Net_settleDrafts_115 : decode m_Net_settleDrafts.2.1 115 = .ok (.aload 5, 2) := by decide +kernel
theorem d_Net_settleDrafts_117 : decode m_Net_settleDrafts.2.1 117 = .ok (.aload_n 0, 1) := by decide +kernel
theorem d_Net_settleDrafts_118 : decode m_Net_settleDrafts.2.1 118 = .ok (.getfield 36, 3) := by decide +kernel
theorem d_Net_settleDrafts_121 : decode m_Net_settleDrafts.2.1 121 = .ok (.iload_n 3, 1) := by decide +kernel
theorem d_Net_settleDrafts_122 : decode m_Net_settleDrafts.2.1 122 = .ok (.invokevirtual 97, 3) := by decide +kernel
theorem d_Net_settleDrafts_125 : decode m_Net_settleDrafts.2.1 125 = .ok (.invokevirtual 198, 3) := by decide +kernel
theorem d_Net_settleDrafts_128 : decode m_Net_settleDrafts.2.1 128 = .ok (.iinc 3 1, 3) := by decide +kernel
theorem d_Net_settleDrafts_131 : decode m_Net_settleDrafts.2.1 131 = .ok (.goto (-99), 3) := by decide +kernel
theorem d_Net_settleDrafts_134 : decode m_Net_settleDrafts.2.1 134 = .ok (.aload_n 0, 1) := by decide +kernel
theorem d_Net_settleDrafts_135 : decode m_Net_settleDrafts.2.1 135 = .ok (.getfield 33, 3) := by decide +kernel
theorem d_Net_settleDrafts_138 : decode m_Net_settleDrafts.2.1 138 = .ok (.invokevirtual 201, 3) := by decide +kernel
theorem d_Net_settleDrafts_141 : decode m_Net_settleDrafts.2.1 141 = .ok (.aload_n 0, 1) := by decide +kernel
theorem d_Net_settleDrafts_142 : decode m_Net_settleDrafts.2.1 142 = .ok (.getfield 36, 3) := by decide +kernel
theorem d_Net_settleDrafts_145 : decode m_Net_settleDrafts.2.1 145 = .ok (.invokevirtual 201, 3) := by decide +kernel
theorem d_Net_settleDrafts_148 : decode m_Net_settleDrafts.2.1 148 = .ok (.return_, 1) := by decide +kernel
theorem d_Net_bucketOf_0 : decode m_Net_bucketOf.2.1 0 = .ok (.aload_n 0, 1) := by decide +kernel
theorem d_Net_bucketOf_1 : decode m_Net_bucketOf.2.1 1 = .ok (.getfield 190, 3) := by decide +kernel
theorem d_Net_bucketOf_4 : decode m_Net_bucketOf.2.1 4 = .ok (.iload_n 1, 1) := by decide +kernel
theorem d_Net_bucketOf_5 : decode m_Net_bucketOf.2.1 5 = .ok (.bipush 31, 2) := by decide +kernel
theorem d_Net_bucketOf_7 : decode m_Net_bucketOf.2.1 7 = .ok (.imul, 1) := by decide +kernel
theorem d_Net_bucketOf_8 : decode m_Net_bucketOf.2.1 8 = .ok (.ixor, 1) := by decide +kernel
theorem d_Net_bucketOf_9 : decode m_Net_bucketOf.2.1 9 = .ok (.ldc 204, 2) := by decide +kernel
theorem d_Net_bucketOf_11 : decode m_Net_bucketOf.2.1 11 = .ok (.imul, 1) := by decide +kernel
theorem d_Net_bucketOf_12 : decode m_Net_bucketOf.2.1 12 = .ok (.istore_n 2, 1) := by decide +kernel
theorem d_Net_bucketOf_13 : decode m_Net_bucketOf.2.1 13 = .ok (.iload_n 2, 1) := by decide +kernel
theorem d_Net_bucketOf_14 : decode m_Net_bucketOf.2.1 14 = .ok (.bipush 24, 2) := by decide +kernel
theorem d_Net_bucketOf_16 : decode m_Net_bucketOf.2.1 16 = .ok (.iushr, 1) := by decide +kernel
theorem d_Net_bucketOf_17 : decode m_Net_bucketOf.2.1 17 = .ok (.sipush 255, 3) := by decide +kernel
theorem d_Net_bucketOf_20 : decode m_Net_bucketOf.2.1 20 = .ok (.iand, 1) := by decide +kernel
theorem d_Net_bucketOf_21 : decode m_Net_bucketOf.2.1 21 = .ok (.ireturn, 1) := by decide +kernel
theorem d_Net_metBefore_0 : decode m_Net_metBefore.2.1 0 = .ok (.aload_n 0, 1) := by decide +kernel
theorem d_Net_metBefore_1 : decode m_Net_metBefore.2.1 1 = .ok (.iload_n 1, 1) := by decide +kernel
theorem d_Net_metBefore_2 : decode m_Net_metBefore.2.1 2 = .ok (.invokevirtual 205, 3) := by decide +kernel
theorem d_Net_metBefore_5 : decode m_Net_metBefore.2.1 5 = .ok (.istore_n 2, 1) := by decide +kernel
theorem d_Net_metBefore_6 : decode m_Net_metBefore.2.1 6 = .ok (.aload_n 0, 1) := by decide +kernel
theorem d_Net_metBefore_7 : decode m_Net_metBefore.2.1 7 = .ok (.getfield 17, 3) := by decide +kernel
theorem d_Net_metBefore_10 : decode m_Net_metBefore.2.1 10 = .ok (.iload_n 2, 1) := by decide +kernel
theorem d_Net_metBefore_11 : decode m_Net_metBefore.2.1 11 = .ok (.iaload, 1) := by decide +kernel
theorem d_Net_metBefore_12 : decode m_Net_metBefore.2.1 12 = .ok (.istore_n 3, 1) := by decide +kernel
theorem d_Net_metBefore_13 : decode m_Net_metBefore.2.1 13 = .ok (.iconst 0, 1) := by decide +kernel
theorem d_Net_metBefore_14 : decode m_Net_metBefore.2.1 14 = .ok (.istore 4, 2) := by decide +kernel
theorem d_Net_metBefore_16 : decode m_Net_metBefore.2.1 16 = .ok (.iload 4, 2) := by decide +kernel
theorem d_Net_metBefore_18 : decode m_Net_metBefore.2.1 18 = .ok (.sipush 150, 3) := by decide +kernel
theorem d_Net_metBefore_21 : decode m_Net_metBefore.2.1 21 = .ok (.if_icmp .ge 71, 3) := by decide +kernel
theorem d_Net_metBefore_24 : decode m_Net_metBefore.2.1 24 = .ok (.aload_n 0, 1) := by decide +kernel
theorem d_Net_metBefore_25 : decode m_Net_metBefore.2.1 25 = .ok (.iload_n 3, 1) := by decide +kernel
theorem d_Net_metBefore_26 : decode m_Net_metBefore.2.1 26 = .ok (.invokevirtual 84, 3) := by decide +kernel
theorem d_Net_metBefore_29 : decode m_Net_metBefore.2.1 29 = .ok (.astore 5, 2) := by decide +kernel
theorem d_Net_metBefore_31 : decode m_Net_metBefore.2.1 31 = .ok (.aload 5, 2) := by decide +kernel
theorem d_Net_metBefore_33 : decode m_Net_metBefore.2.1 33 = .ok (.ifnonnull 5, 3) := by decide +kernel
theorem d_Net_metBefore_36 : decode m_Net_metBefore.2.1 36 = .ok (.aconst_null, 1) := by decide +kernel
theorem d_Net_metBefore_37 : decode m_Net_metBefore.2.1 37 = .ok (.areturn, 1) := by decide +kernel
theorem d_Net_metBefore_38 : decode m_Net_metBefore.2.1 38 = .ok (.aload 5, 2) := by decide +kernel
theorem d_Net_metBefore_40 : decode m_Net_metBefore.2.1 40 = .ok (.getfield 101, 3) := by decide +kernel
theorem d_Net_metBefore_43 : decode m_Net_metBefore.2.1 43 = .ok (.iload_n 1, 1) := by decide +kernel
theorem d_Net_metBefore_44 : decode m_Net_metBefore.2.1 44 = .ok (.if_icmp .ne 36, 3) := by decide +kernel
theorem d_Net_metBefore_47 : decode m_Net_metBefore.2.1 47 = .ok (.aload 5, 2) := by decide +kernel
theorem d_Net_metBefore_49 : decode m_Net_metBefore.2.1 49 = .ok (.getfield 96, 3) := by decide +kernel
theorem d_Net_metBefore_52 : decode m_Net_metBefore.2.1 52 = .ok (.aload_n 0, 1) := by decide +kernel
theorem d_Net_metBefore_53 : decode m_Net_metBefore.2.1 53 = .ok (.getfield 26, 3) := by decide +kernel
theorem d_Net_metBefore_56 : decode m_Net_metBefore.2.1 56 = .ok (.invokevirtual 208, 3) := by decide +kernel
theorem d_Net_metBefore_59 : decode m_Net_metBefore.2.1 59 = .ok (.ifCond .eq 21, 3) := by decide +kernel
theorem d_Net_metBefore_62 : decode m_Net_metBefore.2.1 62 = .ok (.aload 5, 2) := by decide +kernel
theorem d_Net_metBefore_64 : decode m_Net_metBefore.2.1 64 = .ok (.getfield 100, 3) := by decide +kernel
theorem d_Net_metBefore_67 : decode m_Net_metBefore.2.1 67 = .ok (.aload_n 0, 1) := by decide +kernel
theorem d_Net_metBefore_68 : decode m_Net_metBefore.2.1 68 = .ok (.getfield 30, 3) := by decide +kernel
theorem d_Net_metBefore_71 : decode m_Net_metBefore.2.1 71 = .ok (.invokevirtual 208, 3) := by decide +kernel
theorem d_Net_metBefore_74 : decode m_Net_metBefore.2.1 74 = .ok (.ifCond .eq 6, 3) := by decide +kernel
theorem d_Net_metBefore_77 : decode m_Net_metBefore.2.1 77 = .ok (.aload 5, 2) := by decide +kernel
theorem d_Net_metBefore_79 : decode m_Net_metBefore.2.1 79 = .ok (.areturn, 1) := by decide +kernel
theorem d_Net_metBefore_80 : decode m_Net_metBefore.2.1 80 = .ok (.aload 5, 2) := by decide +kernel
theorem d_Net_metBefore_82 : decode m_Net_metBefore.2.1 82 = .ok (.getfield 212, 3) := by decide +kernel
theorem d_Net_metBefore_85 : decode m_Net_metBefore.2.1 85 = .ok (.istore_n 3, 1) := by decide +kernel
theorem d_Net_metBefore_86 : decode m_Net_metBefore.2.1 86 = .ok (.iinc 4 1, 3) := by decide +kernel
theorem d_Net_metBefore_89 : decode m_Net_metBefore.2.1 89 = .ok (.goto (-73), 3) := by decide +kernel
theorem d_Net_metBefore_92 : decode m_Net_metBefore.2.1 92 = .ok (.aconst_null, 1) := by decide +kernel
theorem d_Net_metBefore_93 : decode m_Net_metBefore.2.1 93 = .ok (.areturn, 1) := by decide +kernel
theorem d_Net_meet_0 : decode m_Net_meet.2.1 0 = .ok (.aload_n 0, 1) := by decide +kernel
theorem d_Net_meet_1 : decode m_Net_meet.2.1 1 = .ok (.getfield 47, 3) := by decide +kernel
theorem d_Net_meet_4 : decode m_Net_meet.2.1 4 = .ok (.ifCond .lt 13, 3) := by decide +kernel
theorem d_Net_meet_7 : decode m_Net_meet.2.1 7 = .ok (.aload_n 0, 1) := by decide +kernel
theorem d_Net_meet_8 : decode m_Net_meet.2.1 8 = .ok (.getfield 47, 3) := by decide +kernel
theorem d_Net_meet_11 : decode m_Net_meet.2.1 11 = .ok (.sipush 150, 3) := by decide +kernel
theorem d_Net_meet_14 : decode m_Net_meet.2.1 14 = .ok (.if_icmp .lt 5, 3) := by decide +kernel
theorem d_Net_meet_17 : decode m_Net_meet.2.1 17 = .ok (.aconst_null, 1) := by decide +kernel
theorem d_Net_meet_18 : decode m_Net_meet.2.1 18 = .ok (.areturn, 1) := by decide +kernel
theorem d_Net_meet_19 : decode m_Net_meet.2.1 19 = .ok (.aload_n 0, 1) := by decide +kernel
theorem d_Net_meet_20 : decode m_Net_meet.2.1 20 = .ok (.getfield 11, 3) := by decide +kernel
theorem d_Net_meet_23 : decode m_Net_meet.2.1 23 = .ok (.aload_n 0, 1) := by decide +kernel
theorem d_Net_meet_24 : decode m_Net_meet.2.1 24 = .ok (.getfield 47, 3) := by decide +kernel
theorem d_Net_meet_27 : decode m_Net_meet.2.1 27 = .ok (.aaload, 1) := by decide +kernel
theorem d_Net_meet_28 : decode m_Net_meet.2.1 28 = .ok (.astore_n 2, 1) := by decide +kernel
theorem d_Net_meet_29 : decode m_Net_meet.2.1 29 = .ok (.aload_n 2, 1) := by decide +kernel
theorem d_Net_meet_30 : decode m_Net_meet.2.1 30 = .ok (.ifnonnull 25, 3) := by decide +kernel
theorem d_Net_meet_33 : decode m_Net_meet.2.1 33 = .ok (.new 9, 3) := by decide +kernel
theorem d_Net_meet_36 : decode m_Net_meet.2.1 36 = .ok (.dup, 1) := by decide +kernel
theorem d_Net_meet_37 : decode m_Net_meet.2.1 37 = .ok (.aload_n 0, 1) := by decide +kernel
theorem d_Net_meet_38 : decode m_Net_meet.2.1 38 = .ok (.getfield 47, 3) := by decide +kernel
theorem d_Net_meet_41 : decode m_Net_meet.2.1 41 = .ok (.invokespecial 215, 3) := by decide +kernel
theorem d_Net_meet_44 : decode m_Net_meet.2.1 44 = .ok (.astore_n 2, 1) := by decide +kernel
theorem d_Net_meet_45 : decode m_Net_meet.2.1 45 = .ok (.aload_n 0, 1) := by decide +kernel
theorem d_Net_meet_46 : decode m_Net_meet.2.1 46 = .ok (.getfield 11, 3) := by decide +kernel
theorem d_Net_meet_49 : decode m_Net_meet.2.1 49 = .ok (.aload_n 0, 1) := by decide +kernel
theorem d_Net_meet_50 : decode m_Net_meet.2.1 50 = .ok (.getfield 47, 3) := by decide +kernel
theorem d_Net_meet_53 : decode m_Net_meet.2.1 53 = .ok (.aload_n 2, 1) := by decide +kernel
theorem d_Net_meet_54 : decode m_Net_meet.2.1 54 = .ok (.aastore, 1) := by decide +kernel
theorem d_Net_meet_55 : decode m_Net_meet.2.1 55 = .ok (.aload_n 2, 1) := by decide +kernel
theorem d_Net_meet_56 : decode m_Net_meet.2.1 56 = .ok (.iload_n 1, 1) := by decide +kernel
theorem d_Net_meet_57 : decode m_Net_meet.2.1 57 = .ok (.aload_n 0, 1) := by decide +kernel
theorem d_Net_meet_58 : decode m_Net_meet.2.1 58 = .ok (.getfield 26, 3) := by decide +kernel
theorem d_Net_meet_61 : decode m_Net_meet.2.1 61 = .ok (.aload_n 0, 1) := by decide +kernel
theorem d_Net_meet_62 : decode m_Net_meet.2.1 62 = .ok (.getfield 30, 3) := by decide +kernel
theorem d_Net_meet_65 : decode m_Net_meet.2.1 65 = .ok (.invokevirtual 216, 3) := by decide +kernel
theorem d_Net_meet_68 : decode m_Net_meet.2.1 68 = .ok (.aload_n 0, 1) := by decide +kernel
theorem d_Net_meet_69 : decode m_Net_meet.2.1 69 = .ok (.iload_n 1, 1) := by decide +kernel
theorem d_Net_meet_70 : decode m_Net_meet.2.1 70 = .ok (.invokevirtual 205, 3) := by decide +kernel
theorem d_Net_meet_73 : decode m_Net_meet.2.1 73 = .ok (.istore_n 3, 1) := by decide +kernel
theorem d_Net_meet_74 : decode m_Net_meet.2.1 74 = .ok (.aload_n 2, 1) := by decide +kernel
theorem d_Net_meet_75 : decode m_Net_meet.2.1 75 = .ok (.aload_n 0, 1) := by decide +kernel
theorem d_Net_meet_76 : decode m_Net_meet.2.1 76 = .ok (.getfield 17, 3) := by decide +kernel
theorem d_Net_meet_79 : decode m_Net_meet.2.1 79 = .ok (.iload_n 3, 1) := by decide +kernel
theorem d_Net_meet_80 : decode m_Net_meet.2.1 80 = .ok (.iaload, 1) := by decide +kernel
theorem d_Net_meet_81 : decode m_Net_meet.2.1 81 = .ok (.putfield 212, 3) := by decide +kernel
theorem d_Net_meet_84 : decode m_Net_meet.2.1 84 = .ok (.aload_n 0, 1) := by decide +kernel
theorem d_Net_meet_85 : decode m_Net_meet.2.1 85 = .ok (.getfield 17, 3) := by decide +kernel
theorem d_Net_meet_88 : decode m_Net_meet.2.1 88 = .ok (.iload_n 3, 1) := by decide +kernel
theorem d_Net_meet_89 : decode m_Net_meet.2.1 89 = .ok (.aload_n 0, 1) := by decide +kernel
theorem d_Net_meet_90 : decode m_Net_meet.2.1 90 = .ok (.getfield 47, 3) := by decide +kernel
theorem d_Net_meet_93 : decode m_Net_meet.2.1 93 = .ok (.iastore, 1) := by decide +kernel
theorem d_Net_meet_94 : decode m_Net_meet.2.1 94 = .ok (.aload_n 0, 1) := by decide +kernel
theorem d_Net_meet_95 : decode m_Net_meet.2.1 95 = .ok (.dup, 1) := by decide +kernel
theorem d_Net_meet_96 : decode m_Net_meet.2.1 96 = .ok (.getfield 47, 3) := by decide +kernel
theorem d_Net_meet_99 : decode m_Net_meet.2.1 99 = .ok (.iconst 1, 1) := by decide +kernel
theorem d_Net_meet_100 : decode m_Net_meet.2.1 100 = .ok (.iadd, 1) := by decide +kernel
theorem d_Net_meet_101 : decode m_Net_meet.2.1 101 = .ok (.putfield 47, 3) := by decide +kernel
theorem d_Net_meet_104 : decode m_Net_meet.2.1 104 = .ok (.aload_n 2, 1) := by decide +kernel
theorem d_Net_meet_105 : decode m_Net_meet.2.1 105 = .ok (.areturn, 1) := by decide +kernel
theorem d_Node_init_0 : decode m_Node_init.2.1 0 = .ok (.aload_n 0, 1) := by decide +kernel
theorem d_Node_init_1 : decode m_Node_init.2.1 1 = .ok (.invokespecial 3, 3) := by decide +kernel
theorem d_Node_init_4 : decode m_Node_init.2.1 4 = .ok (.aload_n 0, 1) := by decide +kernel
theorem d_Node_init_5 : decode m_Node_init.2.1 5 = .ok (.new 9, 3) := by decide +kernel
theorem d_Node_init_8 : decode m_Node_init.2.1 8 = .ok (.dup, 1) := by decide +kernel
theorem d_Node_init_9 : decode m_Node_init.2.1 9 = .ok (.bipush 24, 2) := by decide +kernel
theorem d_Node_init_11 : decode m_Node_init.2.1 11 = .ok (.invokespecial 11, 3) := by decide +kernel
theorem d_Node_init_14 : decode m_Node_init.2.1 14 = .ok (.putfield 14, 3) := by decide +kernel
theorem d_Node_init_17 : decode m_Node_init.2.1 17 = .ok (.aload_n 0, 1) := by decide +kernel
theorem d_Node_init_18 : decode m_Node_init.2.1 18 = .ok (.new 9, 3) := by decide +kernel
theorem d_Node_init_21 : decode m_Node_init.2.1 21 = .ok (.dup, 1) := by decide +kernel
theorem d_Node_init_22 : decode m_Node_init.2.1 22 = .ok (.bipush 24, 2) := by decide +kernel
theorem d_Node_init_24 : decode m_Node_init.2.1 24 = .ok (.invokespecial 11, 3) := by decide +kernel
theorem d_Node_init_27 : decode m_Node_init.2.1 27 = .ok (.putfield 20, 3) := by decide +kernel
theorem d_Node_init_30 : decode m_Node_init.2.1 30 = .ok (.aload_n 0, 1) := by decide +kernel
theorem d_Node_init_31 : decode m_Node_init.2.1 31 = .ok (.new 9, 3) := by decide +kernel
theorem d_Node_init_34 : decode m_Node_init.2.1 34 = .ok (.dup, 1) := by decide +kernel
theorem d_Node_init_35 : decode m_Node_init.2.1 35 = .ok (.bipush 56, 2) := by decide +kernel
theorem d_Node_init_37 : decode m_Node_init.2.1 37 = .ok (.invokespecial 11, 3) := by decide +kernel
theorem d_Node_init_40 : decode m_Node_init.2.1 40 = .ok (.putfield 23, 3) := by decide +kernel
theorem d_Node_init_43 : decode m_Node_init.2.1 43 = .ok (.aload_n 0, 1) := by decide +kernel
theorem d_Node_init_44 : decode m_Node_init.2.1 44 = .ok (.new 9, 3) := by decide +kernel
theorem d_Node_init_47 : decode m_Node_init.2.1 47 = .ok (.dup, 1) := by decide +kernel
theorem d_Node_init_48 : decode m_Node_init.2.1 48 = .ok (.bipush 56, 2) := by decide +kernel
theorem d_Node_init_50 : decode m_Node_init.2.1 50 = .ok (.invokespecial 11, 3) := by decide +kernel
theorem d_Node_init_53 : decode m_Node_init.2.1 53 = .ok (.putfield 26, 3) := by decide +kernel
theorem d_Node_init_56 : decode m_Node_init.2.1 56 = .ok (.aload_n 0, 1) := by decide +kernel
theorem d_Node_init_57 : decode m_Node_init.2.1 57 = .ok (.iload_n 1, 1) := by decide +kernel
theorem d_Node_init_58 : decode m_Node_init.2.1 58 = .ok (.putfield 29, 3) := by decide +kernel
theorem d_Node_init_61 : decode m_Node_init.2.1 61 = .ok (.return_, 1) := by decide +kernel
theorem d_Node_start_0 : decode m_Node_start.2.1 0 = .ok (.aload_n 0, 1) := by decide +kernel
theorem d_Node_start_1 : decode m_Node_start.2.1 1 = .ok (.getfield 14, 3) := by decide +kernel
theorem d_Node_start_4 : decode m_Node_start.2.1 4 = .ok (.aload_n 2, 1) := by decide +kernel
theorem d_Node_start_5 : decode m_Node_start.2.1 5 = .ok (.invokevirtual 33, 3) := by decide +kernel
theorem d_Node_start_8 : decode m_Node_start.2.1 8 = .ok (.aload_n 0, 1) := by decide +kernel
theorem d_Node_start_9 : decode m_Node_start.2.1 9 = .ok (.getfield 20, 3) := by decide +kernel
theorem d_Node_start_12 : decode m_Node_start.2.1 12 = .ok (.aload_n 3, 1) := by decide +kernel
theorem d_Node_start_13 : decode m_Node_start.2.1 13 = .ok (.invokevirtual 33, 3) := by decide +kernel
theorem d_Node_start_16 : decode m_Node_start.2.1 16 = .ok (.aload_n 0, 1) := by decide +kernel
theorem d_Node_start_17 : decode m_Node_start.2.1 17 = .ok (.getfield 23, 3) := by decide +kernel
theorem d_Node_start_20 : decode m_Node_start.2.1 20 = .ok (.invokevirtual 37, 3) := by decide +kernel
theorem d_Node_start_23 : decode m_Node_start.2.1 23 = .ok (.aload_n 0, 1) := by decide +kernel
theorem d_Node_start_24 : decode m_Node_start.2.1 24 = .ok (.getfield 26, 3) := by decide +kernel
theorem d_Node_start_27 : decode m_Node_start.2.1 27 = .ok (.invokevirtual 37, 3) := by decide +kernel
theorem d_Node_start_30 : decode m_Node_start.2.1 30 = .ok (.aload_n 0, 1) := by decide +kernel
theorem d_Node_start_31 : decode m_Node_start.2.1 31 = .ok (.iload_n 1, 1) := by decide +kernel
theorem d_Node_start_32 : decode m_Node_start.2.1 32 = .ok (.putfield 40, 3) := by decide +kernel
theorem d_Node_start_35 : decode m_Node_start.2.1 35 = .ok (.aload_n 0, 1) := by decide +kernel
theorem d_Node_start_36 : decode m_Node_start.2.1 36 = .ok (.iconst 0, 1) := by decide +kernel
theorem d_Node_start_37 : decode m_Node_start.2.1 37 = .ok (.putfield 43, 3) := by decide +kernel
theorem d_Node_start_40 : decode m_Node_start.2.1 40 = .ok (.aload_n 0, 1) := by decide +kernel
theorem d_Node_start_41 : decode m_Node_start.2.1 41 = .ok (.bipush (-6), 2) := by decide +kernel
theorem d_Node_start_43 : decode m_Node_start.2.1 43 = .ok (.putfield 46, 3) := by decide +kernel
theorem d_Node_start_46 : decode m_Node_start.2.1 46 = .ok (.aload_n 0, 1) := by decide +kernel
theorem d_Node_start_47 : decode m_Node_start.2.1 47 = .ok (.bipush (-6), 2) := by decide +kernel
theorem d_Node_start_49 : decode m_Node_start.2.1 49 = .ok (.putfield 49, 3) := by decide +kernel
theorem d_Node_start_52 : decode m_Node_start.2.1 52 = .ok (.aload_n 0, 1) := by decide +kernel
theorem d_Node_start_53 : decode m_Node_start.2.1 53 = .ok (.iconst 0, 1) := by decide +kernel
theorem d_Node_start_54 : decode m_Node_start.2.1 54 = .ok (.putfield 52, 3) := by decide +kernel
theorem d_Node_start_57 : decode m_Node_start.2.1 57 = .ok (.return_, 1) := by decide +kernel
theorem d_Node_addMove_0 : decode m_Node_addMove.2.1 0 = .ok (.aload_n 1, 1) := by decide +kernel
theorem d_Node_addMove_1 : decode m_Node_addMove.2.1 1 = .ok (.getfield 46, 3) := by decide +kernel
theorem d_Node_addMove_4 : decode m_Node_addMove.2.1 4 = .ok (.bipush (-6), 2) := by decide +kernel
theorem d_Node_addMove_6 : decode m_Node_addMove.2.1 6 = .ok (.if_icmp .ne 33, 3) := by decide +kernel
theorem d_Node_addMove_9 : decode m_Node_addMove.2.1 9 = .ok (.aload_n 1, 1) := by decide +kernel
theorem d_Node_addMove_10 : decode m_Node_addMove.2.1 10 = .ok (.getfield 29, 3) := by decide +kernel
theorem d_Node_addMove_13 : decode m_Node_addMove.2.1 13 = .ok (.ifCond .eq 26, 3) := by decide +kernel
theorem d_Node_addMove_16 : decode m_Node_addMove.2.1 16 = .ok (.aload_n 1, 1) := by decide +kernel
theorem d_Node_addMove_17 : decode m_Node_addMove.2.1 17 = .ok (.aload_n 0, 1) := by decide +kernel
theorem d_Node_addMove_18 : decode m_Node_addMove.2.1 18 = .ok (.getfield 29, 3) := by decide +kernel
theorem d_Node_addMove_21 : decode m_Node_addMove.2.1 21 = .ok (.putfield 46, 3) := by decide +kernel
theorem d_Node_addMove_24 : decode m_Node_addMove.2.1 24 = .ok (.aload_n 1, 1) := by decide +kernel
theorem d_Node_addMove_25 : decode m_Node_addMove.2.1 25 = .ok (.iload_n 2, 1) := by decide +kernel
theorem d_Node_addMove_26 : decode m_Node_addMove.2.1 26 = .ok (.putfield 49, 3) := by decide +kernel
theorem d_Node_addMove_29 : decode m_Node_addMove.2.1 29 = .ok (.aload_n 1, 1) := by decide +kernel
theorem d_Node_addMove_30 : decode m_Node_addMove.2.1 30 = .ok (.aload_n 0, 1) := by decide +kernel
theorem d_Node_addMove_31 : decode m_Node_addMove.2.1 31 = .ok (.getfield 43, 3) := by decide +kernel
theorem d_Node_addMove_34 : decode m_Node_addMove.2.1 34 = .ok (.iconst 1, 1) := by decide +kernel
theorem d_Node_addMove_35 : decode m_Node_addMove.2.1 35 = .ok (.iadd, 1) := by decide +kernel
theorem d_Node_addMove_36 : decode m_Node_addMove.2.1 36 = .ok (.putfield 43, 3) := by decide +kernel
theorem d_Node_addMove_39 : decode m_Node_addMove.2.1 39 = .ok (.aload_n 0, 1) := by decide +kernel
theorem d_Node_addMove_40 : decode m_Node_addMove.2.1 40 = .ok (.getfield 23, 3) := by decide +kernel
theorem d_Node_addMove_43 : decode m_Node_addMove.2.1 43 = .ok (.aload_n 1, 1) := by decide +kernel
theorem d_Node_addMove_44 : decode m_Node_addMove.2.1 44 = .ok (.getfield 29, 3) := by decide +kernel
theorem d_Node_addMove_47 : decode m_Node_addMove.2.1 47 = .ok (.invokevirtual 56, 3) := by decide +kernel
theorem d_Node_addMove_50 : decode m_Node_addMove.2.1 50 = .ok (.pop, 1) := by decide +kernel
theorem d_Node_addMove_51 : decode m_Node_addMove.2.1 51 = .ok (.aload_n 0, 1) := by decide +kernel
theorem d_Node_addMove_52 : decode m_Node_addMove.2.1 52 = .ok (.getfield 26, 3) := by decide +kernel
theorem d_Node_addMove_55 : decode m_Node_addMove.2.1 55 = .ok (.iload_n 2, 1) := by decide +kernel
theorem d_Node_addMove_56 : decode m_Node_addMove.2.1 56 = .ok (.invokevirtual 56, 3) := by decide +kernel
theorem d_Node_addMove_59 : decode m_Node_addMove.2.1 59 = .ok (.pop, 1) := by decide +kernel
theorem d_Node_addMove_60 : decode m_Node_addMove.2.1 60 = .ok (.return_, 1) := by decide +kernel
theorem d_Row_init_0 : decode m_Row_init.2.1 0 = .ok (.aload_n 0, 1) := by decide +kernel
theorem d_Row_init_1 : decode m_Row_init.2.1 1 = .ok (.invokespecial 3, 3) := by decide +kernel
theorem d_Row_init_4 : decode m_Row_init.2.1 4 = .ok (.aload_n 0, 1) := by decide +kernel
theorem d_Row_init_5 : decode m_Row_init.2.1 5 = .ok (.iload_n 1, 1) := by decide +kernel
theorem d_Row_init_6 : decode m_Row_init.2.1 6 = .ok (.iconst 0, 1) := by decide +kernel
theorem d_Row_init_7 : decode m_Row_init.2.1 7 = .ok (.invokestatic 9, 3) := by decide +kernel
theorem d_Row_init_10 : decode m_Row_init.2.1 10 = .ok (.newarray .int, 2) := by decide +kernel
theorem d_Row_init_12 : decode m_Row_init.2.1 12 = .ok (.putfield 15, 3) := by decide +kernel
theorem d_Row_init_15 : decode m_Row_init.2.1 15 = .ok (.return_, 1) := by decide +kernel
theorem d_Row_size_0 : decode m_Row_size.2.1 0 = .ok (.aload_n 0, 1) := by decide +kernel
theorem d_Row_size_1 : decode m_Row_size.2.1 1 = .ok (.getfield 21, 3) := by decide +kernel
theorem d_Row_size_4 : decode m_Row_size.2.1 4 = .ok (.ireturn, 1) := by decide +kernel
theorem d_Row_at_0 : decode m_Row_at.2.1 0 = .ok (.iload_n 1, 1) := by decide +kernel
theorem d_Row_at_1 : decode m_Row_at.2.1 1 = .ok (.ifCond .lt 29, 3) := by decide +kernel
theorem d_Row_at_4 : decode m_Row_at.2.1 4 = .ok (.iload_n 1, 1) := by decide +kernel
theorem d_Row_at_5 : decode m_Row_at.2.1 5 = .ok (.aload_n 0, 1) := by decide +kernel
theorem d_Row_at_6 : decode m_Row_at.2.1 6 = .ok (.getfield 21, 3) := by decide +kernel
theorem d_Row_at_9 : decode m_Row_at.2.1 9 = .ok (.if_icmp .ge 21, 3) := by decide +kernel
theorem d_Row_at_12 : decode m_Row_at.2.1 12 = .ok (.iload_n 1, 1) := by decide +kernel
theorem d_Row_at_13 : decode m_Row_at.2.1 13 = .ok (.aload_n 0, 1) := by decide +kernel
theorem d_Row_at_14 : decode m_Row_at.2.1 14 = .ok (.getfield 15, 3) := by decide +kernel
theorem d_Row_at_17 : decode m_Row_at.2.1 17 = .ok (.arraylength, 1) := by decide +kernel
theorem d_Row_at_18 : decode m_Row_at.2.1 18 = .ok (.if_icmp .ge 12, 3) := by decide +kernel
theorem d_Row_at_21 : decode m_Row_at.2.1 21 = .ok (.aload_n 0, 1) := by decide +kernel
theorem d_Row_at_22 : decode m_Row_at.2.1 22 = .ok (.getfield 15, 3) := by decide +kernel
theorem d_Row_at_25 : decode m_Row_at.2.1 25 = .ok (.iload_n 1, 1) := by decide +kernel
theorem d_Row_at_26 : decode m_Row_at.2.1 26 = .ok (.iaload, 1) := by decide +kernel
theorem d_Row_at_27 : decode m_Row_at.2.1 27 = .ok (.goto 5, 3) := by decide +kernel
theorem d_Row_at_30 : decode m_Row_at.2.1 30 = .ok (.bipush (-6), 2) := by decide +kernel
theorem d_Row_at_32 : decode m_Row_at.2.1 32 = .ok (.ireturn, 1) := by decide +kernel
theorem d_Row_makeEmpty_0 : decode m_Row_makeEmpty.2.1 0 = .ok (.aload_n 0, 1) := by decide +kernel
theorem d_Row_makeEmpty_1 : decode m_Row_makeEmpty.2.1 1 = .ok (.iconst 0, 1) := by decide +kernel
theorem d_Row_makeEmpty_2 : decode m_Row_makeEmpty.2.1 2 = .ok (.putfield 21, 3) := by decide +kernel
theorem d_Row_makeEmpty_5 : decode m_Row_makeEmpty.2.1 5 = .ok (.return_, 1) := by decide +kernel
theorem d_Row_push_0 : decode m_Row_push.2.1 0 = .ok (.aload_n 0, 1) := by decide +kernel
theorem d_Row_push_1 : decode m_Row_push.2.1 1 = .ok (.getfield 21, 3) := by decide +kernel
theorem d_Row_push_4 : decode m_Row_push.2.1 4 = .ok (.ifCond .lt 15, 3) := by decide +kernel
theorem d_Row_push_7 : decode m_Row_push.2.1 7 = .ok (.aload_n 0, 1) := by decide +kernel
theorem d_Row_push_8 : decode m_Row_push.2.1 8 = .ok (.getfield 21, 3) := by decide +kernel
theorem d_Row_push_11 : decode m_Row_push.2.1 11 = .ok (.aload_n 0, 1) := by decide +kernel
theorem d_Row_push_12 : decode m_Row_push.2.1 12 = .ok (.getfield 15, 3) := by decide +kernel
theorem d_Row_push_15 : decode m_Row_push.2.1 15 = .ok (.arraylength, 1) := by decide +kernel
theorem d_Row_push_16 : decode m_Row_push.2.1 16 = .ok (.if_icmp .lt 5, 3) := by decide +kernel
theorem d_Row_push_19 : decode m_Row_push.2.1 19 = .ok (.iconst 0, 1) := by decide +kernel
theorem d_Row_push_20 : decode m_Row_push.2.1 20 = .ok (.ireturn, 1) := by decide +kernel
theorem d_Row_push_21 : decode m_Row_push.2.1 21 = .ok (.aload_n 0, 1) := by decide +kernel
theorem d_Row_push_22 : decode m_Row_push.2.1 22 = .ok (.getfield 15, 3) := by decide +kernel
theorem d_Row_push_25 : decode m_Row_push.2.1 25 = .ok (.aload_n 0, 1) := by decide +kernel
theorem d_Row_push_26 : decode m_Row_push.2.1 26 = .ok (.getfield 21, 3) := by decide +kernel
theorem d_Row_push_29 : decode m_Row_push.2.1 29 = .ok (.iload_n 1, 1) := by decide +kernel
theorem d_Row_push_30 : decode m_Row_push.2.1 30 = .ok (.iastore, 1) := by decide +kernel
theorem d_Row_push_31 : decode m_Row_push.2.1 31 = .ok (.aload_n 0, 1) := by decide +kernel
theorem d_Row_push_32 : decode m_Row_push.2.1 32 = .ok (.dup, 1) := by decide +kernel
theorem d_Row_push_33 : decode m_Row_push.2.1 33 = .ok (.getfield 21, 3) := by decide +kernel
theorem d_Row_push_36 : decode m_Row_push.2.1 36 = .ok (.iconst 1, 1) := by decide +kernel
theorem d_Row_push_37 : decode m_Row_push.2.1 37 = .ok (.iadd, 1) := by decide +kernel
theorem d_Row_push_38 : decode m_Row_push.2.1 38 = .ok (.putfield 21, 3) := by decide +kernel
theorem d_Row_push_41 : decode m_Row_push.2.1 41 = .ok (.iconst 1, 1) := by decide +kernel
theorem d_Row_push_42 : decode m_Row_push.2.1 42 = .ok (.ireturn, 1) := by decide +kernel
theorem d_Row_pushAhead_0 : decode m_Row_pushAhead.2.1 0 = .ok (.aload_n 0, 1) := by decide +kernel
theorem d_Row_pushAhead_1 : decode m_Row_pushAhead.2.1 1 = .ok (.iconst 1, 1) := by decide +kernel
theorem d_Row_pushAhead_2 : decode m_Row_pushAhead.2.1 2 = .ok (.invokevirtual 25, 3) := by decide +kernel
theorem d_Row_pushAhead_5 : decode m_Row_pushAhead.2.1 5 = .ok (.ifCond .eq 11, 3) := by decide +kernel
theorem d_Row_pushAhead_8 : decode m_Row_pushAhead.2.1 8 = .ok (.aload_n 0, 1) := by decide +kernel
theorem d_Row_pushAhead_9 : decode m_Row_pushAhead.2.1 9 = .ok (.getfield 15, 3) := by decide +kernel
theorem d_Row_pushAhead_12 : decode m_Row_pushAhead.2.1 12 = .ok (.arraylength, 1) := by decide +kernel
theorem d_Row_pushAhead_13 : decode m_Row_pushAhead.2.1 13 = .ok (.ifCond .ne 5, 3) := by decide +kernel
theorem d_Row_pushAhead_16 : decode m_Row_pushAhead.2.1 16 = .ok (.iconst 0, 1) := by decide +kernel
theorem d_Row_pushAhead_17 : decode m_Row_pushAhead.2.1 17 = .ok (.ireturn, 1) := by decide +kernel
theorem d_Row_pushAhead_18 : decode m_Row_pushAhead.2.1 18 = .ok (.aload_n 0, 1) := by decide +kernel
theorem d_Row_pushAhead_19 : decode m_Row_pushAhead.2.1 19 = .ok (.getfield 15, 3) := by decide +kernel
theorem d_Row_pushAhead_22 : decode m_Row_pushAhead.2.1 22 = .ok (.iconst 0, 1) := by decide +kernel
theorem d_Row_pushAhead_23 : decode m_Row_pushAhead.2.1 23 = .ok (.iload_n 1, 1) := by decide +kernel
theorem d_Row_pushAhead_24 : decode m_Row_pushAhead.2.1 24 = .ok (.iastore, 1) := by decide +kernel
theorem d_Row_pushAhead_25 : decode m_Row_pushAhead.2.1 25 = .ok (.iconst 1, 1) := by decide +kernel
theorem d_Row_pushAhead_26 : decode m_Row_pushAhead.2.1 26 = .ok (.ireturn, 1) := by decide +kernel
theorem d_Row_putAhead_0 : decode m_Row_putAhead.2.1 0 = .ok (.aload_n 1, 1) := by decide +kernel
theorem d_Row_putAhead_1 : decode m_Row_putAhead.2.1 1 = .ok (.getfield 21, 3) := by decide +kernel
theorem d_Row_putAhead_4 : decode m_Row_putAhead.2.1 4 = .ok (.istore_n 2, 1) := by decide +kernel
theorem d_Row_putAhead_5 : decode m_Row_putAhead.2.1 5 = .ok (.aload_n 0, 1) := by decide +kernel
theorem d_Row_putAhead_6 : decode m_Row_putAhead.2.1 6 = .ok (.iload_n 2, 1) := by decide +kernel
theorem d_Row_putAhead_7 : decode m_Row_putAhead.2.1 7 = .ok (.invokevirtual 25, 3) := by decide +kernel
theorem d_Row_putAhead_10 : decode m_Row_putAhead.2.1 10 = .ok (.ifCond .ne 5, 3) := by decide +kernel
theorem d_Row_putAhead_13 : decode m_Row_putAhead.2.1 13 = .ok (.iconst 0, 1) := by decide +kernel
theorem d_Row_putAhead_14 : decode m_Row_putAhead.2.1 14 = .ok (.ireturn, 1) := by decide +kernel
theorem d_Row_putAhead_15 : decode m_Row_putAhead.2.1 15 = .ok (.iconst 0, 1) := by decide +kernel
theorem d_Row_putAhead_16 : decode m_Row_putAhead.2.1 16 = .ok (.istore_n 3, 1) := by decide +kernel
theorem d_Row_putAhead_17 : decode m_Row_putAhead.2.1 17 = .ok (.iload_n 3, 1) := by decide +kernel
theorem d_Row_putAhead_18 : decode m_Row_putAhead.2.1 18 = .ok (.iload_n 2, 1) := by decide +kernel
theorem d_Row_putAhead_19 : decode m_Row_putAhead.2.1 19 = .ok (.if_icmp .ge 39, 3) := by decide +kernel
theorem d_Row_putAhead_22 : decode m_Row_putAhead.2.1 22 = .ok (.iload_n 3, 1) := by decide +kernel
theorem d_Row_putAhead_23 : decode m_Row_putAhead.2.1 23 = .ok (.aload_n 0, 1) := by decide +kernel
theorem d_Row_putAhead_24 : decode m_Row_putAhead.2.1 24 = .ok (.getfield 15, 3) := by decide +kernel
theorem d_Row_putAhead_27 : decode m_Row_putAhead.2.1 27 = .ok (.arraylength, 1) := by decide +kernel
theorem d_Row_putAhead_28 : decode m_Row_putAhead.2.1 28 = .ok (.if_icmp .ge 30, 3) := by decide +kernel
theorem d_Row_putAhead_31 : decode m_Row_putAhead.2.1 31 = .ok (.iload_n 3, 1) := by decide +kernel
theorem d_Row_putAhead_32 : decode m_Row_putAhead.2.1 32 = .ok (.aload_n 1, 1) := by decide +kernel
theorem d_Row_putAhead_33 : decode m_Row_putAhead.2.1 33 = .ok (.getfield 15, 3) := by decide +kernel
theorem d_Row_putAhead_36 : decode m_Row_putAhead.2.1 36 = .ok (.arraylength, 1) := by decide +kernel
theorem d_Row_putAhead_37 : decode m_Row_putAhead.2.1 37 = .ok (.if_icmp .ge 21, 3) := by decide +kernel
theorem d_Row_putAhead_40 : decode m_Row_putAhead.2.1 40 = .ok (.aload_n 0, 1) := by decide +kernel
theorem d_Row_putAhead_41 : decode m_Row_putAhead.2.1 41 = .ok (.getfield 15, 3) := by decide +kernel
theorem d_Row_putAhead_44 : decode m_Row_putAhead.2.1 44 = .ok (.iload_n 3, 1) := by decide +kernel
theorem d_Row_putAhead_45 : decode m_Row_putAhead.2.1 45 = .ok (.aload_n 1, 1) := by decide +kernel
theorem d_Row_putAhead_46 : decode m_Row_putAhead.2.1 46 = .ok (.getfield 15, 3) := by decide +kernel
theorem d_Row_putAhead_49 : decode m_Row_putAhead.2.1 49 = .ok (.iload_n 3, 1) := by decide +kernel
theorem d_Row_putAhead_50 : decode m_Row_putAhead.2.1 50 = .ok (.iaload, 1) := by decide +kernel
theorem d_Row_putAhead_51 : decode m_Row_putAhead.2.1 51 = .ok (.iastore, 1) := by decide +kernel
theorem d_Row_putAhead_52 : decode m_Row_putAhead.2.1 52 = .ok (.iinc 3 1, 3) := by decide +kernel
theorem d_Row_putAhead_55 : decode m_Row_putAhead.2.1 55 = .ok (.goto (-38), 3) := by decide +kernel
theorem d_Row_putAhead_58 : decode m_Row_putAhead.2.1 58 = .ok (.iconst 1, 1) := by decide +kernel
theorem d_Row_putAhead_59 : decode m_Row_putAhead.2.1 59 = .ok (.ireturn, 1) := by decide +kernel
theorem d_Row_makeRoom_0 : decode m_Row_makeRoom.2.1 0 = .ok (.iload_n 1, 1) := by decide +kernel
theorem d_Row_makeRoom_1 : decode m_Row_makeRoom.2.1 1 = .ok (.ifCond .lt 17, 3) := by decide +kernel
theorem d_Row_makeRoom_4 : decode m_Row_makeRoom.2.1 4 = .ok (.iload_n 1, 1) := by decide +kernel
theorem d_Row_makeRoom_5 : decode m_Row_makeRoom.2.1 5 = .ok (.aload_n 0, 1) := by decide +kernel
theorem d_Row_makeRoom_6 : decode m_Row_makeRoom.2.1 6 = .ok (.getfield 15, 3) := by decide +kernel
theorem d_Row_makeRoom_9 : decode m_Row_makeRoom.2.1 9 = .ok (.arraylength, 1) := by decide +kernel
theorem d_Row_makeRoom_10 : decode m_Row_makeRoom.2.1 10 = .ok (.aload_n 0, 1) := by decide +kernel
theorem d_Row_makeRoom_11 : decode m_Row_makeRoom.2.1 11 = .ok (.getfield 21, 3) := by decide +kernel
theorem d_Row_makeRoom_14 : decode m_Row_makeRoom.2.1 14 = .ok (.isub, 1) := by decide +kernel
theorem d_Row_makeRoom_15 : decode m_Row_makeRoom.2.1 15 = .ok (.if_icmp .le 5, 3) := by decide +kernel
theorem d_Row_makeRoom_18 : decode m_Row_makeRoom.2.1 18 = .ok (.iconst 0, 1) := by decide +kernel
theorem d_Row_makeRoom_19 : decode m_Row_makeRoom.2.1 19 = .ok (.ireturn, 1) := by decide +kernel
theorem d_Row_makeRoom_20 : decode m_Row_makeRoom.2.1 20 = .ok (.aload_n 0, 1) := by decide +kernel
theorem d_Row_makeRoom_21 : decode m_Row_makeRoom.2.1 21 = .ok (.getfield 21, 3) := by decide +kernel
theorem d_Row_makeRoom_24 : decode m_Row_makeRoom.2.1 24 = .ok (.iconst 1, 1) := by decide +kernel
theorem d_Row_makeRoom_25 : decode m_Row_makeRoom.2.1 25 = .ok (.isub, 1) := by decide +kernel
theorem d_Row_makeRoom_26 : decode m_Row_makeRoom.2.1 26 = .ok (.istore_n 2, 1) := by decide +kernel
theorem d_Row_makeRoom_27 : decode m_Row_makeRoom.2.1 27 = .ok (.iload_n 2, 1) := by decide +kernel
theorem d_Row_makeRoom_28 : decode m_Row_makeRoom.2.1 28 = .ok (.ifCond .lt 23, 3) := by decide +kernel
theorem d_Row_makeRoom_31 : decode m_Row_makeRoom.2.1 31 = .ok (.aload_n 0, 1) := by decide +kernel
theorem d_Row_makeRoom_32 : decode m_Row_makeRoom.2.1 32 = .ok (.getfield 15, 3) := by decide +kernel
theorem d_Row_makeRoom_35 : decode m_Row_makeRoom.2.1 35 = .ok (.iload_n 2, 1) := by decide +kernel
theorem d_Row_makeRoom_36 : decode m_Row_makeRoom.2.1 36 = .ok (.iload_n 1, 1) := by decide +kernel
theorem d_Row_makeRoom_37 : decode m_Row_makeRoom.2.1 37 = .ok (.iadd, 1) := by decide +kernel
theorem d_Row_makeRoom_38 : decode m_Row_makeRoom.2.1 38 = .ok (.aload_n 0, 1) := by decide +kernel
theorem d_Row_makeRoom_39 : decode m_Row_makeRoom.2.1 39 = .ok (.getfield 15, 3) := by decide +kernel
theorem d_Row_makeRoom_42 : decode m_Row_makeRoom.2.1 42 = .ok (.iload_n 2, 1) := by decide +kernel
theorem d_Row_makeRoom_43 : decode m_Row_makeRoom.2.1 43 = .ok (.iaload, 1) := by decide +kernel
theorem d_Row_makeRoom_44 : decode m_Row_makeRoom.2.1 44 = .ok (.iastore, 1) := by decide +kernel
theorem d_Row_makeRoom_45 : decode m_Row_makeRoom.2.1 45 = .ok (.iinc 2 (-1), 3) := by decide +kernel
theorem d_Row_makeRoom_48 : decode m_Row_makeRoom.2.1 48 = .ok (.goto (-21), 3) := by decide +kernel
theorem d_Row_makeRoom_51 : decode m_Row_makeRoom.2.1 51 = .ok (.aload_n 0, 1) := by decide +kernel
theorem d_Row_makeRoom_52 : decode m_Row_makeRoom.2.1 52 = .ok (.dup, 1) := by decide +kernel
theorem d_Row_makeRoom_53 : decode m_Row_makeRoom.2.1 53 = .ok (.getfield 21, 3) := by decide +kernel
theorem d_Row_makeRoom_56 : decode m_Row_makeRoom.2.1 56 = .ok (.iload_n 1, 1) := by decide +kernel
theorem d_Row_makeRoom_57 : decode m_Row_makeRoom.2.1 57 = .ok (.iadd, 1) := by decide +kernel
theorem d_Row_makeRoom_58 : decode m_Row_makeRoom.2.1 58 = .ok (.putfield 21, 3) := by decide +kernel
theorem d_Row_makeRoom_61 : decode m_Row_makeRoom.2.1 61 = .ok (.iconst 1, 1) := by decide +kernel
theorem d_Row_makeRoom_62 : decode m_Row_makeRoom.2.1 62 = .ok (.ireturn, 1) := by decide +kernel
theorem d_Row_dropFirst_0 : decode m_Row_dropFirst.2.1 0 = .ok (.iload_n 1, 1) := by decide +kernel
theorem d_Row_dropFirst_1 : decode m_Row_dropFirst.2.1 1 = .ok (.ifCond .le 11, 3) := by decide +kernel
theorem d_Row_dropFirst_4 : decode m_Row_dropFirst.2.1 4 = .ok (.iload_n 1, 1) := by decide +kernel
theorem d_Row_dropFirst_5 : decode m_Row_dropFirst.2.1 5 = .ok (.aload_n 0, 1) := by decide +kernel
theorem d_Row_dropFirst_6 : decode m_Row_dropFirst.2.1 6 = .ok (.getfield 21, 3) := by decide +kernel
theorem d_Row_dropFirst_9 : decode m_Row_dropFirst.2.1 9 = .ok (.if_icmp .le 4, 3) := by decide +kernel
theorem d_Row_dropFirst_12 : decode m_Row_dropFirst.2.1 12 = .ok (.return_, 1) := by decide +kernel
theorem d_Row_dropFirst_13 : decode m_Row_dropFirst.2.1 13 = .ok (.aload_n 0, 1) := by decide +kernel
theorem d_Row_dropFirst_14 : decode m_Row_dropFirst.2.1 14 = .ok (.dup, 1) := by decide +kernel
theorem d_Row_dropFirst_15 : decode m_Row_dropFirst.2.1 15 = .ok (.getfield 21, 3) := by decide +kernel
theorem d_Row_dropFirst_18 : decode m_Row_dropFirst.2.1 18 = .ok (.iload_n 1, 1) := by decide +kernel
theorem d_Row_dropFirst_19 : decode m_Row_dropFirst.2.1 19 = .ok (.isub, 1) := by decide +kernel
theorem d_Row_dropFirst_20 : decode m_Row_dropFirst.2.1 20 = .ok (.putfield 21, 3) := by decide +kernel
theorem d_Row_dropFirst_23 : decode m_Row_dropFirst.2.1 23 = .ok (.iconst 0, 1) := by decide +kernel
theorem d_Row_dropFirst_24 : decode m_Row_dropFirst.2.1 24 = .ok (.istore_n 2, 1) := by decide +kernel
theorem d_Row_dropFirst_25 : decode m_Row_dropFirst.2.1 25 = .ok (.iload_n 2, 1) := by decide +kernel
theorem d_Row_dropFirst_26 : decode m_Row_dropFirst.2.1 26 = .ok (.aload_n 0, 1) := by decide +kernel
theorem d_Row_dropFirst_27 : decode m_Row_dropFirst.2.1 27 = .ok (.getfield 21, 3) := by decide +kernel
theorem d_Row_dropFirst_30 : decode m_Row_dropFirst.2.1 30 = .ok (.if_icmp .ge 23, 3) := by decide +kernel
theorem d_Row_dropFirst_33 : decode m_Row_dropFirst.2.1 33 = .ok (.aload_n 0, 1) := by decide +kernel
theorem d_Row_dropFirst_34 : decode m_Row_dropFirst.2.1 34 = .ok (.getfield 15, 3) := by decide +kernel
theorem d_Row_dropFirst_37 : decode m_Row_dropFirst.2.1 37 = .ok (.iload_n 2, 1) := by decide +kernel
theorem d_Row_dropFirst_38 : decode m_Row_dropFirst.2.1 38 = .ok (.aload_n 0, 1) := by decide +kernel
theorem d_Row_dropFirst_39 : decode m_Row_dropFirst.2.1 39 = .ok (.getfield 15, 3) := by decide +kernel
theorem d_Row_dropFirst_42 : decode m_Row_dropFirst.2.1 42 = .ok (.iload_n 2, 1) := by decide +kernel
theorem d_Row_dropFirst_43 : decode m_Row_dropFirst.2.1 43 = .ok (.iload_n 1, 1) := by decide +kernel
theorem d_Row_dropFirst_44 : decode m_Row_dropFirst.2.1 44 = .ok (.iadd, 1) := by decide +kernel
theorem d_Row_dropFirst_45 : decode m_Row_dropFirst.2.1 45 = .ok (.iaload, 1) := by decide +kernel
theorem d_Row_dropFirst_46 : decode m_Row_dropFirst.2.1 46 = .ok (.iastore, 1) := by decide +kernel
theorem d_Row_dropFirst_47 : decode m_Row_dropFirst.2.1 47 = .ok (.iinc 2 1, 3) := by decide +kernel
theorem d_Row_dropFirst_50 : decode m_Row_dropFirst.2.1 50 = .ok (.goto (-25), 3) := by decide +kernel
theorem d_Row_dropFirst_53 : decode m_Row_dropFirst.2.1 53 = .ok (.return_, 1) := by decide +kernel
theorem d_Row_copy_0 : decode m_Row_copy.2.1 0 = .ok (.aload_n 0, 1) := by decide +kernel
theorem d_Row_copy_1 : decode m_Row_copy.2.1 1 = .ok (.iconst 0, 1) := by decide +kernel
theorem d_Row_copy_2 : decode m_Row_copy.2.1 2 = .ok (.putfield 21, 3) := by decide +kernel
theorem d_Row_copy_5 : decode m_Row_copy.2.1 5 = .ok (.iconst 0, 1) := by decide +kernel
theorem d_Row_copy_6 : decode m_Row_copy.2.1 6 = .ok (.istore_n 2, 1) := by decide +kernel
theorem d_Row_copy_7 : decode m_Row_copy.2.1 7 = .ok (.iload_n 2, 1) := by decide +kernel
theorem d_Row_copy_8 : decode m_Row_copy.2.1 8 = .ok (.aload_n 1, 1) := by decide +kernel
theorem d_Row_copy_9 : decode m_Row_copy.2.1 9 = .ok (.getfield 21, 3) := by decide +kernel
theorem d_Row_copy_12 : decode m_Row_copy.2.1 12 = .ok (.if_icmp .ge 49, 3) := by decide +kernel
theorem d_Row_copy_15 : decode m_Row_copy.2.1 15 = .ok (.iload_n 2, 1) := by decide +kernel
theorem d_Row_copy_16 : decode m_Row_copy.2.1 16 = .ok (.aload_n 1, 1) := by decide +kernel
theorem d_Row_copy_17 : decode m_Row_copy.2.1 17 = .ok (.getfield 15, 3) := by decide +kernel
theorem d_Row_copy_20 : decode m_Row_copy.2.1 20 = .ok (.arraylength, 1) := by decide +kernel
theorem d_Row_copy_21 : decode m_Row_copy.2.1 21 = .ok (.if_icmp .ge 40, 3) := by decide +kernel
theorem d_Row_copy_24 : decode m_Row_copy.2.1 24 = .ok (.iload_n 2, 1) := by decide +kernel
theorem d_Row_copy_25 : decode m_Row_copy.2.1 25 = .ok (.aload_n 0, 1) := by decide +kernel
theorem d_Row_copy_26 : decode m_Row_copy.2.1 26 = .ok (.getfield 15, 3) := by decide +kernel
theorem d_Row_copy_29 : decode m_Row_copy.2.1 29 = .ok (.arraylength, 1) := by decide +kernel
theorem d_Row_copy_30 : decode m_Row_copy.2.1 30 = .ok (.if_icmp .ge 31, 3) := by decide +kernel
theorem d_Row_copy_33 : decode m_Row_copy.2.1 33 = .ok (.aload_n 0, 1) := by decide +kernel
theorem d_Row_copy_34 : decode m_Row_copy.2.1 34 = .ok (.getfield 15, 3) := by decide +kernel
theorem d_Row_copy_37 : decode m_Row_copy.2.1 37 = .ok (.iload_n 2, 1) := by decide +kernel
theorem d_Row_copy_38 : decode m_Row_copy.2.1 38 = .ok (.aload_n 1, 1) := by decide +kernel
theorem d_Row_copy_39 : decode m_Row_copy.2.1 39 = .ok (.getfield 15, 3) := by decide +kernel
theorem d_Row_copy_42 : decode m_Row_copy.2.1 42 = .ok (.iload_n 2, 1) := by decide +kernel
theorem d_Row_copy_43 : decode m_Row_copy.2.1 43 = .ok (.iaload, 1) := by decide +kernel
theorem d_Row_copy_44 : decode m_Row_copy.2.1 44 = .ok (.iastore, 1) := by decide +kernel
theorem d_Row_copy_45 : decode m_Row_copy.2.1 45 = .ok (.aload_n 0, 1) := by decide +kernel
theorem d_Row_copy_46 : decode m_Row_copy.2.1 46 = .ok (.dup, 1) := by decide +kernel
theorem d_Row_copy_47 : decode m_Row_copy.2.1 47 = .ok (.getfield 21, 3) := by decide +kernel
theorem d_Row_copy_50 : decode m_Row_copy.2.1 50 = .ok (.iconst 1, 1) := by decide +kernel
theorem d_Row_copy_51 : decode m_Row_copy.2.1 51 = .ok (.iadd, 1) := by decide +kernel
theorem d_Row_copy_52 : decode m_Row_copy.2.1 52 = .ok (.putfield 21, 3) := by decide +kernel
theorem d_Row_copy_55 : decode m_Row_copy.2.1 55 = .ok (.iinc 2 1, 3) := by decide +kernel
theorem d_Row_copy_58 : decode m_Row_copy.2.1 58 = .ok (.goto (-51), 3) := by decide +kernel
theorem d_Row_copy_61 : decode m_Row_copy.2.1 61 = .ok (.return_, 1) := by decide +kernel
theorem d_Row_add_0 : decode m_Row_add.2.1 0 = .ok (.iconst 0, 1) := by decide +kernel
theorem d_Row_add_1 : decode m_Row_add.2.1 1 = .ok (.istore_n 2, 1) := by decide +kernel
theorem d_Row_add_2 : decode m_Row_add.2.1 2 = .ok (.iload_n 2, 1) := by decide +kernel
theorem d_Row_add_3 : decode m_Row_add.2.1 3 = .ok (.aload_n 1, 1) := by decide +kernel
theorem d_Row_add_4 : decode m_Row_add.2.1 4 = .ok (.getfield 21, 3) := by decide +kernel
theorem d_Row_add_7 : decode m_Row_add.2.1 7 = .ok (.if_icmp .ge 55, 3) := by decide +kernel
theorem d_Row_add_10 : decode m_Row_add.2.1 10 = .ok (.iload_n 2, 1) := by decide +kernel
theorem d_Row_add_11 : decode m_Row_add.2.1 11 = .ok (.aload_n 1, 1) := by decide +kernel
theorem d_Row_add_12 : decode m_Row_add.2.1 12 = .ok (.getfield 15, 3) := by decide +kernel
theorem d_Row_add_15 : decode m_Row_add.2.1 15 = .ok (.arraylength, 1) := by decide +kernel
theorem d_Row_add_16 : decode m_Row_add.2.1 16 = .ok (.if_icmp .ge 46, 3) := by decide +kernel
theorem d_Row_add_19 : decode m_Row_add.2.1 19 = .ok (.aload_n 0, 1) := by decide +kernel
theorem d_Row_add_20 : decode m_Row_add.2.1 20 = .ok (.getfield 21, 3) := by decide +kernel
theorem d_Row_add_23 : decode m_Row_add.2.1 23 = .ok (.aload_n 0, 1) := by decide +kernel
theorem d_Row_add_24 : decode m_Row_add.2.1 24 = .ok (.getfield 15, 3) := by decide +kernel
theorem d_Row_add_27 : decode m_Row_add.2.1 27 = .ok (.arraylength, 1) := by decide +kernel
theorem d_Row_add_28 : decode m_Row_add.2.1 28 = .ok (.if_icmp .ge 34, 3) := by decide +kernel
theorem d_Row_add_31 : decode m_Row_add.2.1 31 = .ok (.aload_n 0, 1) := by decide +kernel
theorem d_Row_add_32 : decode m_Row_add.2.1 32 = .ok (.getfield 15, 3) := by decide +kernel
theorem d_Row_add_35 : decode m_Row_add.2.1 35 = .ok (.aload_n 0, 1) := by decide +kernel
theorem d_Row_add_36 : decode m_Row_add.2.1 36 = .ok (.getfield 21, 3) := by decide +kernel
theorem d_Row_add_39 : decode m_Row_add.2.1 39 = .ok (.aload_n 1, 1) := by decide +kernel
theorem d_Row_add_40 : decode m_Row_add.2.1 40 = .ok (.getfield 15, 3) := by decide +kernel
theorem d_Row_add_43 : decode m_Row_add.2.1 43 = .ok (.iload_n 2, 1) := by decide +kernel
theorem d_Row_add_44 : decode m_Row_add.2.1 44 = .ok (.iaload, 1) := by decide +kernel
theorem d_Row_add_45 : decode m_Row_add.2.1 45 = .ok (.iastore, 1) := by decide +kernel
theorem d_Row_add_46 : decode m_Row_add.2.1 46 = .ok (.aload_n 0, 1) := by decide +kernel
theorem d_Row_add_47 : decode m_Row_add.2.1 47 = .ok (.dup, 1) := by decide +kernel
theorem d_Row_add_48 : decode m_Row_add.2.1 48 = .ok (.getfield 21, 3) := by decide +kernel
theorem d_Row_add_51 : decode m_Row_add.2.1 51 = .ok (.iconst 1, 1) := by decide +kernel
theorem d_Row_add_52 : decode m_Row_add.2.1 52 = .ok (.iadd, 1) := by decide +kernel
theorem d_Row_add_53 : decode m_Row_add.2.1 53 = .ok (.putfield 21, 3) := by decide +kernel
theorem d_Row_add_56 : decode m_Row_add.2.1 56 = .ok (.iinc 2 1, 3) := by decide +kernel
theorem d_Row_add_59 : decode m_Row_add.2.1 59 = .ok (.goto (-57), 3) := by decide +kernel
theorem d_Row_add_62 : decode m_Row_add.2.1 62 = .ok (.return_, 1) := by decide +kernel
theorem d_Row_copyWithout_0 : decode m_Row_copyWithout.2.1 0 = .ok (.aload_n 0, 1) := by decide +kernel
theorem d_Row_copyWithout_1 : decode m_Row_copyWithout.2.1 1 = .ok (.iconst 0, 1) := by decide +kernel
theorem d_Row_copyWithout_2 : decode m_Row_copyWithout.2.1 2 = .ok (.putfield 21, 3) := by decide +kernel
theorem d_Row_copyWithout_5 : decode m_Row_copyWithout.2.1 5 = .ok (.iconst 0, 1) := by decide +kernel
theorem d_Row_copyWithout_6 : decode m_Row_copyWithout.2.1 6 = .ok (.istore_n 3, 1) := by decide +kernel
theorem d_Row_copyWithout_7 : decode m_Row_copyWithout.2.1 7 = .ok (.iload_n 3, 1) := by decide +kernel
theorem d_Row_copyWithout_8 : decode m_Row_copyWithout.2.1 8 = .ok (.aload_n 1, 1) := by decide +kernel
theorem d_Row_copyWithout_9 : decode m_Row_copyWithout.2.1 9 = .ok (.getfield 21, 3) := by decide +kernel
theorem d_Row_copyWithout_12 : decode m_Row_copyWithout.2.1 12 = .ok (.if_icmp .ge 39, 3) := by decide +kernel
theorem d_Row_copyWithout_15 : decode m_Row_copyWithout.2.1 15 = .ok (.iload_n 3, 1) := by decide +kernel
theorem d_Row_copyWithout_16 : decode m_Row_copyWithout.2.1 16 = .ok (.aload_n 1, 1) := by decide +kernel
theorem d_Row_copyWithout_17 : decode m_Row_copyWithout.2.1 17 = .ok (.getfield 15, 3) := by decide +kernel
theorem d_Row_copyWithout_20 : decode m_Row_copyWithout.2.1 20 = .ok (.arraylength, 1) := by decide +kernel
theorem d_Row_copyWithout_21 : decode m_Row_copyWithout.2.1 21 = .ok (.if_icmp .ge 30, 3) := by decide +kernel
theorem d_Row_copyWithout_24 : decode m_Row_copyWithout.2.1 24 = .ok (.aload_n 1, 1) := by decide +kernel
theorem d_Row_copyWithout_25 : decode m_Row_copyWithout.2.1 25 = .ok (.getfield 15, 3) := by decide +kernel
theorem d_Row_copyWithout_28 : decode m_Row_copyWithout.2.1 28 = .ok (.iload_n 3, 1) := by decide +kernel
theorem d_Row_copyWithout_29 : decode m_Row_copyWithout.2.1 29 = .ok (.iaload, 1) := by decide +kernel
theorem d_Row_copyWithout_30 : decode m_Row_copyWithout.2.1 30 = .ok (.iload_n 2, 1) := by decide +kernel
theorem d_Row_copyWithout_31 : decode m_Row_copyWithout.2.1 31 = .ok (.if_icmp .eq 14, 3) := by decide +kernel
theorem d_Row_copyWithout_34 : decode m_Row_copyWithout.2.1 34 = .ok (.aload_n 0, 1) := by decide +kernel
theorem d_Row_copyWithout_35 : decode m_Row_copyWithout.2.1 35 = .ok (.aload_n 1, 1) := by decide +kernel
theorem d_Row_copyWithout_36 : decode m_Row_copyWithout.2.1 36 = .ok (.getfield 15, 3) := by decide +kernel
theorem d_Row_copyWithout_39 : decode m_Row_copyWithout.2.1 39 = .ok (.iload_n 3, 1) := by decide +kernel
theorem d_Row_copyWithout_40 : decode m_Row_copyWithout.2.1 40 = .ok (.iaload, 1) := by decide +kernel
theorem d_Row_copyWithout_41 : decode m_Row_copyWithout.2.1 41 = .ok (.invokevirtual 29, 3) := by decide +kernel
theorem d_Row_copyWithout_44 : decode m_Row_copyWithout.2.1 44 = .ok (.pop, 1) := by decide +kernel
theorem d_Row_copyWithout_45 : decode m_Row_copyWithout.2.1 45 = .ok (.iinc 3 1, 3) := by decide +kernel
theorem d_Row_copyWithout_48 : decode m_Row_copyWithout.2.1 48 = .ok (.goto (-41), 3) := by decide +kernel
theorem d_Row_copyWithout_51 : decode m_Row_copyWithout.2.1 51 = .ok (.return_, 1) := by decide +kernel
theorem d_Row_copyWithAhead_0 : decode m_Row_copyWithAhead.2.1 0 = .ok (.aload_n 0, 1) := by decide +kernel
theorem d_Row_copyWithAhead_1 : decode m_Row_copyWithAhead.2.1 1 = .ok (.iconst 0, 1) := by decide +kernel
theorem d_Row_copyWithAhead_2 : decode m_Row_copyWithAhead.2.1 2 = .ok (.putfield 21, 3) := by decide +kernel
theorem d_Row_copyWithAhead_5 : decode m_Row_copyWithAhead.2.1 5 = .ok (.iconst 0, 1) := by decide +kernel
theorem d_Row_copyWithAhead_6 : decode m_Row_copyWithAhead.2.1 6 = .ok (.istore 4, 2) := by decide +kernel
theorem d_Row_copyWithAhead_8 : decode m_Row_copyWithAhead.2.1 8 = .ok (.iload 4, 2) := by decide +kernel
theorem d_Row_copyWithAhead_10 : decode m_Row_copyWithAhead.2.1 10 = .ok (.aload_n 1, 1) := by decide +kernel
theorem d_Row_copyWithAhead_11 : decode m_Row_copyWithAhead.2.1 11 = .ok (.getfield 21, 3) := by decide +kernel
theorem d_Row_copyWithAhead_14 : decode m_Row_copyWithAhead.2.1 14 = .ok (.if_icmp .ge 48, 3) := by decide +kernel
theorem d_Row_copyWithAhead_17 : decode m_Row_copyWithAhead.2.1 17 = .ok (.iload 4, 2) := by decide +kernel
theorem d_Row_copyWithAhead_19 : decode m_Row_copyWithAhead.2.1 19 = .ok (.aload_n 1, 1) := by decide +kernel
theorem d_Row_copyWithAhead_20 : decode m_Row_copyWithAhead.2.1 20 = .ok (.getfield 15, 3) := by decide +kernel
theorem d_Row_copyWithAhead_23 : decode m_Row_copyWithAhead.2.1 23 = .ok (.arraylength, 1) := by decide +kernel
theorem d_Row_copyWithAhead_24 : decode m_Row_copyWithAhead.2.1 24 = .ok (.if_icmp .ge 38, 3) := by decide +kernel
theorem d_Row_copyWithAhead_27 : decode m_Row_copyWithAhead.2.1 27 = .ok (.aload_n 1, 1) := by decide +kernel
theorem d_Row_copyWithAhead_28 : decode m_Row_copyWithAhead.2.1 28 = .ok (.getfield 15, 3) := by decide +kernel
theorem d_Row_copyWithAhead_31 : decode m_Row_copyWithAhead.2.1 31 = .ok (.iload 4, 2) := by decide +kernel
theorem d_Row_copyWithAhead_33 : decode m_Row_copyWithAhead.2.1 33 = .ok (.iaload, 1) := by decide +kernel
theorem d_Row_copyWithAhead_34 : decode m_Row_copyWithAhead.2.1 34 = .ok (.iload_n 2, 1) := by decide +kernel
theorem d_Row_copyWithAhead_35 : decode m_Row_copyWithAhead.2.1 35 = .ok (.if_icmp .ne 9, 3) := by decide +kernel
theorem d_Row_copyWithAhead_38 : decode m_Row_copyWithAhead.2.1 38 = .ok (.aload_n 0, 1) := by decide +kernel
theorem d_Row_copyWithAhead_39 : decode m_Row_copyWithAhead.2.1 39 = .ok (.iload_n 3, 1) := by decide +kernel
theorem d_Row_copyWithAhead_40 : decode m_Row_copyWithAhead.2.1 40 = .ok (.invokevirtual 29, 3) := by decide +kernel
theorem d_Row_copyWithAhead_43 : decode m_Row_copyWithAhead.2.1 43 = .ok (.pop, 1) := by decide +kernel
theorem d_Row_copyWithAhead_44 : decode m_Row_copyWithAhead.2.1 44 = .ok (.aload_n 0, 1) := by decide +kernel
theorem d_Row_copyWithAhead_45 : decode m_Row_copyWithAhead.2.1 45 = .ok (.aload_n 1, 1) := by decide +kernel
theorem d_Row_copyWithAhead_46 : decode m_Row_copyWithAhead.2.1 46 = .ok (.getfield 15, 3) := by decide +kernel
theorem d_Row_copyWithAhead_49 : decode m_Row_copyWithAhead.2.1 49 = .ok (.iload 4, 2) := by decide +kernel
theorem d_Row_copyWithAhead_51 : decode m_Row_copyWithAhead.2.1 51 = .ok (.iaload, 1) := by decide +kernel
theorem d_Row_copyWithAhead_52 : decode m_Row_copyWithAhead.2.1 52 = .ok (.invokevirtual 29, 3) := by decide +kernel
theorem d_Row_copyWithAhead_55 : decode m_Row_copyWithAhead.2.1 55 = .ok (.pop, 1) := by decide +kernel
theorem d_Row_copyWithAhead_56 : decode m_Row_copyWithAhead.2.1 56 = .ok (.iinc 4 1, 3) := by decide +kernel
theorem d_Row_copyWithAhead_59 : decode m_Row_copyWithAhead.2.1 59 = .ok (.goto (-51), 3) := by decide +kernel
theorem d_Row_copyWithAhead_62 : decode m_Row_copyWithAhead.2.1 62 = .ok (.return_, 1) := by decide +kernel
theorem d_Row_sameAs_0 : decode m_Row_sameAs.2.1 0 = .ok (.aload_n 0, 1) := by decide +kernel
theorem d_Row_sameAs_1 : decode m_Row_sameAs.2.1 1 = .ok (.getfield 21, 3) := by decide +kernel
theorem d_Row_sameAs_4 : decode m_Row_sameAs.2.1 4 = .ok (.aload_n 1, 1) := by decide +kernel
theorem d_Row_sameAs_5 : decode m_Row_sameAs.2.1 5 = .ok (.getfield 21, 3) := by decide +kernel
theorem d_Row_sameAs_8 : decode m_Row_sameAs.2.1 8 = .ok (.if_icmp .eq 5, 3) := by decide +kernel
theorem d_Row_sameAs_11 : decode m_Row_sameAs.2.1 11 = .ok (.iconst 0, 1) := by decide +kernel
theorem d_Row_sameAs_12 : decode m_Row_sameAs.2.1 12 = .ok (.ireturn, 1) := by decide +kernel
theorem d_Row_sameAs_13 : decode m_Row_sameAs.2.1 13 = .ok (.iconst 0, 1) := by decide +kernel
theorem d_Row_sameAs_14 : decode m_Row_sameAs.2.1 14 = .ok (.istore_n 2, 1) := by decide +kernel
theorem d_Row_sameAs_15 : decode m_Row_sameAs.2.1 15 = .ok (.iload_n 2, 1) := by decide +kernel
theorem d_Row_sameAs_16 : decode m_Row_sameAs.2.1 16 = .ok (.aload_n 0, 1) := by decide +kernel
theorem d_Row_sameAs_17 : decode m_Row_sameAs.2.1 17 = .ok (.getfield 21, 3) := by decide +kernel
theorem d_Row_sameAs_20 : decode m_Row_sameAs.2.1 20 = .ok (.if_icmp .ge 44, 3) := by decide +kernel
theorem d_Row_sameAs_23 : decode m_Row_sameAs.2.1 23 = .ok (.iload_n 2, 1) := by decide +kernel
theorem d_Row_sameAs_24 : decode m_Row_sameAs.2.1 24 = .ok (.aload_n 0, 1) := by decide +kernel
theorem d_Row_sameAs_25 : decode m_Row_sameAs.2.1 25 = .ok (.getfield 15, 3) := by decide +kernel
theorem d_Row_sameAs_28 : decode m_Row_sameAs.2.1 28 = .ok (.arraylength, 1) := by decide +kernel
theorem d_Row_sameAs_29 : decode m_Row_sameAs.2.1 29 = .ok (.if_icmp .ge 35, 3) := by decide +kernel
theorem d_Row_sameAs_32 : decode m_Row_sameAs.2.1 32 = .ok (.iload_n 2, 1) := by decide +kernel
theorem d_Row_sameAs_33 : decode m_Row_sameAs.2.1 33 = .ok (.aload_n 1, 1) := by decide +kernel
theorem d_Row_sameAs_34 : decode m_Row_sameAs.2.1 34 = .ok (.getfield 15, 3) := by decide +kernel
theorem d_Row_sameAs_37 : decode m_Row_sameAs.2.1 37 = .ok (.arraylength, 1) := by decide +kernel
theorem d_Row_sameAs_38 : decode m_Row_sameAs.2.1 38 = .ok (.if_icmp .ge 26, 3) := by decide +kernel
theorem d_Row_sameAs_41 : decode m_Row_sameAs.2.1 41 = .ok (.aload_n 0, 1) := by decide +kernel
theorem d_Row_sameAs_42 : decode m_Row_sameAs.2.1 42 = .ok (.getfield 15, 3) := by decide +kernel
theorem d_Row_sameAs_45 : decode m_Row_sameAs.2.1 45 = .ok (.iload_n 2, 1) := by decide +kernel
theorem d_Row_sameAs_46 : decode m_Row_sameAs.2.1 46 = .ok (.iaload, 1) := by decide +kernel
theorem d_Row_sameAs_47 : decode m_Row_sameAs.2.1 47 = .ok (.aload_n 1, 1) := by decide +kernel
theorem d_Row_sameAs_48 : decode m_Row_sameAs.2.1 48 = .ok (.getfield 15, 3) := by decide +kernel
theorem d_Row_sameAs_51 : decode m_Row_sameAs.2.1 51 = .ok (.iload_n 2, 1) := by decide +kernel
theorem d_Row_sameAs_52 : decode m_Row_sameAs.2.1 52 = .ok (.iaload, 1) := by decide +kernel
theorem d_Row_sameAs_53 : decode m_Row_sameAs.2.1 53 = .ok (.if_icmp .eq 5, 3) := by decide +kernel
theorem d_Row_sameAs_56 : decode m_Row_sameAs.2.1 56 = .ok (.iconst 0, 1) := by decide +kernel
theorem d_Row_sameAs_57 : decode m_Row_sameAs.2.1 57 = .ok (.ireturn, 1) := by decide +kernel
theorem d_Row_sameAs_58 : decode m_Row_sameAs.2.1 58 = .ok (.iinc 2 1, 3) := by decide +kernel
theorem d_Row_sameAs_61 : decode m_Row_sameAs.2.1 61 = .ok (.goto (-46), 3) := by decide +kernel
theorem d_Row_sameAs_64 : decode m_Row_sameAs.2.1 64 = .ok (.iconst 1, 1) := by decide +kernel
theorem d_Row_sameAs_65 : decode m_Row_sameAs.2.1 65 = .ok (.ireturn, 1) := by decide +kernel
theorem d_Row_sameAtFront_0 : decode m_Row_sameAtFront.2.1 0 = .ok (.iconst 0, 1) := by decide +kernel
theorem d_Row_sameAtFront_1 : decode m_Row_sameAtFront.2.1 1 = .ok (.istore_n 2, 1) := by decide +kernel
theorem d_Row_sameAtFront_2 : decode m_Row_sameAtFront.2.1 2 = .ok (.iload_n 2, 1) := by decide +kernel
theorem d_Row_sameAtFront_3 : decode m_Row_sameAtFront.2.1 3 = .ok (.aload_n 0, 1) := by decide +kernel
theorem d_Row_sameAtFront_4 : decode m_Row_sameAtFront.2.1 4 = .ok (.getfield 21, 3) := by decide +kernel
theorem d_Row_sameAtFront_7 : decode m_Row_sameAtFront.2.1 7 = .ok (.if_icmp .ge 30, 3) := by decide +kernel
theorem d_Row_sameAtFront_10 : decode m_Row_sameAtFront.2.1 10 = .ok (.iload_n 2, 1) := by decide +kernel
theorem d_Row_sameAtFront_11 : decode m_Row_sameAtFront.2.1 11 = .ok (.aload_n 1, 1) := by decide +kernel
theorem d_Row_sameAtFront_12 : decode m_Row_sameAtFront.2.1 12 = .ok (.getfield 21, 3) := by decide +kernel
theorem d_Row_sameAtFront_15 : decode m_Row_sameAtFront.2.1 15 = .ok (.if_icmp .ge 22, 3) := by decide +kernel
theorem d_Row_sameAtFront_18 : decode m_Row_sameAtFront.2.1 18 = .ok (.aload_n 0, 1) := by decide +kernel
theorem d_Row_sameAtFront_19 : decode m_Row_sameAtFront.2.1 19 = .ok (.iload_n 2, 1) := by decide +kernel
theorem d_Row_sameAtFront_20 : decode m_Row_sameAtFront.2.1 20 = .ok (.invokevirtual 32, 3) := by decide +kernel
theorem d_Row_sameAtFront_23 : decode m_Row_sameAtFront.2.1 23 = .ok (.aload_n 1, 1) := by decide +kernel
theorem d_Row_sameAtFront_24 : decode m_Row_sameAtFront.2.1 24 = .ok (.iload_n 2, 1) := by decide +kernel
theorem d_Row_sameAtFront_25 : decode m_Row_sameAtFront.2.1 25 = .ok (.invokevirtual 32, 3) := by decide +kernel
theorem d_Row_sameAtFront_28 : decode m_Row_sameAtFront.2.1 28 = .ok (.if_icmp .ne 9, 3) := by decide +kernel
theorem d_Row_sameAtFront_31 : decode m_Row_sameAtFront.2.1 31 = .ok (.iinc 2 1, 3) := by decide +kernel
theorem d_Row_sameAtFront_34 : decode m_Row_sameAtFront.2.1 34 = .ok (.goto (-32), 3) := by decide +kernel
theorem d_Row_sameAtFront_37 : decode m_Row_sameAtFront.2.1 37 = .ok (.iload_n 2, 1) := by decide +kernel
theorem d_Row_sameAtFront_38 : decode m_Row_sameAtFront.2.1 38 = .ok (.ireturn, 1) := by decide +kernel
theorem d_Row_mark_0 : decode m_Row_mark.2.1 0 = .ok (.aload_n 0, 1) := by decide +kernel
theorem d_Row_mark_1 : decode m_Row_mark.2.1 1 = .ok (.getfield 21, 3) := by decide +kernel
theorem d_Row_mark_4 : decode m_Row_mark.2.1 4 = .ok (.istore_n 1, 1) := by decide +kernel
theorem d_Row_mark_5 : decode m_Row_mark.2.1 5 = .ok (.iconst 0, 1) := by decide +kernel
theorem d_Row_mark_6 : decode m_Row_mark.2.1 6 = .ok (.istore_n 2, 1) := by decide +kernel
theorem d_Row_mark_7 : decode m_Row_mark.2.1 7 = .ok (.iload_n 2, 1) := by decide +kernel
theorem d_Row_mark_8 : decode m_Row_mark.2.1 8 = .ok (.aload_n 0, 1) := by decide +kernel
theorem d_Row_mark_9 : decode m_Row_mark.2.1 9 = .ok (.getfield 21, 3) := by decide +kernel
theorem d_Row_mark_12 : decode m_Row_mark.2.1 12 = .ok (.if_icmp .ge 32, 3) := by decide +kernel
theorem d_Row_mark_15 : decode m_Row_mark.2.1 15 = .ok (.iload_n 2, 1) := by decide +kernel
theorem d_Row_mark_16 : decode m_Row_mark.2.1 16 = .ok (.aload_n 0, 1) := by decide +kernel
theorem d_Row_mark_17 : decode m_Row_mark.2.1 17 = .ok (.getfield 15, 3) := by decide +kernel
theorem d_Row_mark_20 : decode m_Row_mark.2.1 20 = .ok (.arraylength, 1) := by decide +kernel
theorem d_Row_mark_21 : decode m_Row_mark.2.1 21 = .ok (.if_icmp .ge 23, 3) := by decide +kernel
theorem d_Row_mark_24 : decode m_Row_mark.2.1 24 = .ok (.iload_n 1, 1) := by decide +kernel
theorem d_Row_mark_25 : decode m_Row_mark.2.1 25 = .ok (.bipush 31, 2) := by decide +kernel
theorem d_Row_mark_27 : decode m_Row_mark.2.1 27 = .ok (.imul, 1) := by decide +kernel
theorem d_Row_mark_28 : decode m_Row_mark.2.1 28 = .ok (.aload_n 0, 1) := by decide +kernel
theorem d_Row_mark_29 : decode m_Row_mark.2.1 29 = .ok (.getfield 15, 3) := by decide +kernel
theorem d_Row_mark_32 : decode m_Row_mark.2.1 32 = .ok (.iload_n 2, 1) := by decide +kernel
theorem d_Row_mark_33 : decode m_Row_mark.2.1 33 = .ok (.iaload, 1) := by decide +kernel
theorem d_Row_mark_34 : decode m_Row_mark.2.1 34 = .ok (.iadd, 1) := by decide +kernel
theorem d_Row_mark_35 : decode m_Row_mark.2.1 35 = .ok (.iconst 1, 1) := by decide +kernel
theorem d_Row_mark_36 : decode m_Row_mark.2.1 36 = .ok (.iadd, 1) := by decide +kernel
theorem d_Row_mark_37 : decode m_Row_mark.2.1 37 = .ok (.istore_n 1, 1) := by decide +kernel
theorem d_Row_mark_38 : decode m_Row_mark.2.1 38 = .ok (.iinc 2 1, 3) := by decide +kernel
theorem d_Row_mark_41 : decode m_Row_mark.2.1 41 = .ok (.goto (-34), 3) := by decide +kernel
theorem d_Row_mark_44 : decode m_Row_mark.2.1 44 = .ok (.iload_n 1, 1) := by decide +kernel
theorem d_Row_mark_45 : decode m_Row_mark.2.1 45 = .ok (.ireturn, 1) := by decide +kernel
theorem d_Shorts_init_0 : decode m_Shorts_init.2.1 0 = .ok (.aload_n 0, 1) := by decide +kernel
theorem d_Shorts_init_1 : decode m_Shorts_init.2.1 1 = .ok (.invokespecial 3, 3) := by decide +kernel
theorem d_Shorts_init_4 : decode m_Shorts_init.2.1 4 = .ok (.aload_n 0, 1) := by decide +kernel
theorem d_Shorts_init_5 : decode m_Shorts_init.2.1 5 = .ok (.bipush 27, 2) := by decide +kernel
theorem d_Shorts_init_7 : decode m_Shorts_init.2.1 7 = .ok (.newarray .int, 2) := by decide +kernel
theorem d_Shorts_init_9 : decode m_Shorts_init.2.1 9 = .ok (.putfield 11, 3) := by decide +kernel
theorem d_Shorts_init_12 : decode m_Shorts_init.2.1 12 = .ok (.aload_n 0, 1) := by decide +kernel
theorem d_Shorts_init_13 : decode m_Shorts_init.2.1 13 = .ok (.bipush 27, 2) := by decide +kernel
theorem d_Shorts_init_15 : decode m_Shorts_init.2.1 15 = .ok (.newarray .int, 2) := by decide +kernel
theorem d_Shorts_init_17 : decode m_Shorts_init.2.1 17 = .ok (.putfield 15, 3) := by decide +kernel
theorem d_Shorts_init_20 : decode m_Shorts_init.2.1 20 = .ok (.aload_n 0, 1) := by decide +kernel
theorem d_Shorts_init_21 : decode m_Shorts_init.2.1 21 = .ok (.bipush 27, 2) := by decide +kernel
theorem d_Shorts_init_23 : decode m_Shorts_init.2.1 23 = .ok (.newarray .int, 2) := by decide +kernel
theorem d_Shorts_init_25 : decode m_Shorts_init.2.1 25 = .ok (.putfield 18, 3) := by decide +kernel
theorem d_Shorts_init_28 : decode m_Shorts_init.2.1 28 = .ok (.aload_n 0, 1) := by decide +kernel
theorem d_Shorts_init_29 : decode m_Shorts_init.2.1 29 = .ok (.sipush 512, 3) := by decide +kernel
theorem d_Shorts_init_32 : decode m_Shorts_init.2.1 32 = .ok (.newarray .int, 2) := by decide +kernel
theorem d_Shorts_init_34 : decode m_Shorts_init.2.1 34 = .ok (.putfield 23, 3) := by decide +kernel
theorem d_Shorts_init_37 : decode m_Shorts_init.2.1 37 = .ok (.aload_n 0, 1) := by decide +kernel
theorem d_Shorts_init_38 : decode m_Shorts_init.2.1 38 = .ok (.aload_n 1, 1) := by decide +kernel
theorem d_Shorts_init_39 : decode m_Shorts_init.2.1 39 = .ok (.putfield 26, 3) := by decide +kernel
theorem d_Shorts_init_42 : decode m_Shorts_init.2.1 42 = .ok (.return_, 1) := by decide +kernel
theorem d_Shorts_forget_0 : decode m_Shorts_forget.2.1 0 = .ok (.aload_n 0, 1) := by decide +kernel
theorem d_Shorts_forget_1 : decode m_Shorts_forget.2.1 1 = .ok (.iconst 0, 1) := by decide +kernel
theorem d_Shorts_forget_2 : decode m_Shorts_forget.2.1 2 = .ok (.putfield 30, 3) := by decide +kernel
theorem d_Shorts_forget_5 : decode m_Shorts_forget.2.1 5 = .ok (.return_, 1) := by decide +kernel
theorem d_Shorts_refresh_0 : decode m_Shorts_refresh.2.1 0 = .ok (.aload_n 0, 1) := by decide +kernel
theorem d_Shorts_refresh_1 : decode m_Shorts_refresh.2.1 1 = .ok (.getfield 30, 3) := by decide +kernel
theorem d_Shorts_refresh_4 : decode m_Shorts_refresh.2.1 4 = .ok (.ifCond .eq 4, 3) := by decide +kernel
theorem d_Shorts_refresh_7 : decode m_Shorts_refresh.2.1 7 = .ok (.return_, 1) := by decide +kernel
theorem d_Shorts_refresh_8 : decode m_Shorts_refresh.2.1 8 = .ok (.aload_n 0, 1) := by decide +kernel
theorem d_Shorts_refresh_9 : decode m_Shorts_refresh.2.1 9 = .ok (.getfield 23, 3) := by decide +kernel
theorem d_Shorts_refresh_12 : decode m_Shorts_refresh.2.1 12 = .ok (.iconst (-1), 1) := by decide +kernel
theorem d_Shorts_refresh_13 : decode m_Shorts_refresh.2.1 13 = .ok (.invokestatic 34, 3) := by decide +kernel
theorem d_Shorts_refresh_16 : decode m_Shorts_refresh.2.1 16 = .ok (.aload_n 0, 1) := by decide +kernel
theorem d_Shorts_refresh_17 : decode m_Shorts_refresh.2.1 17 = .ok (.iconst 0, 1) := by decide +kernel
theorem d_Shorts_refresh_18 : decode m_Shorts_refresh.2.1 18 = .ok (.putfield 40, 3) := by decide +kernel
theorem d_Shorts_refresh_21 : decode m_Shorts_refresh.2.1 21 = .ok (.aload_n 0, 1) := by decide +kernel
theorem d_Shorts_refresh_22 : decode m_Shorts_refresh.2.1 22 = .ok (.sipush 273, 3) := by decide +kernel
theorem d_Shorts_refresh_25 : decode m_Shorts_refresh.2.1 25 = .ok (.bipush (-6), 2) := by decide +kernel
theorem d_Shorts_refresh_27 : decode m_Shorts_refresh.2.1 27 = .ok (.bipush (-6), 2) := by decide +kernel
theorem d_Shorts_refresh_29 : decode m_Shorts_refresh.2.1 29 = .ok (.invokevirtual 44, 3) := by decide +kernel
theorem d_Shorts_refresh_32 : decode m_Shorts_refresh.2.1 32 = .ok (.iconst 0, 1) := by decide +kernel
theorem d_Shorts_refresh_33 : decode m_Shorts_refresh.2.1 33 = .ok (.istore_n 1, 1) := by decide +kernel
theorem d_Shorts_refresh_34 : decode m_Shorts_refresh.2.1 34 = .ok (.iload_n 1, 1) := by decide +kernel
theorem d_Shorts_refresh_35 : decode m_Shorts_refresh.2.1 35 = .ok (.bipush 27, 2) := by decide +kernel
theorem d_Shorts_refresh_37 : decode m_Shorts_refresh.2.1 37 = .ok (.if_icmp .ge 50, 3) := by decide +kernel
theorem d_Shorts_refresh_40 : decode m_Shorts_refresh.2.1 40 = .ok (.iload_n 1, 1) := by decide +kernel
theorem d_Shorts_refresh_41 : decode m_Shorts_refresh.2.1 41 = .ok (.aload_n 0, 1) := by decide +kernel
theorem d_Shorts_refresh_42 : decode m_Shorts_refresh.2.1 42 = .ok (.getfield 40, 3) := by decide +kernel
theorem d_Shorts_refresh_45 : decode m_Shorts_refresh.2.1 45 = .ok (.if_icmp .ge 42, 3) := by decide +kernel
theorem d_Shorts_refresh_48 : decode m_Shorts_refresh.2.1 48 = .ok (.iconst 0, 1) := by decide +kernel
theorem d_Shorts_refresh_49 : decode m_Shorts_refresh.2.1 49 = .ok (.istore_n 2, 1) := by decide +kernel
theorem d_Shorts_refresh_50 : decode m_Shorts_refresh.2.1 50 = .ok (.iload_n 2, 1) := by decide +kernel
theorem d_Shorts_refresh_51 : decode m_Shorts_refresh.2.1 51 = .ok (.iconst 2, 1) := by decide +kernel
theorem d_Shorts_refresh_52 : decode m_Shorts_refresh.2.1 52 = .ok (.if_icmp .ge 29, 3) := by decide +kernel
theorem d_Shorts_refresh_55 : decode m_Shorts_refresh.2.1 55 = .ok (.aload_n 0, 1) := by decide +kernel
theorem d_Shorts_refresh_56 : decode m_Shorts_refresh.2.1 56 = .ok (.aload_n 0, 1) := by decide +kernel
theorem d_Shorts_refresh_57 : decode m_Shorts_refresh.2.1 57 = .ok (.getfield 26, 3) := by decide +kernel
theorem d_Shorts_refresh_60 : decode m_Shorts_refresh.2.1 60 = .ok (.aload_n 0, 1) := by decide +kernel
theorem d_Shorts_refresh_61 : decode m_Shorts_refresh.2.1 61 = .ok (.getfield 11, 3) := by decide +kernel
theorem d_Shorts_refresh_64 : decode m_Shorts_refresh.2.1 64 = .ok (.iload_n 1, 1) := by decide +kernel
theorem d_Shorts_refresh_65 : decode m_Shorts_refresh.2.1 65 = .ok (.iaload, 1) := by decide +kernel
theorem d_Shorts_refresh_66 : decode m_Shorts_refresh.2.1 66 = .ok (.iload_n 2, 1) := by decide +kernel
theorem d_Shorts_refresh_67 : decode m_Shorts_refresh.2.1 67 = .ok (.invokevirtual 48, 3) := by decide +kernel
theorem d_Shorts_refresh_70 : decode m_Shorts_refresh.2.1 70 = .ok (.iload_n 1, 1) := by decide +kernel
theorem d_Shorts_refresh_71 : decode m_Shorts_refresh.2.1 71 = .ok (.iload_n 2, 1) := by decide +kernel
theorem d_Shorts_refresh_72 : decode m_Shorts_refresh.2.1 72 = .ok (.invokevirtual 44, 3) := by decide +kernel
theorem d_Shorts_refresh_75 : decode m_Shorts_refresh.2.1 75 = .ok (.iinc 2 1, 3) := by decide +kernel
theorem d_Shorts_refresh_78 : decode m_Shorts_refresh.2.1 78 = .ok (.goto (-28), 3) := by decide +kernel
theorem d_Shorts_refresh_81 : decode m_Shorts_refresh.2.1 81 = .ok (.iinc 1 1, 3) := by decide +kernel
theorem d_Shorts_refresh_84 : decode m_Shorts_refresh.2.1 84 = .ok (.goto (-50), 3) := by decide +kernel
theorem d_Shorts_refresh_87 : decode m_Shorts_refresh.2.1 87 = .ok (.aload_n 0, 1) := by decide +kernel
theorem d_Shorts_refresh_88 : decode m_Shorts_refresh.2.1 88 = .ok (.iconst 1, 1) := by decide +kernel
theorem d_Shorts_refresh_89 : decode m_Shorts_refresh.2.1 89 = .ok (.putfield 30, 3) := by decide +kernel
theorem d_Shorts_refresh_92 : decode m_Shorts_refresh.2.1 92 = .ok (.return_, 1) := by decide +kernel
theorem d_Shorts_meet_0 : decode m_Shorts_meet.2.1 0 = .ok (.iconst 0, 1) := by decide +kernel
theorem d_Shorts_meet_1 : decode m_Shorts_meet.2.1 1 = .ok (.istore 4, 2) := by decide +kernel
theorem d_Shorts_meet_3 : decode m_Shorts_meet.2.1 3 = .ok (.iload 4, 2) := by decide +kernel
theorem d_Shorts_meet_5 : decode m_Shorts_meet.2.1 5 = .ok (.aload_n 0, 1) := by decide +kernel
theorem d_Shorts_meet_6 : decode m_Shorts_meet.2.1 6 = .ok (.getfield 40, 3) := by decide +kernel
theorem d_Shorts_meet_9 : decode m_Shorts_meet.2.1 9 = .ok (.if_icmp .ge 28, 3) := by decide +kernel
theorem d_Shorts_meet_12 : decode m_Shorts_meet.2.1 12 = .ok (.iload 4, 2) := by decide +kernel
theorem d_Shorts_meet_14 : decode m_Shorts_meet.2.1 14 = .ok (.bipush 27, 2) := by decide +kernel
theorem d_Shorts_meet_16 : decode m_Shorts_meet.2.1 16 = .ok (.if_icmp .ge 21, 3) := by decide +kernel
theorem d_Shorts_meet_19 : decode m_Shorts_meet.2.1 19 = .ok (.aload_n 0, 1) := by decide +kernel
theorem d_Shorts_meet_20 : decode m_Shorts_meet.2.1 20 = .ok (.getfield 11, 3) := by decide +kernel
theorem d_Shorts_meet_23 : decode m_Shorts_meet.2.1 23 = .ok (.iload 4, 2) := by decide +kernel
theorem d_Shorts_meet_25 : decode m_Shorts_meet.2.1 25 = .ok (.iaload, 1) := by decide +kernel
theorem d_Shorts_meet_26 : decode m_Shorts_meet.2.1 26 = .ok (.iload_n 1, 1) := by decide +kernel
theorem d_Shorts_meet_27 : decode m_Shorts_meet.2.1 27 = .ok (.if_icmp .ne 4, 3) := by decide +kernel
theorem d_Shorts_meet_30 : decode m_Shorts_meet.2.1 30 = .ok (.return_, 1) := by decide +kernel
theorem d_Shorts_meet_31 : decode m_Shorts_meet.2.1 31 = .ok (.iinc 4 1, 3) := by decide +kernel
theorem d_Shorts_meet_34 : decode m_Shorts_meet.2.1 34 = .ok (.goto (-31), 3) := by decide +kernel
theorem d_Shorts_meet_37 : decode m_Shorts_meet.2.1 37 = .ok (.aload_n 0, 1) := by decide +kernel
theorem d_Shorts_meet_38 : decode m_Shorts_meet.2.1 38 = .ok (.getfield 40, 3) := by decide +kernel
theorem d_Shorts_meet_41 : decode m_Shorts_meet.2.1 41 = .ok (.ifCond .lt 12, 3) := by decide +kernel
theorem d_Shorts_meet_44 : decode m_Shorts_meet.2.1 44 = .ok (.aload_n 0, 1) := by decide +kernel
theorem d_Shorts_meet_45 : decode m_Shorts_meet.2.1 45 = .ok (.getfield 40, 3) := by decide +kernel
theorem d_Shorts_meet_48 : decode m_Shorts_meet.2.1 48 = .ok (.bipush 27, 2) := by decide +kernel
theorem d_Shorts_meet_50 : decode m_Shorts_meet.2.1 50 = .ok (.if_icmp .lt 4, 3) := by decide +kernel
theorem d_Shorts_meet_53 : decode m_Shorts_meet.2.1 53 = .ok (.return_, 1) := by decide +kernel
theorem d_Shorts_meet_54 : decode m_Shorts_meet.2.1 54 = .ok (.aload_n 0, 1) := by decide +kernel
theorem d_Shorts_meet_55 : decode m_Shorts_meet.2.1 55 = .ok (.getfield 11, 3) := by decide +kernel
theorem d_Shorts_meet_58 : decode m_Shorts_meet.2.1 58 = .ok (.aload_n 0, 1) := by decide +kernel
theorem d_Shorts_meet_59 : decode m_Shorts_meet.2.1 59 = .ok (.getfield 40, 3) := by decide +kernel
theorem d_Shorts_meet_62 : decode m_Shorts_meet.2.1 62 = .ok (.iload_n 1, 1) := by decide +kernel
theorem d_Shorts_meet_63 : decode m_Shorts_meet.2.1 63 = .ok (.iastore, 1) := by decide +kernel
theorem d_Shorts_meet_64 : decode m_Shorts_meet.2.1 64 = .ok (.aload_n 0, 1) := by decide +kernel
theorem d_Shorts_meet_65 : decode m_Shorts_meet.2.1 65 = .ok (.getfield 15, 3) := by decide +kernel
theorem d_Shorts_meet_68 : decode m_Shorts_meet.2.1 68 = .ok (.aload_n 0, 1) := by decide +kernel
theorem d_Shorts_meet_69 : decode m_Shorts_meet.2.1 69 = .ok (.getfield 40, 3) := by decide +kernel
theorem d_Shorts_meet_72 : decode m_Shorts_meet.2.1 72 = .ok (.iload_n 2, 1) := by decide +kernel
theorem d_Shorts_meet_73 : decode m_Shorts_meet.2.1 73 = .ok (.iastore, 1) := by decide +kernel
theorem d_Shorts_meet_74 : decode m_Shorts_meet.2.1 74 = .ok (.aload_n 0, 1) := by decide +kernel
theorem d_Shorts_meet_75 : decode m_Shorts_meet.2.1 75 = .ok (.getfield 18, 3) := by decide +kernel
theorem d_Shorts_meet_78 : decode m_Shorts_meet.2.1 78 = .ok (.aload_n 0, 1) := by decide +kernel
theorem d_Shorts_meet_79 : decode m_Shorts_meet.2.1 79 = .ok (.getfield 40, 3) := by decide +kernel
theorem d_Shorts_meet_82 : decode m_Shorts_meet.2.1 82 = .ok (.iload_n 3, 1) := by decide +kernel
theorem d_Shorts_meet_83 : decode m_Shorts_meet.2.1 83 = .ok (.iastore, 1) := by decide +kernel
theorem d_Shorts_meet_84 : decode m_Shorts_meet.2.1 84 = .ok (.aload_n 0, 1) := by decide +kernel
theorem d_Shorts_meet_85 : decode m_Shorts_meet.2.1 85 = .ok (.dup, 1) := by decide +kernel
theorem d_Shorts_meet_86 : decode m_Shorts_meet.2.1 86 = .ok (.getfield 40, 3) := by decide +kernel
theorem d_Shorts_meet_89 : decode m_Shorts_meet.2.1 89 = .ok (.iconst 1, 1) := by decide +kernel
theorem d_Shorts_meet_90 : decode m_Shorts_meet.2.1 90 = .ok (.iadd, 1) := by decide +kernel
theorem d_Shorts_meet_91 : decode m_Shorts_meet.2.1 91 = .ok (.putfield 40, 3) := by decide +kernel
theorem d_Shorts_meet_94 : decode m_Shorts_meet.2.1 94 = .ok (.return_, 1) := by decide +kernel
theorem d_Shorts_firstFit_0 : decode m_Shorts_firstFit.2.1 0 = .ok (.iload_n 1, 1) := by decide +kernel
theorem d_Shorts_firstFit_1 : decode m_Shorts_firstFit.2.1 1 = .ok (.sipush 511, 3) := by decide +kernel
theorem d_Shorts_firstFit_4 : decode m_Shorts_firstFit.2.1 4 = .ok (.iand, 1) := by decide +kernel
theorem d_Shorts_firstFit_5 : decode m_Shorts_firstFit.2.1 5 = .ok (.istore_n 2, 1) := by decide +kernel
theorem d_Shorts_firstFit_6 : decode m_Shorts_firstFit.2.1 6 = .ok (.aload_n 0, 1) := by decide +kernel
theorem d_Shorts_firstFit_7 : decode m_Shorts_firstFit.2.1 7 = .ok (.getfield 23, 3) := by decide +kernel
theorem d_Shorts_firstFit_10 : decode m_Shorts_firstFit.2.1 10 = .ok (.iload_n 2, 1) := by decide +kernel
theorem d_Shorts_firstFit_11 : decode m_Shorts_firstFit.2.1 11 = .ok (.iaload, 1) := by decide +kernel
theorem d_Shorts_firstFit_12 : decode m_Shorts_firstFit.2.1 12 = .ok (.iconst (-1), 1) := by decide +kernel
theorem d_Shorts_firstFit_13 : decode m_Shorts_firstFit.2.1 13 = .ok (.if_icmp .ne 56, 3) := by decide +kernel
theorem d_Shorts_firstFit_16 : decode m_Shorts_firstFit.2.1 16 = .ok (.aload_n 0, 1) := by decide +kernel
theorem d_Shorts_firstFit_17 : decode m_Shorts_firstFit.2.1 17 = .ok (.getfield 23, 3) := by decide +kernel
theorem d_Shorts_firstFit_20 : decode m_Shorts_firstFit.2.1 20 = .ok (.iload_n 2, 1) := by decide +kernel
theorem d_Shorts_firstFit_21 : decode m_Shorts_firstFit.2.1 21 = .ok (.bipush (-6), 2) := by decide +kernel
theorem d_Shorts_firstFit_23 : decode m_Shorts_firstFit.2.1 23 = .ok (.iastore, 1) := by decide +kernel
theorem d_Shorts_firstFit_24 : decode m_Shorts_firstFit.2.1 24 = .ok (.iconst 0, 1) := by decide +kernel
theorem d_Shorts_firstFit_25 : decode m_Shorts_firstFit.2.1 25 = .ok (.istore_n 3, 1) := by decide +kernel
theorem d_Shorts_firstFit_26 : decode m_Shorts_firstFit.2.1 26 = .ok (.iload_n 3, 1) := by decide +kernel
theorem d_Shorts_firstFit_27 : decode m_Shorts_firstFit.2.1 27 = .ok (.aload_n 0, 1) := by decide +kernel
theorem d_Shorts_firstFit_28 : decode m_Shorts_firstFit.2.1 28 = .ok (.getfield 40, 3) := by decide +kernel
theorem d_Shorts_firstFit_31 : decode m_Shorts_firstFit.2.1 31 = .ok (.if_icmp .ge 38, 3) := by decide +kernel
theorem d_Shorts_firstFit_34 : decode m_Shorts_firstFit.2.1 34 = .ok (.iload_n 3, 1) := by decide +kernel
theorem d_Shorts_firstFit_35 : decode m_Shorts_firstFit.2.1 35 = .ok (.bipush 27, 2) := by decide +kernel
theorem d_Shorts_firstFit_37 : decode m_Shorts_firstFit.2.1 37 = .ok (.if_icmp .ge 32, 3) := by decide +kernel
theorem d_Shorts_firstFit_40 : decode m_Shorts_firstFit.2.1 40 = .ok (.iload_n 1, 1) := by decide +kernel
theorem d_Shorts_firstFit_41 : decode m_Shorts_firstFit.2.1 41 = .ok (.aload_n 0, 1) := by decide +kernel
theorem d_Shorts_firstFit_42 : decode m_Shorts_firstFit.2.1 42 = .ok (.getfield 11, 3) := by decide +kernel
theorem d_Shorts_firstFit_45 : decode m_Shorts_firstFit.2.1 45 = .ok (.iload_n 3, 1) := by decide +kernel
theorem d_Shorts_firstFit_46 : decode m_Shorts_firstFit.2.1 46 = .ok (.iaload, 1) := by decide +kernel
theorem d_Shorts_firstFit_47 : decode m_Shorts_firstFit.2.1 47 = .ok (.invokestatic 54, 3) := by decide +kernel
theorem d_Shorts_firstFit_50 : decode m_Shorts_firstFit.2.1 50 = .ok (.ifCond .eq 13, 3) := by decide +kernel
theorem d_Shorts_firstFit_53 : decode m_Shorts_firstFit.2.1 53 = .ok (.aload_n 0, 1) := by decide +kernel
theorem d_Shorts_firstFit_54 : decode m_Shorts_firstFit.2.1 54 = .ok (.getfield 23, 3) := by decide +kernel
theorem d_Shorts_firstFit_57 : decode m_Shorts_firstFit.2.1 57 = .ok (.iload_n 2, 1) := by decide +kernel
theorem d_Shorts_firstFit_58 : decode m_Shorts_firstFit.2.1 58 = .ok (.iload_n 3, 1) := by decide +kernel
theorem d_Shorts_firstFit_59 : decode m_Shorts_firstFit.2.1 59 = .ok (.iastore, 1) := by decide +kernel
theorem d_Shorts_firstFit_60 : decode m_Shorts_firstFit.2.1 60 = .ok (.goto 9, 3) := by decide +kernel
theorem d_Shorts_firstFit_63 : decode m_Shorts_firstFit.2.1 63 = .ok (.iinc 3 1, 3) := by decide +kernel
theorem d_Shorts_firstFit_66 : decode m_Shorts_firstFit.2.1 66 = .ok (.goto (-40), 3) := by decide +kernel
theorem d_Shorts_firstFit_69 : decode m_Shorts_firstFit.2.1 69 = .ok (.aload_n 0, 1) := by decide +kernel
theorem d_Shorts_firstFit_70 : decode m_Shorts_firstFit.2.1 70 = .ok (.getfield 23, 3) := by decide +kernel
theorem d_Shorts_firstFit_73 : decode m_Shorts_firstFit.2.1 73 = .ok (.iload_n 2, 1) := by decide +kernel
theorem d_Shorts_firstFit_74 : decode m_Shorts_firstFit.2.1 74 = .ok (.iaload, 1) := by decide +kernel
theorem d_Shorts_firstFit_75 : decode m_Shorts_firstFit.2.1 75 = .ok (.ireturn, 1) := by decide +kernel
theorem d_Shorts_anyHopeless_0 : decode m_Shorts_anyHopeless.2.1 0 = .ok (.iconst 0, 1) := by decide +kernel
theorem d_Shorts_anyHopeless_1 : decode m_Shorts_anyHopeless.2.1 1 = .ok (.istore_n 2, 1) := by decide +kernel
theorem d_Shorts_anyHopeless_2 : decode m_Shorts_anyHopeless.2.1 2 = .ok (.iload_n 2, 1) := by decide +kernel
theorem d_Shorts_anyHopeless_3 : decode m_Shorts_anyHopeless.2.1 3 = .ok (.iconst 3, 1) := by decide +kernel
theorem d_Shorts_anyHopeless_4 : decode m_Shorts_anyHopeless.2.1 4 = .ok (.if_icmp .ge 25, 3) := by decide +kernel
theorem d_Shorts_anyHopeless_7 : decode m_Shorts_anyHopeless.2.1 7 = .ok (.aload_n 0, 1) := by decide +kernel
theorem d_Shorts_anyHopeless_8 : decode m_Shorts_anyHopeless.2.1 8 = .ok (.iload_n 1, 1) := by decide +kernel
theorem d_Shorts_anyHopeless_9 : decode m_Shorts_anyHopeless.2.1 9 = .ok (.iload_n 2, 1) := by decide +kernel
theorem d_Shorts_anyHopeless_10 : decode m_Shorts_anyHopeless.2.1 10 = .ok (.invokestatic 58, 3) := by decide +kernel
theorem d_Shorts_anyHopeless_13 : decode m_Shorts_anyHopeless.2.1 13 = .ok (.invokevirtual 61, 3) := by decide +kernel
theorem d_Shorts_anyHopeless_16 : decode m_Shorts_anyHopeless.2.1 16 = .ok (.bipush (-6), 2) := by decide +kernel
theorem d_Shorts_anyHopeless_18 : decode m_Shorts_anyHopeless.2.1 18 = .ok (.if_icmp .ne 5, 3) := by decide +kernel
theorem d_Shorts_anyHopeless_21 : decode m_Shorts_anyHopeless.2.1 21 = .ok (.iconst 1, 1) := by decide +kernel
theorem d_Shorts_anyHopeless_22 : decode m_Shorts_anyHopeless.2.1 22 = .ok (.ireturn, 1) := by decide +kernel
theorem d_Shorts_anyHopeless_23 : decode m_Shorts_anyHopeless.2.1 23 = .ok (.iinc 2 1, 3) := by decide +kernel
theorem d_Shorts_anyHopeless_26 : decode m_Shorts_anyHopeless.2.1 26 = .ok (.goto (-24), 3) := by decide +kernel
theorem d_Shorts_anyHopeless_29 : decode m_Shorts_anyHopeless.2.1 29 = .ok (.iconst 0, 1) := by decide +kernel
theorem d_Shorts_anyHopeless_30 : decode m_Shorts_anyHopeless.2.1 30 = .ok (.ireturn, 1) := by decide +kernel
theorem d_Shorts_write_0 : decode m_Shorts_write.2.1 0 = .ok (.aload_n 2, 1) := by decide +kernel
theorem d_Shorts_write_1 : decode m_Shorts_write.2.1 1 = .ok (.invokevirtual 65, 3) := by decide +kernel
theorem d_Shorts_write_4 : decode m_Shorts_write.2.1 4 = .ok (.iload_n 1, 1) := by decide +kernel
theorem d_Shorts_write_5 : decode m_Shorts_write.2.1 5 = .ok (.istore_n 3, 1) := by decide +kernel
theorem d_Shorts_write_6 : decode m_Shorts_write.2.1 6 = .ok (.iconst 0, 1) := by decide +kernel
theorem d_Shorts_write_7 : decode m_Shorts_write.2.1 7 = .ok (.istore 4, 2) := by decide +kernel
theorem d_Shorts_write_9 : decode m_Shorts_write.2.1 9 = .ok (.iload 4, 2) := by decide +kernel
theorem d_Shorts_write_11 : decode m_Shorts_write.2.1 11 = .ok (.bipush 27, 2) := by decide +kernel
theorem d_Shorts_write_13 : decode m_Shorts_write.2.1 13 = .ok (.if_icmp .ge 37, 3) := by decide +kernel
theorem d_Shorts_write_16 : decode m_Shorts_write.2.1 16 = .ok (.iload_n 3, 1) := by decide +kernel
theorem d_Shorts_write_17 : decode m_Shorts_write.2.1 17 = .ok (.ifCond .le 33, 3) := by decide +kernel
theorem d_Shorts_write_20 : decode m_Shorts_write.2.1 20 = .ok (.iload_n 3, 1) := by decide +kernel
theorem d_Shorts_write_21 : decode m_Shorts_write.2.1 21 = .ok (.bipush 27, 2) := by decide +kernel
theorem d_Shorts_write_23 : decode m_Shorts_write.2.1 23 = .ok (.if_icmp .ge 27, 3) := by decide +kernel
theorem d_Shorts_write_26 : decode m_Shorts_write.2.1 26 = .ok (.aload_n 2, 1) := by decide +kernel
theorem d_Shorts_write_27 : decode m_Shorts_write.2.1 27 = .ok (.aload_n 0, 1) := by decide +kernel
theorem d_Shorts_write_28 : decode m_Shorts_write.2.1 28 = .ok (.getfield 18, 3) := by decide +kernel
theorem d_Shorts_write_31 : decode m_Shorts_write.2.1 31 = .ok (.iload_n 3, 1) := by decide +kernel
theorem d_Shorts_write_32 : decode m_Shorts_write.2.1 32 = .ok (.iaload, 1) := by decide +kernel
theorem d_Shorts_write_33 : decode m_Shorts_write.2.1 33 = .ok (.invokevirtual 70, 3) := by decide +kernel
theorem d_Shorts_write_36 : decode m_Shorts_write.2.1 36 = .ok (.pop, 1) := by decide +kernel
theorem d_Shorts_write_37 : decode m_Shorts_write.2.1 37 = .ok (.aload_n 0, 1) := by decide +kernel
theorem d_Shorts_write_38 : decode m_Shorts_write.2.1 38 = .ok (.getfield 15, 3) := by decide +kernel
theorem d_Shorts_write_41 : decode m_Shorts_write.2.1 41 = .ok (.iload_n 3, 1) := by decide +kernel
theorem d_Shorts_write_42 : decode m_Shorts_write.2.1 42 = .ok (.iaload, 1) := by decide +kernel
theorem d_Shorts_write_43 : decode m_Shorts_write.2.1 43 = .ok (.istore_n 3, 1) := by decide +kernel
theorem d_Shorts_write_44 : decode m_Shorts_write.2.1 44 = .ok (.iinc 4 1, 3) := by decide +kernel
theorem d_Shorts_write_47 : decode m_Shorts_write.2.1 47 = .ok (.goto (-38), 3) := by decide +kernel
theorem d_Shorts_write_50 : decode m_Shorts_write.2.1 50 = .ok (.return_, 1) := by decide +kernel
theorem d_Tally_init_0 : decode m_Tally_init.2.1 0 = .ok (.aload_n 0, 1) := by decide +kernel
theorem d_Tally_init_1 : decode m_Tally_init.2.1 1 = .ok (.invokespecial 3, 3) := by decide +kernel
theorem d_Tally_init_4 : decode m_Tally_init.2.1 4 = .ok (.aload_n 0, 1) := by decide +kernel
theorem d_Tally_init_5 : decode m_Tally_init.2.1 5 = .ok (.iconst 5, 1) := by decide +kernel
theorem d_Tally_init_6 : decode m_Tally_init.2.1 6 = .ok (.newarray .int, 2) := by decide +kernel
theorem d_Tally_init_8 : decode m_Tally_init.2.1 8 = .ok (.putfield 9, 3) := by decide +kernel
theorem d_Tally_init_11 : decode m_Tally_init.2.1 11 = .ok (.aload_n 0, 1) := by decide +kernel
theorem d_Tally_init_12 : decode m_Tally_init.2.1 12 = .ok (.iconst 5, 1) := by decide +kernel
theorem d_Tally_init_13 : decode m_Tally_init.2.1 13 = .ok (.newarray .int, 2) := by decide +kernel
theorem d_Tally_init_15 : decode m_Tally_init.2.1 15 = .ok (.putfield 15, 3) := by decide +kernel
theorem d_Tally_init_18 : decode m_Tally_init.2.1 18 = .ok (.return_, 1) := by decide +kernel
theorem d_Tally_count_0 : decode m_Tally_count.2.1 0 = .ok (.aload_n 0, 1) := by decide +kernel
theorem d_Tally_count_1 : decode m_Tally_count.2.1 1 = .ok (.getfield 9, 3) := by decide +kernel
theorem d_Tally_count_4 : decode m_Tally_count.2.1 4 = .ok (.iconst 0, 1) := by decide +kernel
theorem d_Tally_count_5 : decode m_Tally_count.2.1 5 = .ok (.invokestatic 18, 3) := by decide +kernel
theorem d_Tally_count_8 : decode m_Tally_count.2.1 8 = .ok (.aload_n 0, 1) := by decide +kernel
theorem d_Tally_count_9 : decode m_Tally_count.2.1 9 = .ok (.getfield 15, 3) := by decide +kernel
theorem d_Tally_count_12 : decode m_Tally_count.2.1 12 = .ok (.iconst 0, 1) := by decide +kernel
theorem d_Tally_count_13 : decode m_Tally_count.2.1 13 = .ok (.invokestatic 18, 3) := by decide +kernel
theorem d_Tally_count_16 : decode m_Tally_count.2.1 16 = .ok (.aload_n 0, 1) := by decide +kernel
theorem d_Tally_count_17 : decode m_Tally_count.2.1 17 = .ok (.aload_n 1, 1) := by decide +kernel
theorem d_Tally_count_18 : decode m_Tally_count.2.1 18 = .ok (.getfield 24, 3) := by decide +kernel
theorem d_Tally_count_21 : decode m_Tally_count.2.1 21 = .ok (.iconst 1, 1) := by decide +kernel
theorem d_Tally_count_22 : decode m_Tally_count.2.1 22 = .ok (.invokevirtual 30, 3) := by decide +kernel
theorem d_Tally_count_25 : decode m_Tally_count.2.1 25 = .ok (.aload_n 0, 1) := by decide +kernel
theorem d_Tally_count_26 : decode m_Tally_count.2.1 26 = .ok (.aload_n 1, 1) := by decide +kernel
theorem d_Tally_count_27 : decode m_Tally_count.2.1 27 = .ok (.getfield 34, 3) := by decide +kernel
theorem d_Tally_count_30 : decode m_Tally_count.2.1 30 = .ok (.iconst (-1), 1) := by decide +kernel
theorem d_Tally_count_31 : decode m_Tally_count.2.1 31 = .ok (.invokevirtual 30, 3) := by decide +kernel
theorem d_Tally_count_34 : decode m_Tally_count.2.1 34 = .ok (.return_, 1) := by decide +kernel
theorem d_Tally_countRow_0 : decode m_Tally_countRow.2.1 0 = .ok (.iconst 0, 1) := by decide +kernel
theorem d_Tally_countRow_1 : decode m_Tally_countRow.2.1 1 = .ok (.istore_n 3, 1) := by decide +kernel
theorem d_Tally_countRow_2 : decode m_Tally_countRow.2.1 2 = .ok (.iload_n 3, 1) := by decide +kernel
theorem d_Tally_countRow_3 : decode m_Tally_countRow.2.1 3 = .ok (.aload_n 1, 1) := by decide +kernel
theorem d_Tally_countRow_4 : decode m_Tally_countRow.2.1 4 = .ok (.invokevirtual 37, 3) := by decide +kernel
theorem d_Tally_countRow_7 : decode m_Tally_countRow.2.1 7 = .ok (.if_icmp .ge 49, 3) := by decide +kernel
theorem d_Tally_countRow_10 : decode m_Tally_countRow.2.1 10 = .ok (.aload_n 1, 1) := by decide +kernel
theorem d_Tally_countRow_11 : decode m_Tally_countRow.2.1 11 = .ok (.iload_n 3, 1) := by decide +kernel
theorem d_Tally_countRow_12 : decode m_Tally_countRow.2.1 12 = .ok (.invokevirtual 43, 3) := by decide +kernel
theorem d_Tally_countRow_15 : decode m_Tally_countRow.2.1 15 = .ok (.istore 4, 2) := by decide +kernel
theorem d_Tally_countRow_17 : decode m_Tally_countRow.2.1 17 = .ok (.iload 4, 2) := by decide +kernel
theorem d_Tally_countRow_19 : decode m_Tally_countRow.2.1 19 = .ok (.ifCond .lt 31, 3) := by decide +kernel
theorem d_Tally_countRow_22 : decode m_Tally_countRow.2.1 22 = .ok (.iload 4, 2) := by decide +kernel
theorem d_Tally_countRow_24 : decode m_Tally_countRow.2.1 24 = .ok (.iconst 5, 1) := by decide +kernel
theorem d_Tally_countRow_25 : decode m_Tally_countRow.2.1 25 = .ok (.if_icmp .ge 25, 3) := by decide +kernel
theorem d_Tally_countRow_28 : decode m_Tally_countRow.2.1 28 = .ok (.aload_n 0, 1) := by decide +kernel
theorem d_Tally_countRow_29 : decode m_Tally_countRow.2.1 29 = .ok (.getfield 9, 3) := by decide +kernel
theorem d_Tally_countRow_32 : decode m_Tally_countRow.2.1 32 = .ok (.iload 4, 2) := by decide +kernel
theorem d_Tally_countRow_34 : decode m_Tally_countRow.2.1 34 = .ok (.dup2, 1) := by decide +kernel
theorem d_Tally_countRow_35 : decode m_Tally_countRow.2.1 35 = .ok (.iaload, 1) := by decide +kernel
theorem d_Tally_countRow_36 : decode m_Tally_countRow.2.1 36 = .ok (.iconst 1, 1) := by decide +kernel
theorem d_Tally_countRow_37 : decode m_Tally_countRow.2.1 37 = .ok (.iadd, 1) := by decide +kernel
theorem d_Tally_countRow_38 : decode m_Tally_countRow.2.1 38 = .ok (.iastore, 1) := by decide +kernel
theorem d_Tally_countRow_39 : decode m_Tally_countRow.2.1 39 = .ok (.aload_n 0, 1) := by decide +kernel
theorem d_Tally_countRow_40 : decode m_Tally_countRow.2.1 40 = .ok (.getfield 15, 3) := by decide +kernel
theorem d_Tally_countRow_43 : decode m_Tally_countRow.2.1 43 = .ok (.iload 4, 2) := by decide +kernel
theorem d_Tally_countRow_45 : decode m_Tally_countRow.2.1 45 = .ok (.dup2, 1) := by decide +kernel
theorem d_Tally_countRow_46 : decode m_Tally_countRow.2.1 46 = .ok (.iaload, 1) := by decide +kernel
theorem d_Tally_countRow_47 : decode m_Tally_countRow.2.1 47 = .ok (.iload_n 2, 1) := by decide +kernel
theorem d_Tally_countRow_48 : decode m_Tally_countRow.2.1 48 = .ok (.iadd, 1) := by decide +kernel
theorem d_Tally_countRow_49 : decode m_Tally_countRow.2.1 49 = .ok (.iastore, 1) := by decide +kernel
theorem d_Tally_countRow_50 : decode m_Tally_countRow.2.1 50 = .ok (.iinc 3 1, 3) := by decide +kernel
theorem d_Tally_countRow_53 : decode m_Tally_countRow.2.1 53 = .ok (.goto (-51), 3) := by decide +kernel
theorem d_Tally_countRow_56 : decode m_Tally_countRow.2.1 56 = .ok (.return_, 1) := by decide +kernel
theorem d_Tally_mostOfAVariable_0 : decode m_Tally_mostOfAVariable.2.1 0 = .ok (.aload_n 0, 1) := by decide +kernel
theorem d_Tally_mostOfAVariable_1 : decode m_Tally_mostOfAVariable.2.1 1 = .ok (.getfield 9, 3) := by decide +kernel
theorem d_Tally_mostOfAVariable_4 : decode m_Tally_mostOfAVariable.2.1 4 = .ok (.iconst 2, 1) := by decide +kernel
theorem d_Tally_mostOfAVariable_5 : decode m_Tally_mostOfAVariable.2.1 5 = .ok (.iaload, 1) := by decide +kernel
theorem d_Tally_mostOfAVariable_6 : decode m_Tally_mostOfAVariable.2.1 6 = .ok (.aload_n 0, 1) := by decide +kernel
theorem d_Tally_mostOfAVariable_7 : decode m_Tally_mostOfAVariable.2.1 7 = .ok (.getfield 9, 3) := by decide +kernel
theorem d_Tally_mostOfAVariable_10 : decode m_Tally_mostOfAVariable.2.1 10 = .ok (.iconst 3, 1) := by decide +kernel
theorem d_Tally_mostOfAVariable_11 : decode m_Tally_mostOfAVariable.2.1 11 = .ok (.iaload, 1) := by decide +kernel
theorem d_Tally_mostOfAVariable_12 : decode m_Tally_mostOfAVariable.2.1 12 = .ok (.aload_n 0, 1) := by decide +kernel
theorem d_Tally_mostOfAVariable_13 : decode m_Tally_mostOfAVariable.2.1 13 = .ok (.getfield 9, 3) := by decide +kernel
