/-! the instructions, read off the bytes (2) -/
theorem d_Tally_mostOfAVariable_16 : decode m_Tally_mostOfAVariable.2.1 16 = .ok (.iconst 4, 1) := by decide +kernel
theorem d_Tally_mostOfAVariable_17 : decode m_Tally_mostOfAVariable.2.1 17 = .ok (.iaload, 1) := by decide +kernel
theorem d_Tally_mostOfAVariable_18 : decode m_Tally_mostOfAVariable.2.1 18 = .ok (.invokestatic 47, 3) := by decide +kernel
theorem d_Tally_mostOfAVariable_21 : decode m_Tally_mostOfAVariable.2.1 21 = .ok (.invokestatic 47, 3) := by decide +kernel
theorem d_Tally_mostOfAVariable_24 : decode m_Tally_mostOfAVariable.2.1 24 = .ok (.ireturn, 1) := by decide +kernel
theorem d_Tally_wordsGive_0 : decode m_Tally_wordsGive.2.1 0 = .ok (.iload_n 1, 1) := by decide +kernel
theorem d_Tally_wordsGive_1 : decode m_Tally_wordsGive.2.1 1 = .ok (.aload_n 0, 1) := by decide +kernel
theorem d_Tally_wordsGive_2 : decode m_Tally_wordsGive.2.1 2 = .ok (.getfield 15, 3) := by decide +kernel
theorem d_Tally_wordsGive_5 : decode m_Tally_wordsGive.2.1 5 = .ok (.iconst 2, 1) := by decide +kernel
theorem d_Tally_wordsGive_6 : decode m_Tally_wordsGive.2.1 6 = .ok (.iaload, 1) := by decide +kernel
theorem d_Tally_wordsGive_7 : decode m_Tally_wordsGive.2.1 7 = .ok (.imul, 1) := by decide +kernel
theorem d_Tally_wordsGive_8 : decode m_Tally_wordsGive.2.1 8 = .ok (.iload_n 2, 1) := by decide +kernel
theorem d_Tally_wordsGive_9 : decode m_Tally_wordsGive.2.1 9 = .ok (.aload_n 0, 1) := by decide +kernel
theorem d_Tally_wordsGive_10 : decode m_Tally_wordsGive.2.1 10 = .ok (.getfield 15, 3) := by decide +kernel
theorem d_Tally_wordsGive_13 : decode m_Tally_wordsGive.2.1 13 = .ok (.iconst 3, 1) := by decide +kernel
theorem d_Tally_wordsGive_14 : decode m_Tally_wordsGive.2.1 14 = .ok (.iaload, 1) := by decide +kernel
theorem d_Tally_wordsGive_15 : decode m_Tally_wordsGive.2.1 15 = .ok (.imul, 1) := by decide +kernel
theorem d_Tally_wordsGive_16 : decode m_Tally_wordsGive.2.1 16 = .ok (.iadd, 1) := by decide +kernel
theorem d_Tally_wordsGive_17 : decode m_Tally_wordsGive.2.1 17 = .ok (.iload_n 3, 1) := by decide +kernel
theorem d_Tally_wordsGive_18 : decode m_Tally_wordsGive.2.1 18 = .ok (.aload_n 0, 1) := by decide +kernel
theorem d_Tally_wordsGive_19 : decode m_Tally_wordsGive.2.1 19 = .ok (.getfield 15, 3) := by decide +kernel
theorem d_Tally_wordsGive_22 : decode m_Tally_wordsGive.2.1 22 = .ok (.iconst 4, 1) := by decide +kernel
theorem d_Tally_wordsGive_23 : decode m_Tally_wordsGive.2.1 23 = .ok (.iaload, 1) := by decide +kernel
theorem d_Tally_wordsGive_24 : decode m_Tally_wordsGive.2.1 24 = .ok (.imul, 1) := by decide +kernel
theorem d_Tally_wordsGive_25 : decode m_Tally_wordsGive.2.1 25 = .ok (.iadd, 1) := by decide +kernel
theorem d_Tally_wordsGive_26 : decode m_Tally_wordsGive.2.1 26 = .ok (.ireturn, 1) := by decide +kernel
theorem d_Tally_lacking_0 : decode m_Tally_lacking.2.1 0 = .ok (.iload_n 1, 1) := by decide +kernel
theorem d_Tally_lacking_1 : decode m_Tally_lacking.2.1 1 = .ok (.ifCond .ne 18, 3) := by decide +kernel
theorem d_Tally_lacking_4 : decode m_Tally_lacking.2.1 4 = .ok (.aload_n 0, 1) := by decide +kernel
theorem d_Tally_lacking_5 : decode m_Tally_lacking.2.1 5 = .ok (.getfield 15, 3) := by decide +kernel
theorem d_Tally_lacking_8 : decode m_Tally_lacking.2.1 8 = .ok (.iconst 0, 1) := by decide +kernel
theorem d_Tally_lacking_9 : decode m_Tally_lacking.2.1 9 = .ok (.iaload, 1) := by decide +kernel
theorem d_Tally_lacking_10 : decode m_Tally_lacking.2.1 10 = .ok (.ineg, 1) := by decide +kernel
theorem d_Tally_lacking_11 : decode m_Tally_lacking.2.1 11 = .ok (.aload_n 0, 1) := by decide +kernel
theorem d_Tally_lacking_12 : decode m_Tally_lacking.2.1 12 = .ok (.getfield 15, 3) := by decide +kernel
theorem d_Tally_lacking_15 : decode m_Tally_lacking.2.1 15 = .ok (.iconst 1, 1) := by decide +kernel
theorem d_Tally_lacking_16 : decode m_Tally_lacking.2.1 16 = .ok (.iaload, 1) := by decide +kernel
theorem d_Tally_lacking_17 : decode m_Tally_lacking.2.1 17 = .ok (.isub, 1) := by decide +kernel
theorem d_Tally_lacking_18 : decode m_Tally_lacking.2.1 18 = .ok (.ireturn, 1) := by decide +kernel
theorem d_Tally_lacking_19 : decode m_Tally_lacking.2.1 19 = .ok (.iload_n 1, 1) := by decide +kernel
theorem d_Tally_lacking_20 : decode m_Tally_lacking.2.1 20 = .ok (.iconst 1, 1) := by decide +kernel
theorem d_Tally_lacking_21 : decode m_Tally_lacking.2.1 21 = .ok (.if_icmp .ne 12, 3) := by decide +kernel
theorem d_Tally_lacking_24 : decode m_Tally_lacking.2.1 24 = .ok (.aload_n 0, 1) := by decide +kernel
theorem d_Tally_lacking_25 : decode m_Tally_lacking.2.1 25 = .ok (.getfield 15, 3) := by decide +kernel
theorem d_Tally_lacking_28 : decode m_Tally_lacking.2.1 28 = .ok (.iconst 0, 1) := by decide +kernel
theorem d_Tally_lacking_29 : decode m_Tally_lacking.2.1 29 = .ok (.iaload, 1) := by decide +kernel
theorem d_Tally_lacking_30 : decode m_Tally_lacking.2.1 30 = .ok (.goto 9, 3) := by decide +kernel
theorem d_Tally_lacking_33 : decode m_Tally_lacking.2.1 33 = .ok (.aload_n 0, 1) := by decide +kernel
theorem d_Tally_lacking_34 : decode m_Tally_lacking.2.1 34 = .ok (.getfield 15, 3) := by decide +kernel
theorem d_Tally_lacking_37 : decode m_Tally_lacking.2.1 37 = .ok (.iconst 1, 1) := by decide +kernel
theorem d_Tally_lacking_38 : decode m_Tally_lacking.2.1 38 = .ok (.iaload, 1) := by decide +kernel
theorem d_Tally_lacking_39 : decode m_Tally_lacking.2.1 39 = .ok (.istore_n 2, 1) := by decide +kernel
theorem d_Tally_lacking_40 : decode m_Tally_lacking.2.1 40 = .ok (.iload_n 1, 1) := by decide +kernel
theorem d_Tally_lacking_41 : decode m_Tally_lacking.2.1 41 = .ok (.iconst 1, 1) := by decide +kernel
theorem d_Tally_lacking_42 : decode m_Tally_lacking.2.1 42 = .ok (.if_icmp .ne 12, 3) := by decide +kernel
theorem d_Tally_lacking_45 : decode m_Tally_lacking.2.1 45 = .ok (.aload_n 0, 1) := by decide +kernel
theorem d_Tally_lacking_46 : decode m_Tally_lacking.2.1 46 = .ok (.getfield 15, 3) := by decide +kernel
theorem d_Tally_lacking_49 : decode m_Tally_lacking.2.1 49 = .ok (.iconst 1, 1) := by decide +kernel
theorem d_Tally_lacking_50 : decode m_Tally_lacking.2.1 50 = .ok (.iaload, 1) := by decide +kernel
theorem d_Tally_lacking_51 : decode m_Tally_lacking.2.1 51 = .ok (.goto 9, 3) := by decide +kernel
theorem d_Tally_lacking_54 : decode m_Tally_lacking.2.1 54 = .ok (.aload_n 0, 1) := by decide +kernel
theorem d_Tally_lacking_55 : decode m_Tally_lacking.2.1 55 = .ok (.getfield 15, 3) := by decide +kernel
theorem d_Tally_lacking_58 : decode m_Tally_lacking.2.1 58 = .ok (.iconst 0, 1) := by decide +kernel
theorem d_Tally_lacking_59 : decode m_Tally_lacking.2.1 59 = .ok (.iaload, 1) := by decide +kernel
theorem d_Tally_lacking_60 : decode m_Tally_lacking.2.1 60 = .ok (.istore_n 3, 1) := by decide +kernel
theorem d_Tally_lacking_61 : decode m_Tally_lacking.2.1 61 = .ok (.iload_n 3, 1) := by decide +kernel
theorem d_Tally_lacking_62 : decode m_Tally_lacking.2.1 62 = .ok (.ifCond .ne 8, 3) := by decide +kernel
theorem d_Tally_lacking_65 : decode m_Tally_lacking.2.1 65 = .ok (.iload_n 2, 1) := by decide +kernel
theorem d_Tally_lacking_66 : decode m_Tally_lacking.2.1 66 = .ok (.ineg, 1) := by decide +kernel
theorem d_Tally_lacking_67 : decode m_Tally_lacking.2.1 67 = .ok (.goto 6, 3) := by decide +kernel
theorem d_Tally_lacking_70 : decode m_Tally_lacking.2.1 70 = .ok (.sipush 1000, 3) := by decide +kernel
theorem d_Tally_lacking_73 : decode m_Tally_lacking.2.1 73 = .ok (.ireturn, 1) := by decide +kernel
theorem d_Trial_init_0 : decode m_Trial_init.2.1 0 = .ok (.aload_n 0, 1) := by decide +kernel
theorem d_Trial_init_1 : decode m_Trial_init.2.1 1 = .ok (.invokespecial 3, 3) := by decide +kernel
theorem d_Trial_init_4 : decode m_Trial_init.2.1 4 = .ok (.aload_n 0, 1) := by decide +kernel
theorem d_Trial_init_5 : decode m_Trial_init.2.1 5 = .ok (.bipush 15, 2) := by decide +kernel
theorem d_Trial_init_7 : decode m_Trial_init.2.1 7 = .ok (.newarray .int, 2) := by decide +kernel
theorem d_Trial_init_9 : decode m_Trial_init.2.1 9 = .ok (.putfield 11, 3) := by decide +kernel
theorem d_Trial_init_12 : decode m_Trial_init.2.1 12 = .ok (.aload_n 0, 1) := by decide +kernel
theorem d_Trial_init_13 : decode m_Trial_init.2.1 13 = .ok (.iconst 3, 1) := by decide +kernel
theorem d_Trial_init_14 : decode m_Trial_init.2.1 14 = .ok (.newarray .int, 2) := by decide +kernel
theorem d_Trial_init_16 : decode m_Trial_init.2.1 16 = .ok (.putfield 15, 3) := by decide +kernel
theorem d_Trial_init_19 : decode m_Trial_init.2.1 19 = .ok (.aload_n 0, 1) := by decide +kernel
theorem d_Trial_init_20 : decode m_Trial_init.2.1 20 = .ok (.iconst 5, 1) := by decide +kernel
theorem d_Trial_init_21 : decode m_Trial_init.2.1 21 = .ok (.newarray .int, 2) := by decide +kernel
theorem d_Trial_init_23 : decode m_Trial_init.2.1 23 = .ok (.putfield 18, 3) := by decide +kernel
theorem d_Trial_init_26 : decode m_Trial_init.2.1 26 = .ok (.aload_n 0, 1) := by decide +kernel
theorem d_Trial_init_27 : decode m_Trial_init.2.1 27 = .ok (.iconst 5, 1) := by decide +kernel
theorem d_Trial_init_28 : decode m_Trial_init.2.1 28 = .ok (.newarray .int, 2) := by decide +kernel
theorem d_Trial_init_30 : decode m_Trial_init.2.1 30 = .ok (.putfield 21, 3) := by decide +kernel
theorem d_Trial_init_33 : decode m_Trial_init.2.1 33 = .ok (.iconst 0, 1) := by decide +kernel
theorem d_Trial_init_34 : decode m_Trial_init.2.1 34 = .ok (.istore_n 1, 1) := by decide +kernel
theorem d_Trial_init_35 : decode m_Trial_init.2.1 35 = .ok (.iload_n 1, 1) := by decide +kernel
theorem d_Trial_init_36 : decode m_Trial_init.2.1 36 = .ok (.iconst 2, 1) := by decide +kernel
theorem d_Trial_init_37 : decode m_Trial_init.2.1 37 = .ok (.if_icmp .ge 23, 3) := by decide +kernel
theorem d_Trial_init_40 : decode m_Trial_init.2.1 40 = .ok (.aload_n 0, 1) := by decide +kernel
theorem d_Trial_init_41 : decode m_Trial_init.2.1 41 = .ok (.getfield 18, 3) := by decide +kernel
theorem d_Trial_init_44 : decode m_Trial_init.2.1 44 = .ok (.iload_n 1, 1) := by decide +kernel
theorem d_Trial_init_45 : decode m_Trial_init.2.1 45 = .ok (.iconst 1, 1) := by decide +kernel
theorem d_Trial_init_46 : decode m_Trial_init.2.1 46 = .ok (.iastore, 1) := by decide +kernel
theorem d_Trial_init_47 : decode m_Trial_init.2.1 47 = .ok (.aload_n 0, 1) := by decide +kernel
theorem d_Trial_init_48 : decode m_Trial_init.2.1 48 = .ok (.getfield 21, 3) := by decide +kernel
theorem d_Trial_init_51 : decode m_Trial_init.2.1 51 = .ok (.iload_n 1, 1) := by decide +kernel
theorem d_Trial_init_52 : decode m_Trial_init.2.1 52 = .ok (.iload_n 1, 1) := by decide +kernel
theorem d_Trial_init_53 : decode m_Trial_init.2.1 53 = .ok (.iastore, 1) := by decide +kernel
theorem d_Trial_init_54 : decode m_Trial_init.2.1 54 = .ok (.iinc 1 1, 3) := by decide +kernel
theorem d_Trial_init_57 : decode m_Trial_init.2.1 57 = .ok (.goto (-22), 3) := by decide +kernel
theorem d_Trial_init_60 : decode m_Trial_init.2.1 60 = .ok (.return_, 1) := by decide +kernel
theorem d_Trial_seek_0 : decode m_Trial_seek.2.1 0 = .ok (.aload_n 0, 1) := by decide +kernel
theorem d_Trial_seek_1 : decode m_Trial_seek.2.1 1 = .ok (.aload_n 1, 1) := by decide +kernel
theorem d_Trial_seek_2 : decode m_Trial_seek.2.1 2 = .ok (.getfield 24, 3) := by decide +kernel
theorem d_Trial_seek_5 : decode m_Trial_seek.2.1 5 = .ok (.invokevirtual 30, 3) := by decide +kernel
theorem d_Trial_seek_8 : decode m_Trial_seek.2.1 8 = .ok (.iconst 0, 1) := by decide +kernel
theorem d_Trial_seek_9 : decode m_Trial_seek.2.1 9 = .ok (.istore_n 3, 1) := by decide +kernel
theorem d_Trial_seek_10 : decode m_Trial_seek.2.1 10 = .ok (.iload_n 3, 1) := by decide +kernel
theorem d_Trial_seek_11 : decode m_Trial_seek.2.1 11 = .ok (.iconst 3, 1) := by decide +kernel
theorem d_Trial_seek_12 : decode m_Trial_seek.2.1 12 = .ok (.if_icmp .ge 27, 3) := by decide +kernel
theorem d_Trial_seek_15 : decode m_Trial_seek.2.1 15 = .ok (.aload_n 0, 1) := by decide +kernel
theorem d_Trial_seek_16 : decode m_Trial_seek.2.1 16 = .ok (.getfield 15, 3) := by decide +kernel
theorem d_Trial_seek_19 : decode m_Trial_seek.2.1 19 = .ok (.iload_n 3, 1) := by decide +kernel
theorem d_Trial_seek_20 : decode m_Trial_seek.2.1 20 = .ok (.aload_n 0, 1) := by decide +kernel
theorem d_Trial_seek_21 : decode m_Trial_seek.2.1 21 = .ok (.aload_n 1, 1) := by decide +kernel
theorem d_Trial_seek_22 : decode m_Trial_seek.2.1 22 = .ok (.getfield 34, 3) := by decide +kernel
theorem d_Trial_seek_25 : decode m_Trial_seek.2.1 25 = .ok (.iload_n 3, 1) := by decide +kernel
theorem d_Trial_seek_26 : decode m_Trial_seek.2.1 26 = .ok (.invokestatic 38, 3) := by decide +kernel
theorem d_Trial_seek_29 : decode m_Trial_seek.2.1 29 = .ok (.invokevirtual 44, 3) := by decide +kernel
theorem d_Trial_seek_32 : decode m_Trial_seek.2.1 32 = .ok (.iastore, 1) := by decide +kernel
theorem d_Trial_seek_33 : decode m_Trial_seek.2.1 33 = .ok (.iinc 3 1, 3) := by decide +kernel
theorem d_Trial_seek_36 : decode m_Trial_seek.2.1 36 = .ok (.goto (-26), 3) := by decide +kernel
theorem d_Trial_seek_39 : decode m_Trial_seek.2.1 39 = .ok (.iconst 0, 1) := by decide +kernel
theorem d_Trial_seek_40 : decode m_Trial_seek.2.1 40 = .ok (.istore_n 3, 1) := by decide +kernel
theorem d_Trial_seek_41 : decode m_Trial_seek.2.1 41 = .ok (.iload_n 3, 1) := by decide +kernel
theorem d_Trial_seek_42 : decode m_Trial_seek.2.1 42 = .ok (.bipush 9, 2) := by decide +kernel
theorem d_Trial_seek_44 : decode m_Trial_seek.2.1 44 = .ok (.if_icmp .gt 25, 3) := by decide +kernel
theorem d_Trial_seek_47 : decode m_Trial_seek.2.1 47 = .ok (.aload_n 0, 1) := by decide +kernel
theorem d_Trial_seek_48 : decode m_Trial_seek.2.1 48 = .ok (.aload_n 1, 1) := by decide +kernel
theorem d_Trial_seek_49 : decode m_Trial_seek.2.1 49 = .ok (.aload_n 2, 1) := by decide +kernel
theorem d_Trial_seek_50 : decode m_Trial_seek.2.1 50 = .ok (.iload_n 3, 1) := by decide +kernel
theorem d_Trial_seek_51 : decode m_Trial_seek.2.1 51 = .ok (.invokevirtual 48, 3) := by decide +kernel
theorem d_Trial_seek_54 : decode m_Trial_seek.2.1 54 = .ok (.ifCond .eq 9, 3) := by decide +kernel
theorem d_Trial_seek_57 : decode m_Trial_seek.2.1 57 = .ok (.aload_n 0, 1) := by decide +kernel
theorem d_Trial_seek_58 : decode m_Trial_seek.2.1 58 = .ok (.iload_n 3, 1) := by decide +kernel
theorem d_Trial_seek_59 : decode m_Trial_seek.2.1 59 = .ok (.putfield 52, 3) := by decide +kernel
theorem d_Trial_seek_62 : decode m_Trial_seek.2.1 62 = .ok (.return_, 1) := by decide +kernel
theorem d_Trial_seek_63 : decode m_Trial_seek.2.1 63 = .ok (.iinc 3 1, 3) := by decide +kernel
theorem d_Trial_seek_66 : decode m_Trial_seek.2.1 66 = .ok (.goto (-25), 3) := by decide +kernel
theorem d_Trial_seek_69 : decode m_Trial_seek.2.1 69 = .ok (.aload_n 0, 1) := by decide +kernel
theorem d_Trial_seek_70 : decode m_Trial_seek.2.1 70 = .ok (.bipush (-6), 2) := by decide +kernel
theorem d_Trial_seek_72 : decode m_Trial_seek.2.1 72 = .ok (.putfield 52, 3) := by decide +kernel
theorem d_Trial_seek_75 : decode m_Trial_seek.2.1 75 = .ok (.return_, 1) := by decide +kernel
theorem d_Trial_seekOfSize_0 : decode m_Trial_seekOfSize.2.1 0 = .ok (.iconst 0, 1) := by decide +kernel
theorem d_Trial_seekOfSize_1 : decode m_Trial_seekOfSize.2.1 1 = .ok (.istore 4, 2) := by decide +kernel
theorem d_Trial_seekOfSize_3 : decode m_Trial_seekOfSize.2.1 3 = .ok (.iload 4, 2) := by decide +kernel
theorem d_Trial_seekOfSize_5 : decode m_Trial_seekOfSize.2.1 5 = .ok (.bipush 15, 2) := by decide +kernel
theorem d_Trial_seekOfSize_7 : decode m_Trial_seekOfSize.2.1 7 = .ok (.if_icmp .ge 113, 3) := by decide +kernel
theorem d_Trial_seekOfSize_10 : decode m_Trial_seekOfSize.2.1 10 = .ok (.aload_n 0, 1) := by decide +kernel
theorem d_Trial_seekOfSize_11 : decode m_Trial_seekOfSize.2.1 11 = .ok (.iconst 0, 1) := by decide +kernel
theorem d_Trial_seekOfSize_12 : decode m_Trial_seekOfSize.2.1 12 = .ok (.iload 4, 2) := by decide +kernel
theorem d_Trial_seekOfSize_14 : decode m_Trial_seekOfSize.2.1 14 = .ok (.invokevirtual 55, 3) := by decide +kernel
theorem d_Trial_seekOfSize_17 : decode m_Trial_seekOfSize.2.1 17 = .ok (.ifCond .ne 6, 3) := by decide +kernel
theorem d_Trial_seekOfSize_20 : decode m_Trial_seekOfSize.2.1 20 = .ok (.goto 94, 3) := by decide +kernel
theorem d_Trial_seekOfSize_23 : decode m_Trial_seekOfSize.2.1 23 = .ok (.iconst 0, 1) := by decide +kernel
theorem d_Trial_seekOfSize_24 : decode m_Trial_seekOfSize.2.1 24 = .ok (.istore 5, 2) := by decide +kernel
theorem d_Trial_seekOfSize_26 : decode m_Trial_seekOfSize.2.1 26 = .ok (.iload 5, 2) := by decide +kernel
theorem d_Trial_seekOfSize_28 : decode m_Trial_seekOfSize.2.1 28 = .ok (.bipush 15, 2) := by decide +kernel
theorem d_Trial_seekOfSize_30 : decode m_Trial_seekOfSize.2.1 30 = .ok (.if_icmp .ge 84, 3) := by decide +kernel
theorem d_Trial_seekOfSize_33 : decode m_Trial_seekOfSize.2.1 33 = .ok (.aload_n 0, 1) := by decide +kernel
theorem d_Trial_seekOfSize_34 : decode m_Trial_seekOfSize.2.1 34 = .ok (.iconst 1, 1) := by decide +kernel
theorem d_Trial_seekOfSize_35 : decode m_Trial_seekOfSize.2.1 35 = .ok (.iload 5, 2) := by decide +kernel
theorem d_Trial_seekOfSize_37 : decode m_Trial_seekOfSize.2.1 37 = .ok (.invokevirtual 55, 3) := by decide +kernel
theorem d_Trial_seekOfSize_40 : decode m_Trial_seekOfSize.2.1 40 = .ok (.ifCond .ne 6, 3) := by decide +kernel
theorem d_Trial_seekOfSize_43 : decode m_Trial_seekOfSize.2.1 43 = .ok (.goto 65, 3) := by decide +kernel
theorem d_Trial_seekOfSize_46 : decode m_Trial_seekOfSize.2.1 46 = .ok (.iload_n 3, 1) := by decide +kernel
theorem d_Trial_seekOfSize_47 : decode m_Trial_seekOfSize.2.1 47 = .ok (.iload 4, 2) := by decide +kernel
theorem d_Trial_seekOfSize_49 : decode m_Trial_seekOfSize.2.1 49 = .ok (.invokestatic 59, 3) := by decide +kernel
theorem d_Trial_seekOfSize_52 : decode m_Trial_seekOfSize.2.1 52 = .ok (.isub, 1) := by decide +kernel
theorem d_Trial_seekOfSize_53 : decode m_Trial_seekOfSize.2.1 53 = .ok (.iload 5, 2) := by decide +kernel
theorem d_Trial_seekOfSize_55 : decode m_Trial_seekOfSize.2.1 55 = .ok (.invokestatic 59, 3) := by decide +kernel
theorem d_Trial_seekOfSize_58 : decode m_Trial_seekOfSize.2.1 58 = .ok (.isub, 1) := by decide +kernel
theorem d_Trial_seekOfSize_59 : decode m_Trial_seekOfSize.2.1 59 = .ok (.istore 6, 2) := by decide +kernel
theorem d_Trial_seekOfSize_61 : decode m_Trial_seekOfSize.2.1 61 = .ok (.iload 6, 2) := by decide +kernel
theorem d_Trial_seekOfSize_63 : decode m_Trial_seekOfSize.2.1 63 = .ok (.ifCond .lt 45, 3) := by decide +kernel
theorem d_Trial_seekOfSize_66 : decode m_Trial_seekOfSize.2.1 66 = .ok (.iload 6, 2) := by decide +kernel
theorem d_Trial_seekOfSize_68 : decode m_Trial_seekOfSize.2.1 68 = .ok (.iconst 3, 1) := by decide +kernel
theorem d_Trial_seekOfSize_69 : decode m_Trial_seekOfSize.2.1 69 = .ok (.if_icmp .gt 39, 3) := by decide +kernel
theorem d_Trial_seekOfSize_72 : decode m_Trial_seekOfSize.2.1 72 = .ok (.aload_n 2, 1) := by decide +kernel
theorem d_Trial_seekOfSize_73 : decode m_Trial_seekOfSize.2.1 73 = .ok (.iload 4, 2) := by decide +kernel
theorem d_Trial_seekOfSize_75 : decode m_Trial_seekOfSize.2.1 75 = .ok (.invokestatic 59, 3) := by decide +kernel
theorem d_Trial_seekOfSize_78 : decode m_Trial_seekOfSize.2.1 78 = .ok (.iload 5, 2) := by decide +kernel
theorem d_Trial_seekOfSize_80 : decode m_Trial_seekOfSize.2.1 80 = .ok (.invokestatic 59, 3) := by decide +kernel
theorem d_Trial_seekOfSize_83 : decode m_Trial_seekOfSize.2.1 83 = .ok (.iload 6, 2) := by decide +kernel
theorem d_Trial_seekOfSize_85 : decode m_Trial_seekOfSize.2.1 85 = .ok (.invokevirtual 62, 3) := by decide +kernel
theorem d_Trial_seekOfSize_88 : decode m_Trial_seekOfSize.2.1 88 = .ok (.aload_n 2, 1) := by decide +kernel
theorem d_Trial_seekOfSize_89 : decode m_Trial_seekOfSize.2.1 89 = .ok (.iconst 0, 1) := by decide +kernel
theorem d_Trial_seekOfSize_90 : decode m_Trial_seekOfSize.2.1 90 = .ok (.invokevirtual 68, 3) := by decide +kernel
theorem d_Trial_seekOfSize_93 : decode m_Trial_seekOfSize.2.1 93 = .ok (.if_icmp .ne 15, 3) := by decide +kernel
theorem d_Trial_seekOfSize_96 : decode m_Trial_seekOfSize.2.1 96 = .ok (.aload_n 0, 1) := by decide +kernel
theorem d_Trial_seekOfSize_97 : decode m_Trial_seekOfSize.2.1 97 = .ok (.aload_n 1, 1) := by decide +kernel
theorem d_Trial_seekOfSize_98 : decode m_Trial_seekOfSize.2.1 98 = .ok (.iload 6, 2) := by decide +kernel
theorem d_Trial_seekOfSize_100 : decode m_Trial_seekOfSize.2.1 100 = .ok (.invokevirtual 71, 3) := by decide +kernel
theorem d_Trial_seekOfSize_103 : decode m_Trial_seekOfSize.2.1 103 = .ok (.ifCond .eq 5, 3) := by decide +kernel
theorem d_Trial_seekOfSize_106 : decode m_Trial_seekOfSize.2.1 106 = .ok (.iconst 1, 1) := by decide +kernel
theorem d_Trial_seekOfSize_107 : decode m_Trial_seekOfSize.2.1 107 = .ok (.ireturn, 1) := by decide +kernel
theorem d_Trial_seekOfSize_108 : decode m_Trial_seekOfSize.2.1 108 = .ok (.iinc 5 1, 3) := by decide +kernel
theorem d_Trial_seekOfSize_111 : decode m_Trial_seekOfSize.2.1 111 = .ok (.goto (-85), 3) := by decide +kernel
theorem d_Trial_seekOfSize_114 : decode m_Trial_seekOfSize.2.1 114 = .ok (.iinc 4 1, 3) := by decide +kernel
theorem d_Trial_seekOfSize_117 : decode m_Trial_seekOfSize.2.1 117 = .ok (.goto (-114), 3) := by decide +kernel
theorem d_Trial_seekOfSize_120 : decode m_Trial_seekOfSize.2.1 120 = .ok (.iconst 0, 1) := by decide +kernel
theorem d_Trial_seekOfSize_121 : decode m_Trial_seekOfSize.2.1 121 = .ok (.ireturn, 1) := by decide +kernel
theorem d_Trial_seekLast_0 : decode m_Trial_seekLast.2.1 0 = .ok (.iconst 1, 1) := by decide +kernel
theorem d_Trial_seekLast_1 : decode m_Trial_seekLast.2.1 1 = .ok (.iload_n 2, 1) := by decide +kernel
theorem d_Trial_seekLast_2 : decode m_Trial_seekLast.2.1 2 = .ok (.ishl, 1) := by decide +kernel
theorem d_Trial_seekLast_3 : decode m_Trial_seekLast.2.1 3 = .ok (.iconst 1, 1) := by decide +kernel
theorem d_Trial_seekLast_4 : decode m_Trial_seekLast.2.1 4 = .ok (.isub, 1) := by decide +kernel
theorem d_Trial_seekLast_5 : decode m_Trial_seekLast.2.1 5 = .ok (.istore_n 3, 1) := by decide +kernel
theorem d_Trial_seekLast_6 : decode m_Trial_seekLast.2.1 6 = .ok (.iload_n 3, 1) := by decide +kernel
theorem d_Trial_seekLast_7 : decode m_Trial_seekLast.2.1 7 = .ok (.iconst 2, 1) := by decide +kernel
theorem d_Trial_seekLast_8 : decode m_Trial_seekLast.2.1 8 = .ok (.iload_n 2, 1) := by decide +kernel
theorem d_Trial_seekLast_9 : decode m_Trial_seekLast.2.1 9 = .ok (.ishl, 1) := by decide +kernel
theorem d_Trial_seekLast_10 : decode m_Trial_seekLast.2.1 10 = .ok (.iconst 1, 1) := by decide +kernel
theorem d_Trial_seekLast_11 : decode m_Trial_seekLast.2.1 11 = .ok (.isub, 1) := by decide +kernel
theorem d_Trial_seekLast_12 : decode m_Trial_seekLast.2.1 12 = .ok (.if_icmp .ge 40, 3) := by decide +kernel
theorem d_Trial_seekLast_15 : decode m_Trial_seekLast.2.1 15 = .ok (.aload_n 0, 1) := by decide +kernel
theorem d_Trial_seekLast_16 : decode m_Trial_seekLast.2.1 16 = .ok (.iconst 2, 1) := by decide +kernel
theorem d_Trial_seekLast_17 : decode m_Trial_seekLast.2.1 17 = .ok (.iload_n 3, 1) := by decide +kernel
theorem d_Trial_seekLast_18 : decode m_Trial_seekLast.2.1 18 = .ok (.invokevirtual 55, 3) := by decide +kernel
theorem d_Trial_seekLast_21 : decode m_Trial_seekLast.2.1 21 = .ok (.ifCond .eq 25, 3) := by decide +kernel
theorem d_Trial_seekLast_24 : decode m_Trial_seekLast.2.1 24 = .ok (.aload_n 0, 1) := by decide +kernel
theorem d_Trial_seekLast_25 : decode m_Trial_seekLast.2.1 25 = .ok (.aload_n 1, 1) := by decide +kernel
theorem d_Trial_seekLast_26 : decode m_Trial_seekLast.2.1 26 = .ok (.getfield 75, 3) := by decide +kernel
theorem d_Trial_seekLast_29 : decode m_Trial_seekLast.2.1 29 = .ok (.invokevirtual 79, 3) := by decide +kernel
theorem d_Trial_seekLast_32 : decode m_Trial_seekLast.2.1 32 = .ok (.aload_n 0, 1) := by decide +kernel
theorem d_Trial_seekLast_33 : decode m_Trial_seekLast.2.1 33 = .ok (.aload_n 1, 1) := by decide +kernel
theorem d_Trial_seekLast_34 : decode m_Trial_seekLast.2.1 34 = .ok (.getfield 83, 3) := by decide +kernel
theorem d_Trial_seekLast_37 : decode m_Trial_seekLast.2.1 37 = .ok (.invokevirtual 79, 3) := by decide +kernel
theorem d_Trial_seekLast_40 : decode m_Trial_seekLast.2.1 40 = .ok (.lcmp, 1) := by decide +kernel
theorem d_Trial_seekLast_41 : decode m_Trial_seekLast.2.1 41 = .ok (.ifCond .ne 5, 3) := by decide +kernel
theorem d_Trial_seekLast_44 : decode m_Trial_seekLast.2.1 44 = .ok (.iconst 1, 1) := by decide +kernel
theorem d_Trial_seekLast_45 : decode m_Trial_seekLast.2.1 45 = .ok (.ireturn, 1) := by decide +kernel
theorem d_Trial_seekLast_46 : decode m_Trial_seekLast.2.1 46 = .ok (.iinc 3 1, 3) := by decide +kernel
theorem d_Trial_seekLast_49 : decode m_Trial_seekLast.2.1 49 = .ok (.goto (-43), 3) := by decide +kernel
theorem d_Trial_seekLast_52 : decode m_Trial_seekLast.2.1 52 = .ok (.iconst 0, 1) := by decide +kernel
theorem d_Trial_seekLast_53 : decode m_Trial_seekLast.2.1 53 = .ok (.ireturn, 1) := by decide +kernel
theorem d_Trial_choose_0 : decode m_Trial_choose.2.1 0 = .ok (.iload_n 1, 1) := by decide +kernel
theorem d_Trial_choose_1 : decode m_Trial_choose.2.1 1 = .ok (.invokestatic 86, 3) := by decide +kernel
theorem d_Trial_choose_4 : decode m_Trial_choose.2.1 4 = .ok (.ifCond .eq 16, 3) := by decide +kernel
theorem d_Trial_choose_7 : decode m_Trial_choose.2.1 7 = .ok (.aload_n 0, 1) := by decide +kernel
theorem d_Trial_choose_8 : decode m_Trial_choose.2.1 8 = .ok (.getfield 15, 3) := by decide +kernel
theorem d_Trial_choose_11 : decode m_Trial_choose.2.1 11 = .ok (.iload_n 1, 1) := by decide +kernel
theorem d_Trial_choose_12 : decode m_Trial_choose.2.1 12 = .ok (.iaload, 1) := by decide +kernel
theorem d_Trial_choose_13 : decode m_Trial_choose.2.1 13 = .ok (.iload_n 2, 1) := by decide +kernel
theorem d_Trial_choose_14 : decode m_Trial_choose.2.1 14 = .ok (.ishr, 1) := by decide +kernel
theorem d_Trial_choose_15 : decode m_Trial_choose.2.1 15 = .ok (.iconst 1, 1) := by decide +kernel
theorem d_Trial_choose_16 : decode m_Trial_choose.2.1 16 = .ok (.iand, 1) := by decide +kernel
theorem d_Trial_choose_17 : decode m_Trial_choose.2.1 17 = .ok (.ifCond .ne 5, 3) := by decide +kernel
theorem d_Trial_choose_20 : decode m_Trial_choose.2.1 20 = .ok (.iconst 0, 1) := by decide +kernel
theorem d_Trial_choose_21 : decode m_Trial_choose.2.1 21 = .ok (.ireturn, 1) := by decide +kernel
theorem d_Trial_choose_22 : decode m_Trial_choose.2.1 22 = .ok (.aload_n 0, 1) := by decide +kernel
theorem d_Trial_choose_23 : decode m_Trial_choose.2.1 23 = .ok (.getfield 18, 3) := by decide +kernel
theorem d_Trial_choose_26 : decode m_Trial_choose.2.1 26 = .ok (.iload_n 1, 1) := by decide +kernel
theorem d_Trial_choose_27 : decode m_Trial_choose.2.1 27 = .ok (.iconst 2, 1) := by decide +kernel
theorem d_Trial_choose_28 : decode m_Trial_choose.2.1 28 = .ok (.iadd, 1) := by decide +kernel
theorem d_Trial_choose_29 : decode m_Trial_choose.2.1 29 = .ok (.iload_n 2, 1) := by decide +kernel
theorem d_Trial_choose_30 : decode m_Trial_choose.2.1 30 = .ok (.invokestatic 59, 3) := by decide +kernel
theorem d_Trial_choose_33 : decode m_Trial_choose.2.1 33 = .ok (.iastore, 1) := by decide +kernel
theorem d_Trial_choose_34 : decode m_Trial_choose.2.1 34 = .ok (.aload_n 0, 1) := by decide +kernel
theorem d_Trial_choose_35 : decode m_Trial_choose.2.1 35 = .ok (.getfield 21, 3) := by decide +kernel
theorem d_Trial_choose_38 : decode m_Trial_choose.2.1 38 = .ok (.iload_n 1, 1) := by decide +kernel
theorem d_Trial_choose_39 : decode m_Trial_choose.2.1 39 = .ok (.iconst 2, 1) := by decide +kernel
theorem d_Trial_choose_40 : decode m_Trial_choose.2.1 40 = .ok (.iadd, 1) := by decide +kernel
theorem d_Trial_choose_41 : decode m_Trial_choose.2.1 41 = .ok (.iload_n 2, 1) := by decide +kernel
theorem d_Trial_choose_42 : decode m_Trial_choose.2.1 42 = .ok (.iconst 1, 1) := by decide +kernel
theorem d_Trial_choose_43 : decode m_Trial_choose.2.1 43 = .ok (.iadd, 1) := by decide +kernel
theorem d_Trial_choose_44 : decode m_Trial_choose.2.1 44 = .ok (.iconst 1, 1) := by decide +kernel
theorem d_Trial_choose_45 : decode m_Trial_choose.2.1 45 = .ok (.iload_n 2, 1) := by decide +kernel
theorem d_Trial_choose_46 : decode m_Trial_choose.2.1 46 = .ok (.invokestatic 59, 3) := by decide +kernel
theorem d_Trial_choose_49 : decode m_Trial_choose.2.1 49 = .ok (.ishl, 1) := by decide +kernel
theorem d_Trial_choose_50 : decode m_Trial_choose.2.1 50 = .ok (.isub, 1) := by decide +kernel
theorem d_Trial_choose_51 : decode m_Trial_choose.2.1 51 = .ok (.iastore, 1) := by decide +kernel
theorem d_Trial_choose_52 : decode m_Trial_choose.2.1 52 = .ok (.iconst 1, 1) := by decide +kernel
theorem d_Trial_choose_53 : decode m_Trial_choose.2.1 53 = .ok (.ireturn, 1) := by decide +kernel
theorem d_Trial_spelled_0 : decode m_Trial_spelled.2.1 0 = .ok (.lconst 1, 1) := by decide +kernel
theorem d_Trial_spelled_1 : decode m_Trial_spelled.2.1 1 = .ok (.lstore_n 2, 1) := by decide +kernel
theorem d_Trial_spelled_2 : decode m_Trial_spelled.2.1 2 = .ok (.iconst 0, 1) := by decide +kernel
theorem d_Trial_spelled_3 : decode m_Trial_spelled.2.1 3 = .ok (.istore 4, 2) := by decide +kernel
theorem d_Trial_spelled_5 : decode m_Trial_spelled.2.1 5 = .ok (.iload 4, 2) := by decide +kernel
theorem d_Trial_spelled_7 : decode m_Trial_spelled.2.1 7 = .ok (.aload_n 1, 1) := by decide +kernel
theorem d_Trial_spelled_8 : decode m_Trial_spelled.2.1 8 = .ok (.invokevirtual 90, 3) := by decide +kernel
theorem d_Trial_spelled_11 : decode m_Trial_spelled.2.1 11 = .ok (.if_icmp .ge 47, 3) := by decide +kernel
theorem d_Trial_spelled_14 : decode m_Trial_spelled.2.1 14 = .ok (.aload_n 1, 1) := by decide +kernel
theorem d_Trial_spelled_15 : decode m_Trial_spelled.2.1 15 = .ok (.iload 4, 2) := by decide +kernel
theorem d_Trial_spelled_17 : decode m_Trial_spelled.2.1 17 = .ok (.invokevirtual 96, 3) := by decide +kernel
theorem d_Trial_spelled_20 : decode m_Trial_spelled.2.1 20 = .ok (.istore 5, 2) := by decide +kernel
theorem d_Trial_spelled_22 : decode m_Trial_spelled.2.1 22 = .ok (.iload 5, 2) := by decide +kernel
theorem d_Trial_spelled_24 : decode m_Trial_spelled.2.1 24 = .ok (.ifCond .lt 28, 3) := by decide +kernel
theorem d_Trial_spelled_27 : decode m_Trial_spelled.2.1 27 = .ok (.iload 5, 2) := by decide +kernel
theorem d_Trial_spelled_29 : decode m_Trial_spelled.2.1 29 = .ok (.iconst 5, 1) := by decide +kernel
theorem d_Trial_spelled_30 : decode m_Trial_spelled.2.1 30 = .ok (.if_icmp .ge 22, 3) := by decide +kernel
theorem d_Trial_spelled_33 : decode m_Trial_spelled.2.1 33 = .ok (.lload_n 2, 1) := by decide +kernel
theorem d_Trial_spelled_34 : decode m_Trial_spelled.2.1 34 = .ok (.aload_n 0, 1) := by decide +kernel
theorem d_Trial_spelled_35 : decode m_Trial_spelled.2.1 35 = .ok (.getfield 18, 3) := by decide +kernel
theorem d_Trial_spelled_38 : decode m_Trial_spelled.2.1 38 = .ok (.iload 5, 2) := by decide +kernel
theorem d_Trial_spelled_40 : decode m_Trial_spelled.2.1 40 = .ok (.iaload, 1) := by decide +kernel
theorem d_Trial_spelled_41 : decode m_Trial_spelled.2.1 41 = .ok (.lshl, 1) := by decide +kernel
theorem d_Trial_spelled_42 : decode m_Trial_spelled.2.1 42 = .ok (.aload_n 0, 1) := by decide +kernel
theorem d_Trial_spelled_43 : decode m_Trial_spelled.2.1 43 = .ok (.getfield 21, 3) := by decide +kernel
theorem d_Trial_spelled_46 : decode m_Trial_spelled.2.1 46 = .ok (.iload 5, 2) := by decide +kernel
theorem d_Trial_spelled_48 : decode m_Trial_spelled.2.1 48 = .ok (.iaload, 1) := by decide +kernel
theorem d_Trial_spelled_49 : decode m_Trial_spelled.2.1 49 = .ok (.i2l, 1) := by decide +kernel
theorem d_Trial_spelled_50 : decode m_Trial_spelled.2.1 50 = .ok (.ladd, 1) := by decide +kernel
theorem d_Trial_spelled_51 : decode m_Trial_spelled.2.1 51 = .ok (.lstore_n 2, 1) := by decide +kernel
theorem d_Trial_spelled_52 : decode m_Trial_spelled.2.1 52 = .ok (.iinc 4 1, 3) := by decide +kernel
theorem d_Trial_spelled_55 : decode m_Trial_spelled.2.1 55 = .ok (.goto (-50), 3) := by decide +kernel
theorem d_Trial_spelled_58 : decode m_Trial_spelled.2.1 58 = .ok (.lload_n 2, 1) := by decide +kernel
theorem d_Trial_spelled_59 : decode m_Trial_spelled.2.1 59 = .ok (.lreturn, 1) := by decide +kernel
theorem d_Trial_sizeOf_0 : decode m_Trial_sizeOf.2.1 0 = .ok (.iload_n 0, 1) := by decide +kernel
theorem d_Trial_sizeOf_1 : decode m_Trial_sizeOf.2.1 1 = .ok (.iconst 1, 1) := by decide +kernel
theorem d_Trial_sizeOf_2 : decode m_Trial_sizeOf.2.1 2 = .ok (.if_icmp .ge 7, 3) := by decide +kernel
theorem d_Trial_sizeOf_5 : decode m_Trial_sizeOf.2.1 5 = .ok (.iconst 0, 1) := by decide +kernel
theorem d_Trial_sizeOf_6 : decode m_Trial_sizeOf.2.1 6 = .ok (.goto 23, 3) := by decide +kernel
theorem d_Trial_sizeOf_9 : decode m_Trial_sizeOf.2.1 9 = .ok (.iload_n 0, 1) := by decide +kernel
theorem d_Trial_sizeOf_10 : decode m_Trial_sizeOf.2.1 10 = .ok (.iconst 3, 1) := by decide +kernel
theorem d_Trial_sizeOf_11 : decode m_Trial_sizeOf.2.1 11 = .ok (.if_icmp .ge 7, 3) := by decide +kernel
theorem d_Trial_sizeOf_14 : decode m_Trial_sizeOf.2.1 14 = .ok (.iconst 1, 1) := by decide +kernel
theorem d_Trial_sizeOf_15 : decode m_Trial_sizeOf.2.1 15 = .ok (.goto 14, 3) := by decide +kernel
theorem d_Trial_sizeOf_18 : decode m_Trial_sizeOf.2.1 18 = .ok (.iload_n 0, 1) := by decide +kernel
theorem d_Trial_sizeOf_19 : decode m_Trial_sizeOf.2.1 19 = .ok (.bipush 7, 2) := by decide +kernel
theorem d_Trial_sizeOf_21 : decode m_Trial_sizeOf.2.1 21 = .ok (.if_icmp .ge 7, 3) := by decide +kernel
theorem d_Trial_sizeOf_24 : decode m_Trial_sizeOf.2.1 24 = .ok (.iconst 2, 1) := by decide +kernel
theorem d_Trial_sizeOf_25 : decode m_Trial_sizeOf.2.1 25 = .ok (.goto 4, 3) := by decide +kernel
theorem d_Trial_sizeOf_28 : decode m_Trial_sizeOf.2.1 28 = .ok (.iconst 3, 1) := by decide +kernel
theorem d_Trial_sizeOf_29 : decode m_Trial_sizeOf.2.1 29 = .ok (.ireturn, 1) := by decide +kernel
theorem d_Trial_findMaps_0 : decode m_Trial_findMaps.2.1 0 = .ok (.aload_n 0, 1) := by decide +kernel
theorem d_Trial_findMaps_1 : decode m_Trial_findMaps.2.1 1 = .ok (.getfield 11, 3) := by decide +kernel
theorem d_Trial_findMaps_4 : decode m_Trial_findMaps.2.1 4 = .ok (.iconst 0, 1) := by decide +kernel
theorem d_Trial_findMaps_5 : decode m_Trial_findMaps.2.1 5 = .ok (.sipush 273, 3) := by decide +kernel
theorem d_Trial_findMaps_8 : decode m_Trial_findMaps.2.1 8 = .ok (.iastore, 1) := by decide +kernel
theorem d_Trial_findMaps_9 : decode m_Trial_findMaps.2.1 9 = .ok (.iconst 1, 1) := by decide +kernel
theorem d_Trial_findMaps_10 : decode m_Trial_findMaps.2.1 10 = .ok (.istore_n 2, 1) := by decide +kernel
theorem d_Trial_findMaps_11 : decode m_Trial_findMaps.2.1 11 = .ok (.iload_n 2, 1) := by decide +kernel
theorem d_Trial_findMaps_12 : decode m_Trial_findMaps.2.1 12 = .ok (.bipush 15, 2) := by decide +kernel
theorem d_Trial_findMaps_14 : decode m_Trial_findMaps.2.1 14 = .ok (.if_icmp .ge 34, 3) := by decide +kernel
theorem d_Trial_findMaps_17 : decode m_Trial_findMaps.2.1 17 = .ok (.aload_n 0, 1) := by decide +kernel
theorem d_Trial_findMaps_18 : decode m_Trial_findMaps.2.1 18 = .ok (.getfield 11, 3) := by decide +kernel
theorem d_Trial_findMaps_21 : decode m_Trial_findMaps.2.1 21 = .ok (.iload_n 2, 1) := by decide +kernel
theorem d_Trial_findMaps_22 : decode m_Trial_findMaps.2.1 22 = .ok (.aload_n 1, 1) := by decide +kernel
theorem d_Trial_findMaps_23 : decode m_Trial_findMaps.2.1 23 = .ok (.aload_n 0, 1) := by decide +kernel
theorem d_Trial_findMaps_24 : decode m_Trial_findMaps.2.1 24 = .ok (.getfield 11, 3) := by decide +kernel
theorem d_Trial_findMaps_27 : decode m_Trial_findMaps.2.1 27 = .ok (.iload_n 2, 1) := by decide +kernel
theorem d_Trial_findMaps_28 : decode m_Trial_findMaps.2.1 28 = .ok (.iconst 1, 1) := by decide +kernel
theorem d_Trial_findMaps_29 : decode m_Trial_findMaps.2.1 29 = .ok (.isub, 1) := by decide +kernel
theorem d_Trial_findMaps_30 : decode m_Trial_findMaps.2.1 30 = .ok (.iconst 2, 1) := by decide +kernel
theorem d_Trial_findMaps_31 : decode m_Trial_findMaps.2.1 31 = .ok (.idiv, 1) := by decide +kernel
theorem d_Trial_findMaps_32 : decode m_Trial_findMaps.2.1 32 = .ok (.iaload, 1) := by decide +kernel
theorem d_Trial_findMaps_33 : decode m_Trial_findMaps.2.1 33 = .ok (.iload_n 2, 1) := by decide +kernel
theorem d_Trial_findMaps_34 : decode m_Trial_findMaps.2.1 34 = .ok (.iconst 1, 1) := by decide +kernel
theorem d_Trial_findMaps_35 : decode m_Trial_findMaps.2.1 35 = .ok (.isub, 1) := by decide +kernel
theorem d_Trial_findMaps_36 : decode m_Trial_findMaps.2.1 36 = .ok (.iconst 2, 1) := by decide +kernel
theorem d_Trial_findMaps_37 : decode m_Trial_findMaps.2.1 37 = .ok (.irem, 1) := by decide +kernel
theorem d_Trial_findMaps_38 : decode m_Trial_findMaps.2.1 38 = .ok (.invokevirtual 99, 3) := by decide +kernel
theorem d_Trial_findMaps_41 : decode m_Trial_findMaps.2.1 41 = .ok (.iastore, 1) := by decide +kernel
theorem d_Trial_findMaps_42 : decode m_Trial_findMaps.2.1 42 = .ok (.iinc 2 1, 3) := by decide +kernel
theorem d_Trial_findMaps_45 : decode m_Trial_findMaps.2.1 45 = .ok (.goto (-34), 3) := by decide +kernel
theorem d_Trial_findMaps_48 : decode m_Trial_findMaps.2.1 48 = .ok (.return_, 1) := by decide +kernel
theorem d_Trial_allowedWords_0 : decode m_Trial_allowedWords.2.1 0 = .ok (.iconst 0, 1) := by decide +kernel
theorem d_Trial_allowedWords_1 : decode m_Trial_allowedWords.2.1 1 = .ok (.istore_n 2, 1) := by decide +kernel
theorem d_Trial_allowedWords_2 : decode m_Trial_allowedWords.2.1 2 = .ok (.iconst 0, 1) := by decide +kernel
theorem d_Trial_allowedWords_3 : decode m_Trial_allowedWords.2.1 3 = .ok (.istore_n 3, 1) := by decide +kernel
theorem d_Trial_allowedWords_4 : decode m_Trial_allowedWords.2.1 4 = .ok (.iload_n 3, 1) := by decide +kernel
theorem d_Trial_allowedWords_5 : decode m_Trial_allowedWords.2.1 5 = .ok (.bipush 15, 2) := by decide +kernel
theorem d_Trial_allowedWords_7 : decode m_Trial_allowedWords.2.1 7 = .ok (.if_icmp .ge 28, 3) := by decide +kernel
theorem d_Trial_allowedWords_10 : decode m_Trial_allowedWords.2.1 10 = .ok (.iload_n 1, 1) := by decide +kernel
theorem d_Trial_allowedWords_11 : decode m_Trial_allowedWords.2.1 11 = .ok (.aload_n 0, 1) := by decide +kernel
theorem d_Trial_allowedWords_12 : decode m_Trial_allowedWords.2.1 12 = .ok (.getfield 11, 3) := by decide +kernel
theorem d_Trial_allowedWords_15 : decode m_Trial_allowedWords.2.1 15 = .ok (.iload_n 3, 1) := by decide +kernel
theorem d_Trial_allowedWords_16 : decode m_Trial_allowedWords.2.1 16 = .ok (.iaload, 1) := by decide +kernel
theorem d_Trial_allowedWords_17 : decode m_Trial_allowedWords.2.1 17 = .ok (.invokestatic 104, 3) := by decide +kernel
theorem d_Trial_allowedWords_20 : decode m_Trial_allowedWords.2.1 20 = .ok (.ifCond .eq 9, 3) := by decide +kernel
theorem d_Trial_allowedWords_23 : decode m_Trial_allowedWords.2.1 23 = .ok (.iload_n 2, 1) := by decide +kernel
theorem d_Trial_allowedWords_24 : decode m_Trial_allowedWords.2.1 24 = .ok (.iconst 1, 1) := by decide +kernel
theorem d_Trial_allowedWords_25 : decode m_Trial_allowedWords.2.1 25 = .ok (.iload_n 3, 1) := by decide +kernel
theorem d_Trial_allowedWords_26 : decode m_Trial_allowedWords.2.1 26 = .ok (.ishl, 1) := by decide +kernel
theorem d_Trial_allowedWords_27 : decode m_Trial_allowedWords.2.1 27 = .ok (.ior, 1) := by decide +kernel
theorem d_Trial_allowedWords_28 : decode m_Trial_allowedWords.2.1 28 = .ok (.istore_n 2, 1) := by decide +kernel
theorem d_Trial_allowedWords_29 : decode m_Trial_allowedWords.2.1 29 = .ok (.iinc 3 1, 3) := by decide +kernel
theorem d_Trial_allowedWords_32 : decode m_Trial_allowedWords.2.1 32 = .ok (.goto (-28), 3) := by decide +kernel
theorem d_Trial_allowedWords_35 : decode m_Trial_allowedWords.2.1 35 = .ok (.iload_n 2, 1) := by decide +kernel
theorem d_Trial_allowedWords_36 : decode m_Trial_allowedWords.2.1 36 = .ok (.ireturn, 1) := by decide +kernel
theorem d_Trial_codeOf_0 : decode m_Trial_codeOf.2.1 0 = .ok (.iload_n 1, 1) := by decide +kernel
theorem d_Trial_codeOf_1 : decode m_Trial_codeOf.2.1 1 = .ok (.invokestatic 86, 3) := by decide +kernel
theorem d_Trial_codeOf_4 : decode m_Trial_codeOf.2.1 4 = .ok (.ifCond .ne 6, 3) := by decide +kernel
theorem d_Trial_codeOf_7 : decode m_Trial_codeOf.2.1 7 = .ok (.bipush (-6), 2) := by decide +kernel
theorem d_Trial_codeOf_9 : decode m_Trial_codeOf.2.1 9 = .ok (.ireturn, 1) := by decide +kernel
theorem d_Trial_codeOf_10 : decode m_Trial_codeOf.2.1 10 = .ok (.aload_n 0, 1) := by decide +kernel
theorem d_Trial_codeOf_11 : decode m_Trial_codeOf.2.1 11 = .ok (.getfield 18, 3) := by decide +kernel
theorem d_Trial_codeOf_14 : decode m_Trial_codeOf.2.1 14 = .ok (.iload_n 1, 1) := by decide +kernel
theorem d_Trial_codeOf_15 : decode m_Trial_codeOf.2.1 15 = .ok (.iconst 2, 1) := by decide +kernel
theorem d_Trial_codeOf_16 : decode m_Trial_codeOf.2.1 16 = .ok (.iadd, 1) := by decide +kernel
theorem d_Trial_codeOf_17 : decode m_Trial_codeOf.2.1 17 = .ok (.iaload, 1) := by decide +kernel
theorem d_Trial_codeOf_18 : decode m_Trial_codeOf.2.1 18 = .ok (.istore_n 2, 1) := by decide +kernel
theorem d_Trial_codeOf_19 : decode m_Trial_codeOf.2.1 19 = .ok (.iconst 0, 1) := by decide +kernel
theorem d_Trial_codeOf_20 : decode m_Trial_codeOf.2.1 20 = .ok (.istore_n 3, 1) := by decide +kernel
theorem d_Trial_codeOf_21 : decode m_Trial_codeOf.2.1 21 = .ok (.iconst 0, 1) := by decide +kernel
theorem d_Trial_codeOf_22 : decode m_Trial_codeOf.2.1 22 = .ok (.istore 4, 2) := by decide +kernel
theorem d_Trial_codeOf_24 : decode m_Trial_codeOf.2.1 24 = .ok (.iload 4, 2) := by decide +kernel
theorem d_Trial_codeOf_26 : decode m_Trial_codeOf.2.1 26 = .ok (.iload_n 2, 1) := by decide +kernel
theorem d_Trial_codeOf_27 : decode m_Trial_codeOf.2.1 27 = .ok (.if_icmp .ge 27, 3) := by decide +kernel
theorem d_Trial_codeOf_30 : decode m_Trial_codeOf.2.1 30 = .ok (.iconst 2, 1) := by decide +kernel
theorem d_Trial_codeOf_31 : decode m_Trial_codeOf.2.1 31 = .ok (.iload_n 3, 1) := by decide +kernel
theorem d_Trial_codeOf_32 : decode m_Trial_codeOf.2.1 32 = .ok (.imul, 1) := by decide +kernel
theorem d_Trial_codeOf_33 : decode m_Trial_codeOf.2.1 33 = .ok (.aload_n 0, 1) := by decide +kernel
theorem d_Trial_codeOf_34 : decode m_Trial_codeOf.2.1 34 = .ok (.getfield 21, 3) := by decide +kernel
theorem d_Trial_codeOf_37 : decode m_Trial_codeOf.2.1 37 = .ok (.iload_n 1, 1) := by decide +kernel
theorem d_Trial_codeOf_38 : decode m_Trial_codeOf.2.1 38 = .ok (.iconst 2, 1) := by decide +kernel
theorem d_Trial_codeOf_39 : decode m_Trial_codeOf.2.1 39 = .ok (.iadd, 1) := by decide +kernel
theorem d_Trial_codeOf_40 : decode m_Trial_codeOf.2.1 40 = .ok (.iaload, 1) := by decide +kernel
theorem d_Trial_codeOf_41 : decode m_Trial_codeOf.2.1 41 = .ok (.iload 4, 2) := by decide +kernel
theorem d_Trial_codeOf_43 : decode m_Trial_codeOf.2.1 43 = .ok (.ishr, 1) := by decide +kernel
theorem d_Trial_codeOf_44 : decode m_Trial_codeOf.2.1 44 = .ok (.iconst 1, 1) := by decide +kernel
theorem d_Trial_codeOf_45 : decode m_Trial_codeOf.2.1 45 = .ok (.iand, 1) := by decide +kernel
theorem d_Trial_codeOf_46 : decode m_Trial_codeOf.2.1 46 = .ok (.iadd, 1) := by decide +kernel
theorem d_Trial_codeOf_47 : decode m_Trial_codeOf.2.1 47 = .ok (.istore_n 3, 1) := by decide +kernel
theorem d_Trial_codeOf_48 : decode m_Trial_codeOf.2.1 48 = .ok (.iinc 4 1, 3) := by decide +kernel
theorem d_Trial_codeOf_51 : decode m_Trial_codeOf.2.1 51 = .ok (.goto (-27), 3) := by decide +kernel
theorem d_Trial_codeOf_54 : decode m_Trial_codeOf.2.1 54 = .ok (.bipush 100, 2) := by decide +kernel
theorem d_Trial_codeOf_56 : decode m_Trial_codeOf.2.1 56 = .ok (.iload_n 2, 1) := by decide +kernel
theorem d_Trial_codeOf_57 : decode m_Trial_codeOf.2.1 57 = .ok (.imul, 1) := by decide +kernel
theorem d_Trial_codeOf_58 : decode m_Trial_codeOf.2.1 58 = .ok (.iload_n 3, 1) := by decide +kernel
theorem d_Trial_codeOf_59 : decode m_Trial_codeOf.2.1 59 = .ok (.iadd, 1) := by decide +kernel
theorem d_Trial_codeOf_60 : decode m_Trial_codeOf.2.1 60 = .ok (.ireturn, 1) := by decide +kernel
theorem d_Words_init_0 : decode m_Words_init.2.1 0 = .ok (.aload_n 0, 1) := by decide +kernel
theorem d_Words_init_1 : decode m_Words_init.2.1 1 = .ok (.invokespecial 3, 3) := by decide +kernel
theorem d_Words_init_4 : decode m_Words_init.2.1 4 = .ok (.aload_n 0, 1) := by decide +kernel
theorem d_Words_init_5 : decode m_Words_init.2.1 5 = .ok (.new 9, 3) := by decide +kernel
theorem d_Words_init_8 : decode m_Words_init.2.1 8 = .ok (.dup, 1) := by decide +kernel
theorem d_Words_init_9 : decode m_Words_init.2.1 9 = .ok (.iload_n 1, 1) := by decide +kernel
theorem d_Words_init_10 : decode m_Words_init.2.1 10 = .ok (.invokespecial 11, 3) := by decide +kernel
theorem d_Words_init_13 : decode m_Words_init.2.1 13 = .ok (.putfield 14, 3) := by decide +kernel
theorem d_Words_init_16 : decode m_Words_init.2.1 16 = .ok (.aload_n 0, 1) := by decide +kernel
theorem d_Words_init_17 : decode m_Words_init.2.1 17 = .ok (.new 9, 3) := by decide +kernel
theorem d_Words_init_20 : decode m_Words_init.2.1 20 = .ok (.dup, 1) := by decide +kernel
theorem d_Words_init_21 : decode m_Words_init.2.1 21 = .ok (.iload_n 1, 1) := by decide +kernel
theorem d_Words_init_22 : decode m_Words_init.2.1 22 = .ok (.invokespecial 11, 3) := by decide +kernel
theorem d_Words_init_25 : decode m_Words_init.2.1 25 = .ok (.putfield 20, 3) := by decide +kernel
theorem d_Words_init_28 : decode m_Words_init.2.1 28 = .ok (.aload_n 0, 1) := by decide +kernel
theorem d_Words_init_29 : decode m_Words_init.2.1 29 = .ok (.new 9, 3) := by decide +kernel
theorem d_Words_init_32 : decode m_Words_init.2.1 32 = .ok (.dup, 1) := by decide +kernel
theorem d_Words_init_33 : decode m_Words_init.2.1 33 = .ok (.iload_n 1, 1) := by decide +kernel
theorem d_Words_init_34 : decode m_Words_init.2.1 34 = .ok (.invokespecial 11, 3) := by decide +kernel
theorem d_Words_init_37 : decode m_Words_init.2.1 37 = .ok (.putfield 23, 3) := by decide +kernel
theorem d_Words_init_40 : decode m_Words_init.2.1 40 = .ok (.return_, 1) := by decide +kernel
theorem d_Words_of_0 : decode m_Words_of.2.1 0 = .ok (.iload_n 1, 1) := by decide +kernel
theorem d_Words_of_1 : decode m_Words_of.2.1 1 = .ok (.ifCond .ne 10, 3) := by decide +kernel
theorem d_Words_of_4 : decode m_Words_of.2.1 4 = .ok (.aload_n 0, 1) := by decide +kernel
theorem d_Words_of_5 : decode m_Words_of.2.1 5 = .ok (.getfield 14, 3) := by decide +kernel
theorem d_Words_of_8 : decode m_Words_of.2.1 8 = .ok (.goto 19, 3) := by decide +kernel
theorem d_Words_of_11 : decode m_Words_of.2.1 11 = .ok (.iload_n 1, 1) := by decide +kernel
theorem d_Words_of_12 : decode m_Words_of.2.1 12 = .ok (.iconst 1, 1) := by decide +kernel
theorem d_Words_of_13 : decode m_Words_of.2.1 13 = .ok (.if_icmp .ne 10, 3) := by decide +kernel
theorem d_Words_of_16 : decode m_Words_of.2.1 16 = .ok (.aload_n 0, 1) := by decide +kernel
theorem d_Words_of_17 : decode m_Words_of.2.1 17 = .ok (.getfield 20, 3) := by decide +kernel
theorem d_Words_of_20 : decode m_Words_of.2.1 20 = .ok (.goto 7, 3) := by decide +kernel
theorem d_Words_of_23 : decode m_Words_of.2.1 23 = .ok (.aload_n 0, 1) := by decide +kernel
theorem d_Words_of_24 : decode m_Words_of.2.1 24 = .ok (.getfield 23, 3) := by decide +kernel
theorem d_Words_of_27 : decode m_Words_of.2.1 27 = .ok (.areturn, 1) := by decide +kernel
theorem d_Words_copy_0 : decode m_Words_copy.2.1 0 = .ok (.aload_n 0, 1) := by decide +kernel
theorem d_Words_copy_1 : decode m_Words_copy.2.1 1 = .ok (.getfield 14, 3) := by decide +kernel
theorem d_Words_copy_4 : decode m_Words_copy.2.1 4 = .ok (.aload_n 1, 1) := by decide +kernel
theorem d_Words_copy_5 : decode m_Words_copy.2.1 5 = .ok (.getfield 14, 3) := by decide +kernel
theorem d_Words_copy_8 : decode m_Words_copy.2.1 8 = .ok (.invokevirtual 26, 3) := by decide +kernel
theorem d_Words_copy_11 : decode m_Words_copy.2.1 11 = .ok (.aload_n 0, 1) := by decide +kernel
theorem d_Words_copy_12 : decode m_Words_copy.2.1 12 = .ok (.getfield 20, 3) := by decide +kernel
theorem d_Words_copy_15 : decode m_Words_copy.2.1 15 = .ok (.aload_n 1, 1) := by decide +kernel
theorem d_Words_copy_16 : decode m_Words_copy.2.1 16 = .ok (.getfield 20, 3) := by decide +kernel
theorem d_Words_copy_19 : decode m_Words_copy.2.1 19 = .ok (.invokevirtual 26, 3) := by decide +kernel
theorem d_Words_copy_22 : decode m_Words_copy.2.1 22 = .ok (.aload_n 0, 1) := by decide +kernel
theorem d_Words_copy_23 : decode m_Words_copy.2.1 23 = .ok (.getfield 23, 3) := by decide +kernel
theorem d_Words_copy_26 : decode m_Words_copy.2.1 26 = .ok (.aload_n 1, 1) := by decide +kernel
theorem d_Words_copy_27 : decode m_Words_copy.2.1 27 = .ok (.getfield 23, 3) := by decide +kernel
theorem d_Words_copy_30 : decode m_Words_copy.2.1 30 = .ok (.invokevirtual 26, 3) := by decide +kernel
theorem d_Words_copy_33 : decode m_Words_copy.2.1 33 = .ok (.return_, 1) := by decide +kernel
theorem d_Words_together_0 : decode m_Words_together.2.1 0 = .ok (.aload_n 0, 1) := by decide +kernel
theorem d_Words_together_1 : decode m_Words_together.2.1 1 = .ok (.getfield 14, 3) := by decide +kernel
theorem d_Words_together_4 : decode m_Words_together.2.1 4 = .ok (.invokevirtual 30, 3) := by decide +kernel
theorem d_Words_together_7 : decode m_Words_together.2.1 7 = .ok (.aload_n 0, 1) := by decide +kernel
theorem d_Words_together_8 : decode m_Words_together.2.1 8 = .ok (.getfield 20, 3) := by decide +kernel
theorem d_Words_together_11 : decode m_Words_together.2.1 11 = .ok (.invokevirtual 30, 3) := by decide +kernel
theorem d_Words_together_14 : decode m_Words_together.2.1 14 = .ok (.iadd, 1) := by decide +kernel
theorem d_Words_together_15 : decode m_Words_together.2.1 15 = .ok (.aload_n 0, 1) := by decide +kernel
theorem d_Words_together_16 : decode m_Words_together.2.1 16 = .ok (.getfield 23, 3) := by decide +kernel
theorem d_Words_together_19 : decode m_Words_together.2.1 19 = .ok (.invokevirtual 30, 3) := by decide +kernel
theorem d_Words_together_22 : decode m_Words_together.2.1 22 = .ok (.iadd, 1) := by decide +kernel
theorem d_Words_together_23 : decode m_Words_together.2.1 23 = .ok (.ireturn, 1) := by decide +kernel
theorem d_Words_longest_0 : decode m_Words_longest.2.1 0 = .ok (.aload_n 0, 1) := by decide +kernel
theorem d_Words_longest_1 : decode m_Words_longest.2.1 1 = .ok (.getfield 14, 3) := by decide +kernel
theorem d_Words_longest_4 : decode m_Words_longest.2.1 4 = .ok (.invokevirtual 30, 3) := by decide +kernel
theorem d_Words_longest_7 : decode m_Words_longest.2.1 7 = .ok (.aload_n 0, 1) := by decide +kernel
theorem d_Words_longest_8 : decode m_Words_longest.2.1 8 = .ok (.getfield 20, 3) := by decide +kernel
theorem d_Words_longest_11 : decode m_Words_longest.2.1 11 = .ok (.invokevirtual 30, 3) := by decide +kernel
theorem d_Words_longest_14 : decode m_Words_longest.2.1 14 = .ok (.aload_n 0, 1) := by decide +kernel
theorem d_Words_longest_15 : decode m_Words_longest.2.1 15 = .ok (.getfield 23, 3) := by decide +kernel
theorem d_Words_longest_18 : decode m_Words_longest.2.1 18 = .ok (.invokevirtual 30, 3) := by decide +kernel
theorem d_Words_longest_21 : decode m_Words_longest.2.1 21 = .ok (.invokestatic 34, 3) := by decide +kernel
theorem d_Words_longest_24 : decode m_Words_longest.2.1 24 = .ok (.invokestatic 34, 3) := by decide +kernel
theorem d_Words_longest_27 : decode m_Words_longest.2.1 27 = .ok (.ireturn, 1) := by decide +kernel
theorem d_Words_spellOut_0 : decode m_Words_spellOut.2.1 0 = .ok (.aload_n 2, 1) := by decide +kernel
theorem d_Words_spellOut_1 : decode m_Words_spellOut.2.1 1 = .ok (.invokevirtual 40, 3) := by decide +kernel
theorem d_Words_spellOut_4 : decode m_Words_spellOut.2.1 4 = .ok (.iconst 0, 1) := by decide +kernel
theorem d_Words_spellOut_5 : decode m_Words_spellOut.2.1 5 = .ok (.istore_n 3, 1) := by decide +kernel
theorem d_Words_spellOut_6 : decode m_Words_spellOut.2.1 6 = .ok (.iload_n 3, 1) := by decide +kernel
theorem d_Words_spellOut_7 : decode m_Words_spellOut.2.1 7 = .ok (.aload_n 1, 1) := by decide +kernel
theorem d_Words_spellOut_8 : decode m_Words_spellOut.2.1 8 = .ok (.invokevirtual 30, 3) := by decide +kernel
theorem d_Words_spellOut_11 : decode m_Words_spellOut.2.1 11 = .ok (.if_icmp .ge 44, 3) := by decide +kernel
theorem d_Words_spellOut_14 : decode m_Words_spellOut.2.1 14 = .ok (.aload_n 1, 1) := by decide +kernel
theorem d_Words_spellOut_15 : decode m_Words_spellOut.2.1 15 = .ok (.iload_n 3, 1) := by decide +kernel
theorem d_Words_spellOut_16 : decode m_Words_spellOut.2.1 16 = .ok (.invokevirtual 43, 3) := by decide +kernel
theorem d_Words_spellOut_19 : decode m_Words_spellOut.2.1 19 = .ok (.istore 4, 2) := by decide +kernel
theorem d_Words_spellOut_21 : decode m_Words_spellOut.2.1 21 = .ok (.iload 4, 2) := by decide +kernel
theorem d_Words_spellOut_23 : decode m_Words_spellOut.2.1 23 = .ok (.iconst 2, 1) := by decide +kernel
theorem d_Words_spellOut_24 : decode m_Words_spellOut.2.1 24 = .ok (.if_icmp .ge 13, 3) := by decide +kernel
theorem d_Words_spellOut_27 : decode m_Words_spellOut.2.1 27 = .ok (.aload_n 2, 1) := by decide +kernel
theorem d_Words_spellOut_28 : decode m_Words_spellOut.2.1 28 = .ok (.iload 4, 2) := by decide +kernel
theorem d_Words_spellOut_30 : decode m_Words_spellOut.2.1 30 = .ok (.invokevirtual 47, 3) := by decide +kernel
theorem d_Words_spellOut_33 : decode m_Words_spellOut.2.1 33 = .ok (.pop, 1) := by decide +kernel
theorem d_Words_spellOut_34 : decode m_Words_spellOut.2.1 34 = .ok (.goto 15, 3) := by decide +kernel
theorem d_Words_spellOut_37 : decode m_Words_spellOut.2.1 37 = .ok (.aload_n 2, 1) := by decide +kernel
theorem d_Words_spellOut_38 : decode m_Words_spellOut.2.1 38 = .ok (.aload_n 0, 1) := by decide +kernel
theorem d_Words_spellOut_39 : decode m_Words_spellOut.2.1 39 = .ok (.iload 4, 2) := by decide +kernel
theorem d_Words_spellOut_41 : decode m_Words_spellOut.2.1 41 = .ok (.iconst 2, 1) := by decide +kernel
theorem d_Words_spellOut_42 : decode m_Words_spellOut.2.1 42 = .ok (.isub, 1) := by decide +kernel
theorem d_Words_spellOut_43 : decode m_Words_spellOut.2.1 43 = .ok (.invokevirtual 51, 3) := by decide +kernel
theorem d_Words_spellOut_46 : decode m_Words_spellOut.2.1 46 = .ok (.invokevirtual 55, 3) := by decide +kernel
theorem d_Words_spellOut_49 : decode m_Words_spellOut.2.1 49 = .ok (.iinc 3 1, 3) := by decide +kernel
theorem d_Words_spellOut_52 : decode m_Words_spellOut.2.1 52 = .ok (.goto (-46), 3) := by decide +kernel
theorem d_Words_spellOut_55 : decode m_Words_spellOut.2.1 55 = .ok (.return_, 1) := by decide +kernel
theorem d_H_init_0 : decode m_H_init.2.1 0 = .ok (.aload_n 0, 1) := by decide +kernel
theorem d_H_init_1 : decode m_H_init.2.1 1 = .ok (.invokespecial 3, 3) := by decide +kernel
theorem d_H_init_4 : decode m_H_init.2.1 4 = .ok (.aload_n 0, 1) := by decide +kernel
theorem d_H_init_5 : decode m_H_init.2.1 5 = .ok (.new 9, 3) := by decide +kernel
theorem d_H_init_8 : decode m_H_init.2.1 8 = .ok (.dup, 1) := by decide +kernel
theorem d_H_init_9 : decode m_H_init.2.1 9 = .ok (.bipush 40, 2) := by decide +kernel
theorem d_H_init_11 : decode m_H_init.2.1 11 = .ok (.invokespecial 11, 3) := by decide +kernel
theorem d_H_init_14 : decode m_H_init.2.1 14 = .ok (.putfield 14, 3) := by decide +kernel
theorem d_H_init_17 : decode m_H_init.2.1 17 = .ok (.aload_n 0, 1) := by decide +kernel
theorem d_H_init_18 : decode m_H_init.2.1 18 = .ok (.new 18, 3) := by decide +kernel
theorem d_H_init_21 : decode m_H_init.2.1 21 = .ok (.dup, 1) := by decide +kernel
theorem d_H_init_22 : decode m_H_init.2.1 22 = .ok (.invokespecial 20, 3) := by decide +kernel
theorem d_H_init_25 : decode m_H_init.2.1 25 = .ok (.putfield 21, 3) := by decide +kernel
theorem d_H_init_28 : decode m_H_init.2.1 28 = .ok (.aload_n 0, 1) := by decide +kernel
theorem d_H_init_29 : decode m_H_init.2.1 29 = .ok (.new 18, 3) := by decide +kernel
theorem d_H_init_32 : decode m_H_init.2.1 32 = .ok (.dup, 1) := by decide +kernel
theorem d_H_init_33 : decode m_H_init.2.1 33 = .ok (.invokespecial 20, 3) := by decide +kernel
theorem d_H_init_36 : decode m_H_init.2.1 36 = .ok (.putfield 25, 3) := by decide +kernel
theorem d_H_init_39 : decode m_H_init.2.1 39 = .ok (.aload_n 0, 1) := by decide +kernel
theorem d_H_init_40 : decode m_H_init.2.1 40 = .ok (.new 18, 3) := by decide +kernel
theorem d_H_init_43 : decode m_H_init.2.1 43 = .ok (.dup, 1) := by decide +kernel
theorem d_H_init_44 : decode m_H_init.2.1 44 = .ok (.invokespecial 20, 3) := by decide +kernel
theorem d_H_init_47 : decode m_H_init.2.1 47 = .ok (.putfield 28, 3) := by decide +kernel
theorem d_H_init_50 : decode m_H_init.2.1 50 = .ok (.aload_n 0, 1) := by decide +kernel
theorem d_H_init_51 : decode m_H_init.2.1 51 = .ok (.new 31, 3) := by decide +kernel
theorem d_H_init_54 : decode m_H_init.2.1 54 = .ok (.dup, 1) := by decide +kernel
theorem d_H_init_55 : decode m_H_init.2.1 55 = .ok (.aload_n 0, 1) := by decide +kernel
theorem d_H_init_56 : decode m_H_init.2.1 56 = .ok (.getfield 21, 3) := by decide +kernel
theorem d_H_init_59 : decode m_H_init.2.1 59 = .ok (.getfield 33, 3) := by decide +kernel
theorem d_H_init_62 : decode m_H_init.2.1 62 = .ok (.invokespecial 37, 3) := by decide +kernel
theorem d_H_init_65 : decode m_H_init.2.1 65 = .ok (.putfield 40, 3) := by decide +kernel
theorem d_H_init_68 : decode m_H_init.2.1 68 = .ok (.aload_n 0, 1) := by decide +kernel
theorem d_H_init_69 : decode m_H_init.2.1 69 = .ok (.new 44, 3) := by decide +kernel
theorem d_H_init_72 : decode m_H_init.2.1 72 = .ok (.dup, 1) := by decide +kernel
theorem d_H_init_73 : decode m_H_init.2.1 73 = .ok (.aload_n 0, 1) := by decide +kernel
theorem d_H_init_74 : decode m_H_init.2.1 74 = .ok (.getfield 21, 3) := by decide +kernel
theorem d_H_init_77 : decode m_H_init.2.1 77 = .ok (.aload_n 0, 1) := by decide +kernel
theorem d_H_init_78 : decode m_H_init.2.1 78 = .ok (.getfield 40, 3) := by decide +kernel
theorem d_H_init_81 : decode m_H_init.2.1 81 = .ok (.invokespecial 46, 3) := by decide +kernel
theorem d_H_init_84 : decode m_H_init.2.1 84 = .ok (.putfield 49, 3) := by decide +kernel
theorem d_H_init_87 : decode m_H_init.2.1 87 = .ok (.aload_n 0, 1) := by decide +kernel
theorem d_H_init_88 : decode m_H_init.2.1 88 = .ok (.new 53, 3) := by decide +kernel
theorem d_H_init_91 : decode m_H_init.2.1 91 = .ok (.dup, 1) := by decide +kernel
theorem d_H_init_92 : decode m_H_init.2.1 92 = .ok (.aload_n 0, 1) := by decide +kernel
theorem d_H_init_93 : decode m_H_init.2.1 93 = .ok (.getfield 49, 3) := by decide +kernel
theorem d_H_init_96 : decode m_H_init.2.1 96 = .ok (.aload_n 0, 1) := by decide +kernel
theorem d_H_init_97 : decode m_H_init.2.1 97 = .ok (.getfield 40, 3) := by decide +kernel
theorem d_H_init_100 : decode m_H_init.2.1 100 = .ok (.invokespecial 55, 3) := by decide +kernel
theorem d_H_init_103 : decode m_H_init.2.1 103 = .ok (.putfield 58, 3) := by decide +kernel
theorem d_H_init_106 : decode m_H_init.2.1 106 = .ok (.aload_n 0, 1) := by decide +kernel
theorem d_H_init_107 : decode m_H_init.2.1 107 = .ok (.new 62, 3) := by decide +kernel
theorem d_H_init_110 : decode m_H_init.2.1 110 = .ok (.dup, 1) := by decide +kernel
theorem d_H_init_111 : decode m_H_init.2.1 111 = .ok (.invokespecial 64, 3) := by decide +kernel
theorem d_H_init_114 : decode m_H_init.2.1 114 = .ok (.putfield 65, 3) := by decide +kernel
theorem d_H_init_117 : decode m_H_init.2.1 117 = .ok (.aload_n 0, 1) := by decide +kernel
theorem d_H_init_118 : decode m_H_init.2.1 118 = .ok (.new 69, 3) := by decide +kernel
theorem d_H_init_121 : decode m_H_init.2.1 121 = .ok (.dup, 1) := by decide +kernel
theorem d_H_init_122 : decode m_H_init.2.1 122 = .ok (.invokespecial 71, 3) := by decide +kernel
theorem d_H_init_125 : decode m_H_init.2.1 125 = .ok (.putfield 72, 3) := by decide +kernel
theorem d_H_init_128 : decode m_H_init.2.1 128 = .ok (.aload_n 0, 1) := by decide +kernel
theorem d_H_init_129 : decode m_H_init.2.1 129 = .ok (.new 9, 3) := by decide +kernel
theorem d_H_init_132 : decode m_H_init.2.1 132 = .ok (.dup, 1) := by decide +kernel
theorem d_H_init_133 : decode m_H_init.2.1 133 = .ok (.sipush 144, 3) := by decide +kernel
theorem d_H_init_136 : decode m_H_init.2.1 136 = .ok (.invokespecial 11, 3) := by decide +kernel
theorem d_H_init_139 : decode m_H_init.2.1 139 = .ok (.putfield 76, 3) := by decide +kernel
theorem d_H_init_142 : decode m_H_init.2.1 142 = .ok (.aload_n 0, 1) := by decide +kernel
theorem d_H_init_143 : decode m_H_init.2.1 143 = .ok (.new 9, 3) := by decide +kernel
theorem d_H_init_146 : decode m_H_init.2.1 146 = .ok (.dup, 1) := by decide +kernel
theorem d_H_init_147 : decode m_H_init.2.1 147 = .ok (.sipush 144, 3) := by decide +kernel
theorem d_H_init_150 : decode m_H_init.2.1 150 = .ok (.invokespecial 11, 3) := by decide +kernel
theorem d_H_init_153 : decode m_H_init.2.1 153 = .ok (.putfield 79, 3) := by decide +kernel
theorem d_H_init_156 : decode m_H_init.2.1 156 = .ok (.aload_n 0, 1) := by decide +kernel
theorem d_H_init_157 : decode m_H_init.2.1 157 = .ok (.new 9, 3) := by decide +kernel
theorem d_H_init_160 : decode m_H_init.2.1 160 = .ok (.dup, 1) := by decide +kernel
theorem d_H_init_161 : decode m_H_init.2.1 161 = .ok (.bipush 60, 2) := by decide +kernel
theorem d_H_init_163 : decode m_H_init.2.1 163 = .ok (.invokespecial 11, 3) := by decide +kernel
theorem d_H_init_166 : decode m_H_init.2.1 166 = .ok (.putfield 82, 3) := by decide +kernel
theorem d_H_init_169 : decode m_H_init.2.1 169 = .ok (.return_, 1) := by decide +kernel
theorem d_H_say_0 : decode m_H_say.2.1 0 = .ok (.iload_n 1, 1) := by decide +kernel
theorem d_H_say_1 : decode m_H_say.2.1 1 = .ok (.bipush 33, 2) := by decide +kernel
theorem d_H_say_3 : decode m_H_say.2.1 3 = .ok (.if_icmp .lt 9, 3) := by decide +kernel
theorem d_H_say_6 : decode m_H_say.2.1 6 = .ok (.iload_n 1, 1) := by decide +kernel
theorem d_H_say_7 : decode m_H_say.2.1 7 = .ok (.bipush 126, 2) := by decide +kernel
theorem d_H_say_9 : decode m_H_say.2.1 9 = .ok (.if_icmp .le 6, 3) := by decide +kernel
theorem d_H_say_12 : decode m_H_say.2.1 12 = .ok (.bipush (-2), 2) := by decide +kernel
theorem d_H_say_14 : decode m_H_say.2.1 14 = .ok (.ireturn, 1) := by decide +kernel
theorem d_H_say_15 : decode m_H_say.2.1 15 = .ok (.aload_n 0, 1) := by decide +kernel
theorem d_H_say_16 : decode m_H_say.2.1 16 = .ok (.getfield 14, 3) := by decide +kernel
theorem d_H_say_19 : decode m_H_say.2.1 19 = .ok (.iload_n 1, 1) := by decide +kernel
theorem d_H_say_20 : decode m_H_say.2.1 20 = .ok (.invokevirtual 85, 3) := by decide +kernel
theorem d_H_say_23 : decode m_H_say.2.1 23 = .ok (.ifCond .eq 13, 3) := by decide +kernel
theorem d_H_say_26 : decode m_H_say.2.1 26 = .ok (.aload_n 0, 1) := by decide +kernel
theorem d_H_say_27 : decode m_H_say.2.1 27 = .ok (.getfield 14, 3) := by decide +kernel
theorem d_H_say_30 : decode m_H_say.2.1 30 = .ok (.invokevirtual 89, 3) := by decide +kernel
theorem d_H_say_33 : decode m_H_say.2.1 33 = .ok (.goto 5, 3) := by decide +kernel
theorem d_H_say_36 : decode m_H_say.2.1 36 = .ok (.bipush (-4), 2) := by decide +kernel
theorem d_H_say_38 : decode m_H_say.2.1 38 = .ok (.ireturn, 1) := by decide +kernel
theorem d_H_wipe_0 : decode m_H_wipe.2.1 0 = .ok (.aload_n 0, 1) := by decide +kernel
theorem d_H_wipe_1 : decode m_H_wipe.2.1 1 = .ok (.getfield 14, 3) := by decide +kernel
theorem d_H_wipe_4 : decode m_H_wipe.2.1 4 = .ok (.invokevirtual 89, 3) := by decide +kernel
theorem d_H_wipe_7 : decode m_H_wipe.2.1 7 = .ok (.istore_n 1, 1) := by decide +kernel
theorem d_H_wipe_8 : decode m_H_wipe.2.1 8 = .ok (.aload_n 0, 1) := by decide +kernel
theorem d_H_wipe_9 : decode m_H_wipe.2.1 9 = .ok (.getfield 14, 3) := by decide +kernel
theorem d_H_wipe_12 : decode m_H_wipe.2.1 12 = .ok (.invokevirtual 93, 3) := by decide +kernel
theorem d_H_wipe_15 : decode m_H_wipe.2.1 15 = .ok (.iload_n 1, 1) := by decide +kernel
theorem d_H_wipe_16 : decode m_H_wipe.2.1 16 = .ok (.ireturn, 1) := by decide +kernel
theorem d_H_fault_0 : decode m_H_fault.2.1 0 = .ok (.aload_n 0, 1) := by decide +kernel
theorem d_H_fault_1 : decode m_H_fault.2.1 1 = .ok (.invokevirtual 96, 3) := by decide +kernel
theorem d_H_fault_4 : decode m_H_fault.2.1 4 = .ok (.ireturn, 1) := by decide +kernel
theorem d_H_load_0 : decode m_H_load.2.1 0 = .ok (.aload_n 0, 1) := by decide +kernel
theorem d_H_load_1 : decode m_H_load.2.1 1 = .ok (.invokevirtual 96, 3) := by decide +kernel
theorem d_H_load_4 : decode m_H_load.2.1 4 = .ok (.bipush (-6), 2) := by decide +kernel
theorem d_H_load_6 : decode m_H_load.2.1 6 = .ok (.if_icmp .eq 6, 3) := by decide +kernel
theorem d_H_load_9 : decode m_H_load.2.1 9 = .ok (.bipush (-5), 2) := by decide +kernel
theorem d_H_load_11 : decode m_H_load.2.1 11 = .ok (.ireturn, 1) := by decide +kernel
theorem d_H_load_12 : decode m_H_load.2.1 12 = .ok (.aload_n 0, 1) := by decide +kernel
theorem d_H_load_13 : decode m_H_load.2.1 13 = .ok (.invokevirtual 99, 3) := by decide +kernel
theorem d_H_load_16 : decode m_H_load.2.1 16 = .ok (.aload_n 0, 1) := by decide +kernel
theorem d_H_load_17 : decode m_H_load.2.1 17 = .ok (.invokevirtual 102, 3) := by decide +kernel
theorem d_H_load_20 : decode m_H_load.2.1 20 = .ok (.aload_n 0, 1) := by decide +kernel
theorem d_H_load_21 : decode m_H_load.2.1 21 = .ok (.getfield 21, 3) := by decide +kernel
theorem d_H_load_24 : decode m_H_load.2.1 24 = .ok (.getfield 105, 3) := by decide +kernel
theorem d_H_load_27 : decode m_H_load.2.1 27 = .ok (.invokevirtual 89, 3) := by decide +kernel
theorem d_H_load_30 : decode m_H_load.2.1 30 = .ok (.aload_n 0, 1) := by decide +kernel
theorem d_H_load_31 : decode m_H_load.2.1 31 = .ok (.getfield 21, 3) := by decide +kernel
theorem d_H_load_34 : decode m_H_load.2.1 34 = .ok (.getfield 108, 3) := by decide +kernel
theorem d_H_load_37 : decode m_H_load.2.1 37 = .ok (.invokevirtual 89, 3) := by decide +kernel
theorem d_H_load_40 : decode m_H_load.2.1 40 = .ok (.iadd, 1) := by decide +kernel
theorem d_H_load_41 : decode m_H_load.2.1 41 = .ok (.ireturn, 1) := by decide +kernel
theorem d_H_leads_0 : decode m_H_leads.2.1 0 = .ok (.iload_n 1, 1) := by decide +kernel
theorem d_H_leads_1 : decode m_H_leads.2.1 1 = .ok (.invokestatic 111, 3) := by decide +kernel
theorem d_H_leads_4 : decode m_H_leads.2.1 4 = .ok (.ifCond .eq 17, 3) := by decide +kernel
theorem d_H_leads_7 : decode m_H_leads.2.1 7 = .ok (.iload_n 2, 1) := by decide +kernel
theorem d_H_leads_8 : decode m_H_leads.2.1 8 = .ok (.invokestatic 114, 3) := by decide +kernel
theorem d_H_leads_11 : decode m_H_leads.2.1 11 = .ok (.ifCond .eq 10, 3) := by decide +kernel
theorem d_H_leads_14 : decode m_H_leads.2.1 14 = .ok (.iload_n 3, 1) := by decide +kernel
theorem d_H_leads_15 : decode m_H_leads.2.1 15 = .ok (.invokestatic 111, 3) := by decide +kernel
theorem d_H_leads_18 : decode m_H_leads.2.1 18 = .ok (.ifCond .ne 5, 3) := by decide +kernel
theorem d_H_leads_21 : decode m_H_leads.2.1 21 = .ok (.iconst (-1), 1) := by decide +kernel
theorem d_H_leads_22 : decode m_H_leads.2.1 22 = .ok (.ireturn, 1) := by decide +kernel
theorem d_H_leads_23 : decode m_H_leads.2.1 23 = .ok (.aload_n 0, 1) := by decide +kernel
theorem d_H_leads_24 : decode m_H_leads.2.1 24 = .ok (.getfield 21, 3) := by decide +kernel
theorem d_H_leads_27 : decode m_H_leads.2.1 27 = .ok (.getfield 33, 3) := by decide +kernel
theorem d_H_leads_30 : decode m_H_leads.2.1 30 = .ok (.iload_n 1, 1) := by decide +kernel
theorem d_H_leads_31 : decode m_H_leads.2.1 31 = .ok (.iload_n 2, 1) := by decide +kernel
theorem d_H_leads_32 : decode m_H_leads.2.1 32 = .ok (.invokevirtual 117, 3) := by decide +kernel
theorem d_H_leads_35 : decode m_H_leads.2.1 35 = .ok (.istore 4, 2) := by decide +kernel
theorem d_H_leads_37 : decode m_H_leads.2.1 37 = .ok (.aload_n 0, 1) := by decide +kernel
theorem d_H_leads_38 : decode m_H_leads.2.1 38 = .ok (.getfield 21, 3) := by decide +kernel
theorem d_H_leads_41 : decode m_H_leads.2.1 41 = .ok (.getfield 33, 3) := by decide +kernel
theorem d_H_leads_44 : decode m_H_leads.2.1 44 = .ok (.iload_n 1, 1) := by decide +kernel
theorem d_H_leads_45 : decode m_H_leads.2.1 45 = .ok (.iload_n 2, 1) := by decide +kernel
theorem d_H_leads_46 : decode m_H_leads.2.1 46 = .ok (.iload_n 3, 1) := by decide +kernel
theorem d_H_leads_47 : decode m_H_leads.2.1 47 = .ok (.invokevirtual 123, 3) := by decide +kernel
theorem d_H_leads_50 : decode m_H_leads.2.1 50 = .ok (.aload_n 0, 1) := by decide +kernel
theorem d_H_leads_51 : decode m_H_leads.2.1 51 = .ok (.invokevirtual 127, 3) := by decide +kernel
theorem d_H_leads_54 : decode m_H_leads.2.1 54 = .ok (.iload 4, 2) := by decide +kernel
theorem d_H_leads_56 : decode m_H_leads.2.1 56 = .ok (.ireturn, 1) := by decide +kernel
theorem d_H_need_0 : decode m_H_need.2.1 0 = .ok (.iload_n 1, 1) := by decide +kernel
theorem d_H_need_1 : decode m_H_need.2.1 1 = .ok (.invokestatic 130, 3) := by decide +kernel
theorem d_H_need_4 : decode m_H_need.2.1 4 = .ok (.ifCond .eq 10, 3) := by decide +kernel
theorem d_H_need_7 : decode m_H_need.2.1 7 = .ok (.iload_n 2, 1) := by decide +kernel
theorem d_H_need_8 : decode m_H_need.2.1 8 = .ok (.invokestatic 111, 3) := by decide +kernel
theorem d_H_need_11 : decode m_H_need.2.1 11 = .ok (.ifCond .ne 5, 3) := by decide +kernel
theorem d_H_need_14 : decode m_H_need.2.1 14 = .ok (.iconst (-1), 1) := by decide +kernel
theorem d_H_need_15 : decode m_H_need.2.1 15 = .ok (.ireturn, 1) := by decide +kernel
theorem d_H_need_16 : decode m_H_need.2.1 16 = .ok (.iload_n 3, 1) := by decide +kernel
theorem d_H_need_17 : decode m_H_need.2.1 17 = .ok (.ifCond .lt 9, 3) := by decide +kernel
theorem d_H_need_20 : decode m_H_need.2.1 20 = .ok (.iload_n 3, 1) := by decide +kernel
theorem d_H_need_21 : decode m_H_need.2.1 21 = .ok (.bipush 7, 2) := by decide +kernel
theorem d_H_need_23 : decode m_H_need.2.1 23 = .ok (.if_icmp .le 6, 3) := by decide +kernel
theorem d_H_need_26 : decode m_H_need.2.1 26 = .ok (.bipush (-2), 2) := by decide +kernel
theorem d_H_need_28 : decode m_H_need.2.1 28 = .ok (.ireturn, 1) := by decide +kernel
theorem d_H_need_29 : decode m_H_need.2.1 29 = .ok (.aload_n 0, 1) := by decide +kernel
theorem d_H_need_30 : decode m_H_need.2.1 30 = .ok (.getfield 21, 3) := by decide +kernel
theorem d_H_need_33 : decode m_H_need.2.1 33 = .ok (.getfield 135, 3) := by decide +kernel
theorem d_H_need_36 : decode m_H_need.2.1 36 = .ok (.iload_n 1, 1) := by decide +kernel
theorem d_H_need_37 : decode m_H_need.2.1 37 = .ok (.invokestatic 139, 3) := by decide +kernel
theorem d_H_need_40 : decode m_H_need.2.1 40 = .ok (.iload_n 2, 1) := by decide +kernel
theorem d_H_need_41 : decode m_H_need.2.1 41 = .ok (.invokestatic 142, 3) := by decide +kernel
theorem d_H_need_44 : decode m_H_need.2.1 44 = .ok (.istore 4, 2) := by decide +kernel
theorem d_H_need_46 : decode m_H_need.2.1 46 = .ok (.aload_n 0, 1) := by decide +kernel
theorem d_H_need_47 : decode m_H_need.2.1 47 = .ok (.getfield 21, 3) := by decide +kernel
theorem d_H_need_50 : decode m_H_need.2.1 50 = .ok (.aload_n 0, 1) := by decide +kernel
theorem d_H_need_51 : decode m_H_need.2.1 51 = .ok (.getfield 21, 3) := by decide +kernel
theorem d_H_need_54 : decode m_H_need.2.1 54 = .ok (.getfield 135, 3) := by decide +kernel
theorem d_H_need_57 : decode m_H_need.2.1 57 = .ok (.iload_n 1, 1) := by decide +kernel
theorem d_H_need_58 : decode m_H_need.2.1 58 = .ok (.iload_n 2, 1) := by decide +kernel
theorem d_H_need_59 : decode m_H_need.2.1 59 = .ok (.iload_n 3, 1) := by decide +kernel
theorem d_H_need_60 : decode m_H_need.2.1 60 = .ok (.invokestatic 145, 3) := by decide +kernel
theorem d_H_need_63 : decode m_H_need.2.1 63 = .ok (.putfield 135, 3) := by decide +kernel
theorem d_H_need_66 : decode m_H_need.2.1 66 = .ok (.aload_n 0, 1) := by decide +kernel
theorem d_H_need_67 : decode m_H_need.2.1 67 = .ok (.invokevirtual 102, 3) := by decide +kernel
theorem d_H_need_70 : decode m_H_need.2.1 70 = .ok (.iload 4, 2) := by decide +kernel
theorem d_H_need_72 : decode m_H_need.2.1 72 = .ok (.ireturn, 1) := by decide +kernel
theorem d_H_brief_0 : decode m_H_brief.2.1 0 = .ok (.iload_n 1, 1) := by decide +kernel
theorem d_H_brief_1 : decode m_H_brief.2.1 1 = .ok (.invokestatic 130, 3) := by decide +kernel
theorem d_H_brief_4 : decode m_H_brief.2.1 4 = .ok (.ifCond .ne 5, 3) := by decide +kernel
theorem d_H_brief_7 : decode m_H_brief.2.1 7 = .ok (.iconst (-1), 1) := by decide +kernel
theorem d_H_brief_8 : decode m_H_brief.2.1 8 = .ok (.ireturn, 1) := by decide +kernel
theorem d_H_brief_9 : decode m_H_brief.2.1 9 = .ok (.aload_n 0, 1) := by decide +kernel
theorem d_H_brief_10 : decode m_H_brief.2.1 10 = .ok (.getfield 40, 3) := by decide +kernel
theorem d_H_brief_13 : decode m_H_brief.2.1 13 = .ok (.invokevirtual 149, 3) := by decide +kernel
theorem d_H_brief_16 : decode m_H_brief.2.1 16 = .ok (.aload_n 0, 1) := by decide +kernel
theorem d_H_brief_17 : decode m_H_brief.2.1 17 = .ok (.getfield 40, 3) := by decide +kernel
theorem d_H_brief_20 : decode m_H_brief.2.1 20 = .ok (.aload_n 0, 1) := by decide +kernel
theorem d_H_brief_21 : decode m_H_brief.2.1 21 = .ok (.getfield 21, 3) := by decide +kernel
theorem d_H_brief_24 : decode m_H_brief.2.1 24 = .ok (.getfield 135, 3) := by decide +kernel
theorem d_H_brief_27 : decode m_H_brief.2.1 27 = .ok (.iload_n 1, 1) := by decide +kernel
theorem d_H_brief_28 : decode m_H_brief.2.1 28 = .ok (.invokestatic 139, 3) := by decide +kernel
theorem d_H_brief_31 : decode m_H_brief.2.1 31 = .ok (.invokevirtual 152, 3) := by decide +kernel
theorem d_H_brief_34 : decode m_H_brief.2.1 34 = .ok (.istore_n 3, 1) := by decide +kernel
theorem d_H_brief_35 : decode m_H_brief.2.1 35 = .ok (.iload_n 3, 1) := by decide +kernel
theorem d_H_brief_36 : decode m_H_brief.2.1 36 = .ok (.bipush (-6), 2) := by decide +kernel
theorem d_H_brief_38 : decode m_H_brief.2.1 38 = .ok (.if_icmp .ne 6, 3) := by decide +kernel
theorem d_H_brief_41 : decode m_H_brief.2.1 41 = .ok (.bipush (-6), 2) := by decide +kernel
theorem d_H_brief_43 : decode m_H_brief.2.1 43 = .ok (.ireturn, 1) := by decide +kernel
theorem d_H_brief_44 : decode m_H_brief.2.1 44 = .ok (.aload_n 0, 1) := by decide +kernel
theorem d_H_brief_45 : decode m_H_brief.2.1 45 = .ok (.getfield 40, 3) := by decide +kernel
theorem d_H_brief_48 : decode m_H_brief.2.1 48 = .ok (.iload_n 3, 1) := by decide +kernel
theorem d_H_brief_49 : decode m_H_brief.2.1 49 = .ok (.aload_n 0, 1) := by decide +kernel
theorem d_H_brief_50 : decode m_H_brief.2.1 50 = .ok (.getfield 82, 3) := by decide +kernel
theorem d_H_brief_53 : decode m_H_brief.2.1 53 = .ok (.invokevirtual 156, 3) := by decide +kernel
theorem d_H_brief_56 : decode m_H_brief.2.1 56 = .ok (.aload_n 0, 1) := by decide +kernel
theorem d_H_brief_57 : decode m_H_brief.2.1 57 = .ok (.getfield 82, 3) := by decide +kernel
theorem d_H_brief_60 : decode m_H_brief.2.1 60 = .ok (.iload_n 2, 1) := by decide +kernel
theorem d_H_brief_61 : decode m_H_brief.2.1 61 = .ok (.invokestatic 160, 3) := by decide +kernel
theorem d_H_brief_64 : decode m_H_brief.2.1 64 = .ok (.ireturn, 1) := by decide +kernel
theorem d_H_net_0 : decode m_H_net.2.1 0 = .ok (.iload_n 1, 1) := by decide +kernel
theorem d_H_net_1 : decode m_H_net.2.1 1 = .ok (.ifCond .lt 8, 3) := by decide +kernel
theorem d_H_net_4 : decode m_H_net.2.1 4 = .ok (.iload_n 1, 1) := by decide +kernel
theorem d_H_net_5 : decode m_H_net.2.1 5 = .ok (.iconst 5, 1) := by decide +kernel
theorem d_H_net_6 : decode m_H_net.2.1 6 = .ok (.if_icmp .le 6, 3) := by decide +kernel
theorem d_H_net_9 : decode m_H_net.2.1 9 = .ok (.bipush (-2), 2) := by decide +kernel
theorem d_H_net_11 : decode m_H_net.2.1 11 = .ok (.ireturn, 1) := by decide +kernel
theorem d_H_net_12 : decode m_H_net.2.1 12 = .ok (.iload_n 1, 1) := by decide +kernel
theorem d_H_net_13 : decode m_H_net.2.1 13 = .ok (.iconst 5, 1) := by decide +kernel
theorem d_H_net_14 : decode m_H_net.2.1 14 = .ok (.if_icmp .ne 22, 3) := by decide +kernel
theorem d_H_net_17 : decode m_H_net.2.1 17 = .ok (.aload_n 0, 1) := by decide +kernel
theorem d_H_net_18 : decode m_H_net.2.1 18 = .ok (.getfield 72, 3) := by decide +kernel
theorem d_H_net_21 : decode m_H_net.2.1 21 = .ok (.aload_n 0, 1) := by decide +kernel
theorem d_H_net_22 : decode m_H_net.2.1 22 = .ok (.getfield 21, 3) := by decide +kernel
theorem d_H_net_25 : decode m_H_net.2.1 25 = .ok (.invokevirtual 164, 3) := by decide +kernel
theorem d_H_net_28 : decode m_H_net.2.1 28 = .ok (.aload_n 0, 1) := by decide +kernel
theorem d_H_net_29 : decode m_H_net.2.1 29 = .ok (.getfield 72, 3) := by decide +kernel
theorem d_H_net_32 : decode m_H_net.2.1 32 = .ok (.invokevirtual 168, 3) := by decide +kernel
theorem d_H_net_35 : decode m_H_net.2.1 35 = .ok (.ireturn, 1) := by decide +kernel
theorem d_H_net_36 : decode m_H_net.2.1 36 = .ok (.aload_n 0, 1) := by decide +kernel
theorem d_H_net_37 : decode m_H_net.2.1 37 = .ok (.invokevirtual 171, 3) := by decide +kernel
theorem d_H_net_40 : decode m_H_net.2.1 40 = .ok (.iload_n 1, 1) := by decide +kernel
theorem d_H_net_41 : decode m_H_net.2.1 41 = .ok (.tableswitch 63 0 3 #[31, 39, 47, 55], 31) := by decide +kernel
theorem d_H_net_72 : decode m_H_net.2.1 72 = .ok (.aload_n 0, 1) := by decide +kernel
theorem d_H_net_73 : decode m_H_net.2.1 73 = .ok (.getfield 49, 3) := by decide +kernel
theorem d_H_net_76 : decode m_H_net.2.1 76 = .ok (.getfield 174, 3) := by decide +kernel
theorem d_H_net_79 : decode m_H_net.2.1 79 = .ok (.ireturn, 1) := by decide +kernel
theorem d_H_net_80 : decode m_H_net.2.1 80 = .ok (.aload_n 0, 1) := by decide +kernel
theorem d_H_net_81 : decode m_H_net.2.1 81 = .ok (.getfield 49, 3) := by decide +kernel
theorem d_H_net_84 : decode m_H_net.2.1 84 = .ok (.invokevirtual 176, 3) := by decide +kernel
theorem d_H_net_87 : decode m_H_net.2.1 87 = .ok (.ireturn, 1) := by decide +kernel
theorem d_H_net_88 : decode m_H_net.2.1 88 = .ok (.aload_n 0, 1) := by decide +kernel
theorem d_H_net_89 : decode m_H_net.2.1 89 = .ok (.getfield 49, 3) := by decide +kernel
theorem d_H_net_92 : decode m_H_net.2.1 92 = .ok (.getfield 179, 3) := by decide +kernel
theorem d_H_net_95 : decode m_H_net.2.1 95 = .ok (.ireturn, 1) := by decide +kernel
theorem d_H_net_96 : decode m_H_net.2.1 96 = .ok (.aload_n 0, 1) := by decide +kernel
theorem d_H_net_97 : decode m_H_net.2.1 97 = .ok (.getfield 49, 3) := by decide +kernel
theorem d_H_net_100 : decode m_H_net.2.1 100 = .ok (.getfield 182, 3) := by decide +kernel
theorem d_H_net_103 : decode m_H_net.2.1 103 = .ok (.ireturn, 1) := by decide +kernel
theorem d_H_net_104 : decode m_H_net.2.1 104 = .ok (.aload_n 0, 1) := by decide +kernel
theorem d_H_net_105 : decode m_H_net.2.1 105 = .ok (.getfield 49, 3) := by decide +kernel
theorem d_H_net_108 : decode m_H_net.2.1 108 = .ok (.getfield 185, 3) := by decide +kernel
theorem d_H_net_111 : decode m_H_net.2.1 111 = .ok (.ireturn, 1) := by decide +kernel
theorem d_H_node_0 : decode m_H_node.2.1 0 = .ok (.aload_n 0, 1) := by decide +kernel
theorem d_H_node_1 : decode m_H_node.2.1 1 = .ok (.invokevirtual 171, 3) := by decide +kernel
theorem d_H_node_4 : decode m_H_node.2.1 4 = .ok (.aload_n 0, 1) := by decide +kernel
theorem d_H_node_5 : decode m_H_node.2.1 5 = .ok (.getfield 49, 3) := by decide +kernel
theorem d_H_node_8 : decode m_H_node.2.1 8 = .ok (.iload_n 1, 1) := by decide +kernel
theorem d_H_node_9 : decode m_H_node.2.1 9 = .ok (.invokevirtual 188, 3) := by decide +kernel
theorem d_H_node_12 : decode m_H_node.2.1 12 = .ok (.astore_n 3, 1) := by decide +kernel
theorem d_H_node_13 : decode m_H_node.2.1 13 = .ok (.aload_n 3, 1) := by decide +kernel
theorem d_H_node_14 : decode m_H_node.2.1 14 = .ok (.ifnonnull 5, 3) := by decide +kernel
theorem d_H_node_17 : decode m_H_node.2.1 17 = .ok (.iconst (-1), 1) := by decide +kernel
theorem d_H_node_18 : decode m_H_node.2.1 18 = .ok (.ireturn, 1) := by decide +kernel
theorem d_H_node_19 : decode m_H_node.2.1 19 = .ok (.iload_n 2, 1) := by decide +kernel
theorem d_H_node_20 : decode m_H_node.2.1 20 = .ok (.tableswitch 96 0 6 #[44, 52, 60, 65, 70, 75, 83], 44) := by decide +kernel
theorem d_H_node_64 : decode m_H_node.2.1 64 = .ok (.aload_n 3, 1) := by decide +kernel
theorem d_H_node_65 : decode m_H_node.2.1 65 = .ok (.getfield 192, 3) := by decide +kernel
theorem d_H_node_68 : decode m_H_node.2.1 68 = .ok (.invokevirtual 89, 3) := by decide +kernel
theorem d_H_node_71 : decode m_H_node.2.1 71 = .ok (.ireturn, 1) := by decide +kernel
theorem d_H_node_72 : decode m_H_node.2.1 72 = .ok (.aload_n 3, 1) := by decide +kernel
theorem d_H_node_73 : decode m_H_node.2.1 73 = .ok (.getfield 195, 3) := by decide +kernel
theorem d_H_node_76 : decode m_H_node.2.1 76 = .ok (.invokevirtual 89, 3) := by decide +kernel
theorem d_H_node_79 : decode m_H_node.2.1 79 = .ok (.ireturn, 1) := by decide +kernel
theorem d_H_node_80 : decode m_H_node.2.1 80 = .ok (.aload_n 3, 1) := by decide +kernel
theorem d_H_node_81 : decode m_H_node.2.1 81 = .ok (.getfield 196, 3) := by decide +kernel
theorem d_H_node_84 : decode m_H_node.2.1 84 = .ok (.ireturn, 1) := by decide +kernel
theorem d_H_node_85 : decode m_H_node.2.1 85 = .ok (.aload_n 3, 1) := by decide +kernel
theorem d_H_node_86 : decode m_H_node.2.1 86 = .ok (.getfield 199, 3) := by decide +kernel
theorem d_H_node_89 : decode m_H_node.2.1 89 = .ok (.ireturn, 1) := by decide +kernel
theorem d_H_node_90 : decode m_H_node.2.1 90 = .ok (.aload_n 3, 1) := by decide +kernel
theorem d_H_node_91 : decode m_H_node.2.1 91 = .ok (.getfield 202, 3) := by decide +kernel
theorem d_H_node_94 : decode m_H_node.2.1 94 = .ok (.ireturn, 1) := by decide +kernel
theorem d_H_node_95 : decode m_H_node.2.1 95 = .ok (.aload_n 3, 1) := by decide +kernel
theorem d_H_node_96 : decode m_H_node.2.1 96 = .ok (.getfield 205, 3) := by decide +kernel
theorem d_H_node_99 : decode m_H_node.2.1 99 = .ok (.invokevirtual 89, 3) := by decide +kernel
theorem d_H_node_102 : decode m_H_node.2.1 102 = .ok (.ireturn, 1) := by decide +kernel
theorem d_H_node_103 : decode m_H_node.2.1 103 = .ok (.aload_n 3, 1) := by decide +kernel
theorem d_H_node_104 : decode m_H_node.2.1 104 = .ok (.getfield 208, 3) := by decide +kernel
theorem d_H_node_107 : decode m_H_node.2.1 107 = .ok (.ifCond .eq 7, 3) := by decide +kernel
theorem d_H_node_110 : decode m_H_node.2.1 110 = .ok (.iconst 1, 1) := by decide +kernel
theorem d_H_node_111 : decode m_H_node.2.1 111 = .ok (.goto 4, 3) := by decide +kernel
theorem d_H_node_114 : decode m_H_node.2.1 114 = .ok (.iconst 0, 1) := by decide +kernel
theorem d_H_node_115 : decode m_H_node.2.1 115 = .ok (.ireturn, 1) := by decide +kernel
theorem d_H_node_116 : decode m_H_node.2.1 116 = .ok (.bipush (-2), 2) := by decide +kernel
theorem d_H_node_118 : decode m_H_node.2.1 118 = .ok (.ireturn, 1) := by decide +kernel
theorem d_H_symbol_0 : decode m_H_symbol.2.1 0 = .ok (.aload_n 0, 1) := by decide +kernel
theorem d_H_symbol_1 : decode m_H_symbol.2.1 1 = .ok (.invokevirtual 171, 3) := by decide +kernel
theorem d_H_symbol_4 : decode m_H_symbol.2.1 4 = .ok (.aload_n 0, 1) := by decide +kernel
theorem d_H_symbol_5 : decode m_H_symbol.2.1 5 = .ok (.getfield 49, 3) := by decide +kernel
theorem d_H_symbol_8 : decode m_H_symbol.2.1 8 = .ok (.iload_n 1, 1) := by decide +kernel
theorem d_H_symbol_9 : decode m_H_symbol.2.1 9 = .ok (.invokevirtual 188, 3) := by decide +kernel
theorem d_H_symbol_12 : decode m_H_symbol.2.1 12 = .ok (.astore 4, 2) := by decide +kernel
theorem d_H_symbol_14 : decode m_H_symbol.2.1 14 = .ok (.aload 4, 2) := by decide +kernel
theorem d_H_symbol_16 : decode m_H_symbol.2.1 16 = .ok (.ifnonnull 5, 3) := by decide +kernel
theorem d_H_symbol_19 : decode m_H_symbol.2.1 19 = .ok (.iconst (-1), 1) := by decide +kernel
theorem d_H_symbol_20 : decode m_H_symbol.2.1 20 = .ok (.ireturn, 1) := by decide +kernel
theorem d_H_symbol_21 : decode m_H_symbol.2.1 21 = .ok (.iload_n 2, 1) := by decide +kernel
theorem d_H_symbol_22 : decode m_H_symbol.2.1 22 = .ok (.ifCond .lt 8, 3) := by decide +kernel
theorem d_H_symbol_25 : decode m_H_symbol.2.1 25 = .ok (.iload_n 2, 1) := by decide +kernel
theorem d_H_symbol_26 : decode m_H_symbol.2.1 26 = .ok (.iconst 1, 1) := by decide +kernel
theorem d_H_symbol_27 : decode m_H_symbol.2.1 27 = .ok (.if_icmp .le 6, 3) := by decide +kernel
theorem d_H_symbol_30 : decode m_H_symbol.2.1 30 = .ok (.bipush (-2), 2) := by decide +kernel
theorem d_H_symbol_32 : decode m_H_symbol.2.1 32 = .ok (.ireturn, 1) := by decide +kernel
theorem d_H_symbol_33 : decode m_H_symbol.2.1 33 = .ok (.iload_n 2, 1) := by decide +kernel
theorem d_H_symbol_34 : decode m_H_symbol.2.1 34 = .ok (.ifCond .ne 15, 3) := by decide +kernel
theorem d_H_symbol_37 : decode m_H_symbol.2.1 37 = .ok (.aload 4, 2) := by decide +kernel
theorem d_H_symbol_39 : decode m_H_symbol.2.1 39 = .ok (.getfield 192, 3) := by decide +kernel
theorem d_H_symbol_42 : decode m_H_symbol.2.1 42 = .ok (.iload_n 3, 1) := by decide +kernel
theorem d_H_symbol_43 : decode m_H_symbol.2.1 43 = .ok (.invokevirtual 212, 3) := by decide +kernel
theorem d_H_symbol_46 : decode m_H_symbol.2.1 46 = .ok (.goto 12, 3) := by decide +kernel
theorem d_H_symbol_49 : decode m_H_symbol.2.1 49 = .ok (.aload 4, 2) := by decide +kernel
theorem d_H_symbol_51 : decode m_H_symbol.2.1 51 = .ok (.getfield 195, 3) := by decide +kernel
theorem d_H_symbol_54 : decode m_H_symbol.2.1 54 = .ok (.iload_n 3, 1) := by decide +kernel
theorem d_H_symbol_55 : decode m_H_symbol.2.1 55 = .ok (.invokevirtual 212, 3) := by decide +kernel
theorem d_H_symbol_58 : decode m_H_symbol.2.1 58 = .ok (.ireturn, 1) := by decide +kernel
theorem d_H_needs_0 : decode m_H_needs.2.1 0 = .ok (.aload_n 0, 1) := by decide +kernel
theorem d_H_needs_1 : decode m_H_needs.2.1 1 = .ok (.invokevirtual 171, 3) := by decide +kernel
theorem d_H_needs_4 : decode m_H_needs.2.1 4 = .ok (.aload_n 0, 1) := by decide +kernel
theorem d_H_needs_5 : decode m_H_needs.2.1 5 = .ok (.getfield 49, 3) := by decide +kernel
theorem d_H_needs_8 : decode m_H_needs.2.1 8 = .ok (.iload_n 1, 1) := by decide +kernel
theorem d_H_needs_9 : decode m_H_needs.2.1 9 = .ok (.invokevirtual 188, 3) := by decide +kernel
theorem d_H_needs_12 : decode m_H_needs.2.1 12 = .ok (.astore 4, 2) := by decide +kernel
theorem d_H_needs_14 : decode m_H_needs.2.1 14 = .ok (.aload 4, 2) := by decide +kernel
theorem d_H_needs_16 : decode m_H_needs.2.1 16 = .ok (.ifnull 17, 3) := by decide +kernel
theorem d_H_needs_19 : decode m_H_needs.2.1 19 = .ok (.iload_n 2, 1) := by decide +kernel
theorem d_H_needs_20 : decode m_H_needs.2.1 20 = .ok (.invokestatic 130, 3) := by decide +kernel
theorem d_H_needs_23 : decode m_H_needs.2.1 23 = .ok (.ifCond .eq 10, 3) := by decide +kernel
theorem d_H_needs_26 : decode m_H_needs.2.1 26 = .ok (.iload_n 3, 1) := by decide +kernel
theorem d_H_needs_27 : decode m_H_needs.2.1 27 = .ok (.invokestatic 111, 3) := by decide +kernel
theorem d_H_needs_30 : decode m_H_needs.2.1 30 = .ok (.ifCond .ne 5, 3) := by decide +kernel
theorem d_H_needs_33 : decode m_H_needs.2.1 33 = .ok (.iconst (-1), 1) := by decide +kernel
theorem d_H_needs_34 : decode m_H_needs.2.1 34 = .ok (.ireturn, 1) := by decide +kernel
theorem d_H_needs_35 : decode m_H_needs.2.1 35 = .ok (.aload 4, 2) := by decide +kernel
theorem d_H_needs_37 : decode m_H_needs.2.1 37 = .ok (.getfield 214, 3) := by decide +kernel
theorem d_H_needs_40 : decode m_H_needs.2.1 40 = .ok (.iload_n 2, 1) := by decide +kernel
theorem d_H_needs_41 : decode m_H_needs.2.1 41 = .ok (.invokestatic 139, 3) := by decide +kernel
theorem d_H_needs_44 : decode m_H_needs.2.1 44 = .ok (.iload_n 3, 1) := by decide +kernel
theorem d_H_needs_45 : decode m_H_needs.2.1 45 = .ok (.invokestatic 142, 3) := by decide +kernel
theorem d_H_needs_48 : decode m_H_needs.2.1 48 = .ok (.ireturn, 1) := by decide +kernel
theorem d_H_move_0 : decode m_H_move.2.1 0 = .ok (.aload_n 0, 1) := by decide +kernel
theorem d_H_move_1 : decode m_H_move.2.1 1 = .ok (.invokevirtual 171, 3) := by decide +kernel
theorem d_H_move_4 : decode m_H_move.2.1 4 = .ok (.aload_n 0, 1) := by decide +kernel
theorem d_H_move_5 : decode m_H_move.2.1 5 = .ok (.getfield 49, 3) := by decide +kernel
theorem d_H_move_8 : decode m_H_move.2.1 8 = .ok (.iload_n 1, 1) := by decide +kernel
theorem d_H_move_9 : decode m_H_move.2.1 9 = .ok (.invokevirtual 188, 3) := by decide +kernel
theorem d_H_move_12 : decode m_H_move.2.1 12 = .ok (.astore 4, 2) := by decide +kernel
theorem d_H_move_14 : decode m_H_move.2.1 14 = .ok (.aload 4, 2) := by decide +kernel
theorem d_H_move_16 : decode m_H_move.2.1 16 = .ok (.ifnonnull 5, 3) := by decide +kernel
theorem d_H_move_19 : decode m_H_move.2.1 19 = .ok (.iconst (-1), 1) := by decide +kernel
theorem d_H_move_20 : decode m_H_move.2.1 20 = .ok (.ireturn, 1) := by decide +kernel
theorem d_H_move_21 : decode m_H_move.2.1 21 = .ok (.iload_n 3, 1) := by decide +kernel
theorem d_H_move_22 : decode m_H_move.2.1 22 = .ok (.ifCond .lt 8, 3) := by decide +kernel
theorem d_H_move_25 : decode m_H_move.2.1 25 = .ok (.iload_n 3, 1) := by decide +kernel
theorem d_H_move_26 : decode m_H_move.2.1 26 = .ok (.iconst 1, 1) := by decide +kernel
theorem d_H_move_27 : decode m_H_move.2.1 27 = .ok (.if_icmp .le 6, 3) := by decide +kernel
theorem d_H_move_30 : decode m_H_move.2.1 30 = .ok (.bipush (-2), 2) := by decide +kernel
theorem d_H_move_32 : decode m_H_move.2.1 32 = .ok (.ireturn, 1) := by decide +kernel
theorem d_H_move_33 : decode m_H_move.2.1 33 = .ok (.iload_n 3, 1) := by decide +kernel
theorem d_H_move_34 : decode m_H_move.2.1 34 = .ok (.ifCond .ne 15, 3) := by decide +kernel
theorem d_H_move_37 : decode m_H_move.2.1 37 = .ok (.aload 4, 2) := by decide +kernel
theorem d_H_move_39 : decode m_H_move.2.1 39 = .ok (.getfield 205, 3) := by decide +kernel
theorem d_H_move_42 : decode m_H_move.2.1 42 = .ok (.iload_n 2, 1) := by decide +kernel
theorem d_H_move_43 : decode m_H_move.2.1 43 = .ok (.invokevirtual 212, 3) := by decide +kernel
theorem d_H_move_46 : decode m_H_move.2.1 46 = .ok (.goto 12, 3) := by decide +kernel
theorem d_H_move_49 : decode m_H_move.2.1 49 = .ok (.aload 4, 2) := by decide +kernel
theorem d_H_move_51 : decode m_H_move.2.1 51 = .ok (.getfield 215, 3) := by decide +kernel
theorem d_H_move_54 : decode m_H_move.2.1 54 = .ok (.iload_n 2, 1) := by decide +kernel
theorem d_H_move_55 : decode m_H_move.2.1 55 = .ok (.invokevirtual 212, 3) := by decide +kernel
theorem d_H_move_58 : decode m_H_move.2.1 58 = .ok (.ireturn, 1) := by decide +kernel
theorem d_H_answer_0 : decode m_H_answer.2.1 0 = .ok (.iload_n 1, 1) := by decide +kernel
theorem d_H_answer_1 : decode m_H_answer.2.1 1 = .ok (.invokestatic 130, 3) := by decide +kernel
theorem d_H_answer_4 : decode m_H_answer.2.1 4 = .ok (.ifCond .ne 5, 3) := by decide +kernel
theorem d_H_answer_7 : decode m_H_answer.2.1 7 = .ok (.iconst (-1), 1) := by decide +kernel
theorem d_H_answer_8 : decode m_H_answer.2.1 8 = .ok (.ireturn, 1) := by decide +kernel
theorem d_H_answer_9 : decode m_H_answer.2.1 9 = .ok (.aload_n 0, 1) := by decide +kernel
theorem d_H_answer_10 : decode m_H_answer.2.1 10 = .ok (.invokevirtual 171, 3) := by decide +kernel
theorem d_H_answer_13 : decode m_H_answer.2.1 13 = .ok (.aload_n 0, 1) := by decide +kernel
theorem d_H_answer_14 : decode m_H_answer.2.1 14 = .ok (.getfield 58, 3) := by decide +kernel
theorem d_H_answer_17 : decode m_H_answer.2.1 17 = .ok (.getfield 218, 3) := by decide +kernel
theorem d_H_answer_20 : decode m_H_answer.2.1 20 = .ok (.ifCond .ne 6, 3) := by decide +kernel
theorem d_H_answer_23 : decode m_H_answer.2.1 23 = .ok (.bipush (-3), 2) := by decide +kernel
theorem d_H_answer_25 : decode m_H_answer.2.1 25 = .ok (.ireturn, 1) := by decide +kernel
theorem d_H_answer_26 : decode m_H_answer.2.1 26 = .ok (.aload_n 0, 1) := by decide +kernel
theorem d_H_answer_27 : decode m_H_answer.2.1 27 = .ok (.getfield 58, 3) := by decide +kernel
theorem d_H_answer_30 : decode m_H_answer.2.1 30 = .ok (.getfield 221, 3) := by decide +kernel
theorem d_H_answer_33 : decode m_H_answer.2.1 33 = .ok (.iload_n 1, 1) := by decide +kernel
theorem d_H_answer_34 : decode m_H_answer.2.1 34 = .ok (.invokevirtual 225, 3) := by decide +kernel
theorem d_H_answer_37 : decode m_H_answer.2.1 37 = .ok (.iload_n 2, 1) := by decide +kernel
theorem d_H_answer_38 : decode m_H_answer.2.1 38 = .ok (.invokestatic 160, 3) := by decide +kernel
theorem d_H_answer_41 : decode m_H_answer.2.1 41 = .ok (.ireturn, 1) := by decide +kernel
theorem d_H_spell_0 : decode m_H_spell.2.1 0 = .ok (.iload_n 1, 1) := by decide +kernel
theorem d_H_spell_1 : decode m_H_spell.2.1 1 = .ok (.invokestatic 130, 3) := by decide +kernel
theorem d_H_spell_4 : decode m_H_spell.2.1 4 = .ok (.ifCond .eq 10, 3) := by decide +kernel
theorem d_H_spell_7 : decode m_H_spell.2.1 7 = .ok (.iload_n 2, 1) := by decide +kernel
theorem d_H_spell_8 : decode m_H_spell.2.1 8 = .ok (.invokestatic 114, 3) := by decide +kernel
theorem d_H_spell_11 : decode m_H_spell.2.1 11 = .ok (.ifCond .ne 5, 3) := by decide +kernel
theorem d_H_spell_14 : decode m_H_spell.2.1 14 = .ok (.iconst (-1), 1) := by decide +kernel
theorem d_H_spell_15 : decode m_H_spell.2.1 15 = .ok (.ireturn, 1) := by decide +kernel
theorem d_H_spell_16 : decode m_H_spell.2.1 16 = .ok (.aload_n 0, 1) := by decide +kernel
theorem d_H_spell_17 : decode m_H_spell.2.1 17 = .ok (.getfield 21, 3) := by decide +kernel
theorem d_H_spell_20 : decode m_H_spell.2.1 20 = .ok (.getfield 231, 3) := by decide +kernel
theorem d_H_spell_23 : decode m_H_spell.2.1 23 = .ok (.iload_n 1, 1) := by decide +kernel
theorem d_H_spell_24 : decode m_H_spell.2.1 24 = .ok (.invokevirtual 225, 3) := by decide +kernel
theorem d_H_spell_27 : decode m_H_spell.2.1 27 = .ok (.astore_n 3, 1) := by decide +kernel
theorem d_H_spell_28 : decode m_H_spell.2.1 28 = .ok (.aload_n 3, 1) := by decide +kernel
theorem d_H_spell_29 : decode m_H_spell.2.1 29 = .ok (.iload_n 2, 1) := by decide +kernel
theorem d_H_spell_30 : decode m_H_spell.2.1 30 = .ok (.invokevirtual 85, 3) := by decide +kernel
theorem d_H_spell_33 : decode m_H_spell.2.1 33 = .ok (.ifCond .eq 10, 3) := by decide +kernel
theorem d_H_spell_36 : decode m_H_spell.2.1 36 = .ok (.aload_n 3, 1) := by decide +kernel
theorem d_H_spell_37 : decode m_H_spell.2.1 37 = .ok (.invokevirtual 89, 3) := by decide +kernel
theorem d_H_spell_40 : decode m_H_spell.2.1 40 = .ok (.goto 5, 3) := by decide +kernel
theorem d_H_spell_43 : decode m_H_spell.2.1 43 = .ok (.bipush (-4), 2) := by decide +kernel
theorem d_H_spell_45 : decode m_H_spell.2.1 45 = .ok (.ireturn, 1) := by decide +kernel
theorem d_H_clear_0 : decode m_H_clear.2.1 0 = .ok (.iload_n 1, 1) := by decide +kernel
theorem d_H_clear_1 : decode m_H_clear.2.1 1 = .ok (.invokestatic 130, 3) := by decide +kernel
theorem d_H_clear_4 : decode m_H_clear.2.1 4 = .ok (.ifCond .ne 5, 3) := by decide +kernel
theorem d_H_clear_7 : decode m_H_clear.2.1 7 = .ok (.iconst (-1), 1) := by decide +kernel
theorem d_H_clear_8 : decode m_H_clear.2.1 8 = .ok (.ireturn, 1) := by decide +kernel
theorem d_H_clear_9 : decode m_H_clear.2.1 9 = .ok (.aload_n 0, 1) := by decide +kernel
theorem d_H_clear_10 : decode m_H_clear.2.1 10 = .ok (.getfield 21, 3) := by decide +kernel
theorem d_H_clear_13 : decode m_H_clear.2.1 13 = .ok (.getfield 231, 3) := by decide +kernel
theorem d_H_clear_16 : decode m_H_clear.2.1 16 = .ok (.iload_n 1, 1) := by decide +kernel
theorem d_H_clear_17 : decode m_H_clear.2.1 17 = .ok (.invokevirtual 225, 3) := by decide +kernel
theorem d_H_clear_20 : decode m_H_clear.2.1 20 = .ok (.astore_n 2, 1) := by decide +kernel
theorem d_H_clear_21 : decode m_H_clear.2.1 21 = .ok (.aload_n 2, 1) := by decide +kernel
theorem d_H_clear_22 : decode m_H_clear.2.1 22 = .ok (.invokevirtual 89, 3) := by decide +kernel
theorem d_H_clear_25 : decode m_H_clear.2.1 25 = .ok (.istore_n 3, 1) := by decide +kernel
theorem d_H_clear_26 : decode m_H_clear.2.1 26 = .ok (.aload_n 2, 1) := by decide +kernel
theorem d_H_clear_27 : decode m_H_clear.2.1 27 = .ok (.invokevirtual 93, 3) := by decide +kernel
theorem d_H_clear_30 : decode m_H_clear.2.1 30 = .ok (.iload_n 3, 1) := by decide +kernel
theorem d_H_clear_31 : decode m_H_clear.2.1 31 = .ok (.ireturn, 1) := by decide +kernel
theorem d_H_take_0 : decode m_H_take.2.1 0 = .ok (.aload_n 0, 1) := by decide +kernel
theorem d_H_take_1 : decode m_H_take.2.1 1 = .ok (.invokevirtual 171, 3) := by decide +kernel
theorem d_H_take_4 : decode m_H_take.2.1 4 = .ok (.aload_n 0, 1) := by decide +kernel
theorem d_H_take_5 : decode m_H_take.2.1 5 = .ok (.getfield 58, 3) := by decide +kernel
theorem d_H_take_8 : decode m_H_take.2.1 8 = .ok (.getfield 218, 3) := by decide +kernel
theorem d_H_take_11 : decode m_H_take.2.1 11 = .ok (.ifCond .ne 6, 3) := by decide +kernel
theorem d_H_take_14 : decode m_H_take.2.1 14 = .ok (.bipush (-3), 2) := by decide +kernel
theorem d_H_take_16 : decode m_H_take.2.1 16 = .ok (.ireturn, 1) := by decide +kernel
theorem d_H_take_17 : decode m_H_take.2.1 17 = .ok (.aload_n 0, 1) := by decide +kernel
theorem d_H_take_18 : decode m_H_take.2.1 18 = .ok (.getfield 58, 3) := by decide +kernel
theorem d_H_take_21 : decode m_H_take.2.1 21 = .ok (.getfield 221, 3) := by decide +kernel
theorem d_H_take_24 : decode m_H_take.2.1 24 = .ok (.invokevirtual 232, 3) := by decide +kernel
theorem d_H_take_27 : decode m_H_take.2.1 27 = .ok (.bipush 12, 2) := by decide +kernel
theorem d_H_take_29 : decode m_H_take.2.1 29 = .ok (.if_icmp .le 6, 3) := by decide +kernel
theorem d_H_take_32 : decode m_H_take.2.1 32 = .ok (.bipush (-4), 2) := by decide +kernel
theorem d_H_take_34 : decode m_H_take.2.1 34 = .ok (.ireturn, 1) := by decide +kernel
theorem d_H_take_35 : decode m_H_take.2.1 35 = .ok (.aload_n 0, 1) := by decide +kernel
theorem d_H_take_36 : decode m_H_take.2.1 36 = .ok (.getfield 21, 3) := by decide +kernel
theorem d_H_take_39 : decode m_H_take.2.1 39 = .ok (.getfield 231, 3) := by decide +kernel
theorem d_H_take_42 : decode m_H_take.2.1 42 = .ok (.aload_n 0, 1) := by decide +kernel
theorem d_H_take_43 : decode m_H_take.2.1 43 = .ok (.getfield 58, 3) := by decide +kernel
theorem d_H_take_46 : decode m_H_take.2.1 46 = .ok (.getfield 221, 3) := by decide +kernel
theorem d_H_take_49 : decode m_H_take.2.1 49 = .ok (.invokevirtual 235, 3) := by decide +kernel
theorem d_H_take_52 : decode m_H_take.2.1 52 = .ok (.aload_n 0, 1) := by decide +kernel
theorem d_H_take_53 : decode m_H_take.2.1 53 = .ok (.getfield 21, 3) := by decide +kernel
theorem d_H_take_56 : decode m_H_take.2.1 56 = .ok (.getfield 231, 3) := by decide +kernel
theorem d_H_take_59 : decode m_H_take.2.1 59 = .ok (.invokevirtual 239, 3) := by decide +kernel
theorem d_H_take_62 : decode m_H_take.2.1 62 = .ok (.ireturn, 1) := by decide +kernel
theorem d_H_fits_0 : decode m_H_fits.2.1 0 = .ok (.aload_n 0, 1) := by decide +kernel
theorem d_H_fits_1 : decode m_H_fits.2.1 1 = .ok (.invokevirtual 242, 3) := by decide +kernel
theorem d_H_fits_4 : decode m_H_fits.2.1 4 = .ok (.istore_n 1, 1) := by decide +kernel
theorem d_H_fits_5 : decode m_H_fits.2.1 5 = .ok (.aload_n 0, 1) := by decide +kernel
theorem d_H_fits_6 : decode m_H_fits.2.1 6 = .ok (.getfield 21, 3) := by decide +kernel
theorem d_H_fits_9 : decode m_H_fits.2.1 9 = .ok (.invokevirtual 246, 3) := by decide +kernel
theorem d_H_fits_12 : decode m_H_fits.2.1 12 = .ok (.istore_n 2, 1) := by decide +kernel
theorem d_H_fits_13 : decode m_H_fits.2.1 13 = .ok (.iload_n 1, 1) := by decide +kernel
theorem d_H_fits_14 : decode m_H_fits.2.1 14 = .ok (.ifCond .eq 13, 3) := by decide +kernel
theorem d_H_fits_17 : decode m_H_fits.2.1 17 = .ok (.iload_n 2, 1) := by decide +kernel
theorem d_H_fits_18 : decode m_H_fits.2.1 18 = .ok (.ifCond .eq 7, 3) := by decide +kernel
theorem d_H_fits_21 : decode m_H_fits.2.1 21 = .ok (.iconst 0, 1) := by decide +kernel
theorem d_H_fits_22 : decode m_H_fits.2.1 22 = .ok (.goto 4, 3) := by decide +kernel
theorem d_H_fits_25 : decode m_H_fits.2.1 25 = .ok (.iconst 1, 1) := by decide +kernel
theorem d_H_fits_26 : decode m_H_fits.2.1 26 = .ok (.ireturn, 1) := by decide +kernel
theorem d_H_fits_27 : decode m_H_fits.2.1 27 = .ok (.iload_n 2, 1) := by decide +kernel
theorem d_H_fits_28 : decode m_H_fits.2.1 28 = .ok (.ifCond .eq 7, 3) := by decide +kernel
theorem d_H_fits_31 : decode m_H_fits.2.1 31 = .ok (.iconst 2, 1) := by decide +kernel
theorem d_H_fits_32 : decode m_H_fits.2.1 32 = .ok (.goto 4, 3) := by decide +kernel
theorem d_H_fits_35 : decode m_H_fits.2.1 35 = .ok (.iconst 3, 1) := by decide +kernel
theorem d_H_fits_36 : decode m_H_fits.2.1 36 = .ok (.ireturn, 1) := by decide +kernel
theorem d_H_lengths_0 : decode m_H_lengths.2.1 0 = .ok (.iload_n 1, 1) := by decide +kernel
theorem d_H_lengths_1 : decode m_H_lengths.2.1 1 = .ok (.ifCond .lt 8, 3) := by decide +kernel
theorem d_H_lengths_4 : decode m_H_lengths.2.1 4 = .ok (.iload_n 1, 1) := by decide +kernel
theorem d_H_lengths_5 : decode m_H_lengths.2.1 5 = .ok (.iconst 2, 1) := by decide +kernel
theorem d_H_lengths_6 : decode m_H_lengths.2.1 6 = .ok (.if_icmp .le 6, 3) := by decide +kernel
theorem d_H_lengths_9 : decode m_H_lengths.2.1 9 = .ok (.bipush (-2), 2) := by decide +kernel
theorem d_H_lengths_11 : decode m_H_lengths.2.1 11 = .ok (.ireturn, 1) := by decide +kernel
theorem d_H_lengths_12 : decode m_H_lengths.2.1 12 = .ok (.iload_n 2, 1) := by decide +kernel
theorem d_H_lengths_13 : decode m_H_lengths.2.1 13 = .ok (.iconst (-1), 1) := by decide +kernel
theorem d_H_lengths_14 : decode m_H_lengths.2.1 14 = .ok (.if_icmp .ge 6, 3) := by decide +kernel
theorem d_H_lengths_17 : decode m_H_lengths.2.1 17 = .ok (.bipush (-6), 2) := by decide +kernel
theorem d_H_lengths_19 : decode m_H_lengths.2.1 19 = .ok (.ireturn, 1) := by decide +kernel
theorem d_H_lengths_20 : decode m_H_lengths.2.1 20 = .ok (.aload_n 0, 1) := by decide +kernel
theorem d_H_lengths_21 : decode m_H_lengths.2.1 21 = .ok (.getfield 72, 3) := by decide +kernel
theorem d_H_lengths_24 : decode m_H_lengths.2.1 24 = .ok (.aload_n 0, 1) := by decide +kernel
theorem d_H_lengths_25 : decode m_H_lengths.2.1 25 = .ok (.getfield 21, 3) := by decide +kernel
theorem d_H_lengths_28 : decode m_H_lengths.2.1 28 = .ok (.invokevirtual 164, 3) := by decide +kernel
theorem d_H_lengths_31 : decode m_H_lengths.2.1 31 = .ok (.aload_n 0, 1) := by decide +kernel
theorem d_H_lengths_32 : decode m_H_lengths.2.1 32 = .ok (.getfield 72, 3) := by decide +kernel
theorem d_H_lengths_35 : decode m_H_lengths.2.1 35 = .ok (.iload_n 1, 1) := by decide +kernel
theorem d_H_lengths_36 : decode m_H_lengths.2.1 36 = .ok (.invokevirtual 249, 3) := by decide +kernel
theorem d_H_lengths_39 : decode m_H_lengths.2.1 39 = .ok (.istore_n 3, 1) := by decide +kernel
theorem d_H_lengths_40 : decode m_H_lengths.2.1 40 = .ok (.iconst 0, 1) := by decide +kernel
theorem d_H_lengths_41 : decode m_H_lengths.2.1 41 = .ok (.istore 4, 2) := by decide +kernel
theorem d_H_lengths_43 : decode m_H_lengths.2.1 43 = .ok (.iconst 0, 1) := by decide +kernel
theorem d_H_lengths_44 : decode m_H_lengths.2.1 44 = .ok (.istore 5, 2) := by decide +kernel
theorem d_H_lengths_46 : decode m_H_lengths.2.1 46 = .ok (.iload 5, 2) := by decide +kernel
theorem d_H_lengths_48 : decode m_H_lengths.2.1 48 = .ok (.sipush 1000, 3) := by decide +kernel
theorem d_H_lengths_51 : decode m_H_lengths.2.1 51 = .ok (.if_icmp .ge 50, 3) := by decide +kernel
theorem d_H_lengths_54 : decode m_H_lengths.2.1 54 = .ok (.aload_n 0, 1) := by decide +kernel
theorem d_H_lengths_55 : decode m_H_lengths.2.1 55 = .ok (.getfield 72, 3) := by decide +kernel
theorem d_H_lengths_58 : decode m_H_lengths.2.1 58 = .ok (.iload 5, 2) := by decide +kernel
theorem d_H_lengths_60 : decode m_H_lengths.2.1 60 = .ok (.bipush 100, 2) := by decide +kernel
theorem d_H_lengths_62 : decode m_H_lengths.2.1 62 = .ok (.idiv, 1) := by decide +kernel
theorem d_H_lengths_63 : decode m_H_lengths.2.1 63 = .ok (.iload 5, 2) := by decide +kernel
theorem d_H_lengths_65 : decode m_H_lengths.2.1 65 = .ok (.bipush 10, 2) := by decide +kernel
theorem d_H_lengths_67 : decode m_H_lengths.2.1 67 = .ok (.idiv, 1) := by decide +kernel
theorem d_H_lengths_68 : decode m_H_lengths.2.1 68 = .ok (.bipush 10, 2) := by decide +kernel
theorem d_H_lengths_70 : decode m_H_lengths.2.1 70 = .ok (.irem, 1) := by decide +kernel
theorem d_H_lengths_71 : decode m_H_lengths.2.1 71 = .ok (.iload 5, 2) := by decide +kernel
theorem d_H_lengths_73 : decode m_H_lengths.2.1 73 = .ok (.bipush 10, 2) := by decide +kernel
theorem d_H_lengths_75 : decode m_H_lengths.2.1 75 = .ok (.irem, 1) := by decide +kernel
theorem d_H_lengths_76 : decode m_H_lengths.2.1 76 = .ok (.invokevirtual 252, 3) := by decide +kernel
theorem d_H_lengths_79 : decode m_H_lengths.2.1 79 = .ok (.iload_n 3, 1) := by decide +kernel
theorem d_H_lengths_80 : decode m_H_lengths.2.1 80 = .ok (.if_icmp .ne 15, 3) := by decide +kernel
theorem d_H_lengths_83 : decode m_H_lengths.2.1 83 = .ok (.iload 4, 2) := by decide +kernel
theorem d_H_lengths_85 : decode m_H_lengths.2.1 85 = .ok (.iload_n 2, 1) := by decide +kernel
theorem d_H_lengths_86 : decode m_H_lengths.2.1 86 = .ok (.if_icmp .ne 6, 3) := by decide +kernel
theorem d_H_lengths_89 : decode m_H_lengths.2.1 89 = .ok (.iload 5, 2) := by decide +kernel
theorem d_H_lengths_91 : decode m_H_lengths.2.1 91 = .ok (.ireturn, 1) := by decide +kernel
theorem d_H_lengths_92 : decode m_H_lengths.2.1 92 = .ok (.iinc 4 1, 3) := by decide +kernel
theorem d_H_lengths_95 : decode m_H_lengths.2.1 95 = .ok (.iinc 5 1, 3) := by decide +kernel
theorem d_H_lengths_98 : decode m_H_lengths.2.1 98 = .ok (.goto (-52), 3) := by decide +kernel
theorem d_H_lengths_101 : decode m_H_lengths.2.1 101 = .ok (.iload_n 2, 1) := by decide +kernel
theorem d_H_lengths_102 : decode m_H_lengths.2.1 102 = .ok (.iconst (-1), 1) := by decide +kernel
theorem d_H_lengths_103 : decode m_H_lengths.2.1 103 = .ok (.if_icmp .ne 8, 3) := by decide +kernel
theorem d_H_lengths_106 : decode m_H_lengths.2.1 106 = .ok (.iload 4, 2) := by decide +kernel
theorem d_H_lengths_108 : decode m_H_lengths.2.1 108 = .ok (.goto 5, 3) := by decide +kernel
theorem d_H_lengths_111 : decode m_H_lengths.2.1 111 = .ok (.bipush (-6), 2) := by decide +kernel
theorem d_H_lengths_113 : decode m_H_lengths.2.1 113 = .ok (.ireturn, 1) := by decide +kernel
theorem d_H_shortest_0 : decode m_H_shortest.2.1 0 = .ok (.iload_n 1, 1) := by decide +kernel
theorem d_H_shortest_1 : decode m_H_shortest.2.1 1 = .ok (.iconst (-1), 1) := by decide +kernel
theorem d_H_shortest_2 : decode m_H_shortest.2.1 2 = .ok (.if_icmp .eq 12, 3) := by decide +kernel
theorem d_H_shortest_5 : decode m_H_shortest.2.1 5 = .ok (.iload_n 1, 1) := by decide +kernel
theorem d_H_shortest_6 : decode m_H_shortest.2.1 6 = .ok (.invokestatic 130, 3) := by decide +kernel
theorem d_H_shortest_9 : decode m_H_shortest.2.1 9 = .ok (.ifCond .ne 5, 3) := by decide +kernel
theorem d_H_shortest_12 : decode m_H_shortest.2.1 12 = .ok (.iconst (-1), 1) := by decide +kernel
theorem d_H_shortest_13 : decode m_H_shortest.2.1 13 = .ok (.ireturn, 1) := by decide +kernel
theorem d_H_shortest_14 : decode m_H_shortest.2.1 14 = .ok (.aload_n 0, 1) := by decide +kernel
theorem d_H_shortest_15 : decode m_H_shortest.2.1 15 = .ok (.getfield 256, 3) := by decide +kernel
theorem d_H_shortest_18 : decode m_H_shortest.2.1 18 = .ok (.ifCond .ne 34, 3) := by decide +kernel
theorem d_H_shortest_21 : decode m_H_shortest.2.1 21 = .ok (.aload_n 0, 1) := by decide +kernel
theorem d_H_shortest_22 : decode m_H_shortest.2.1 22 = .ok (.getfield 72, 3) := by decide +kernel
theorem d_H_shortest_25 : decode m_H_shortest.2.1 25 = .ok (.aload_n 0, 1) := by decide +kernel
theorem d_H_shortest_26 : decode m_H_shortest.2.1 26 = .ok (.getfield 21, 3) := by decide +kernel
theorem d_H_shortest_29 : decode m_H_shortest.2.1 29 = .ok (.invokevirtual 164, 3) := by decide +kernel
theorem d_H_shortest_32 : decode m_H_shortest.2.1 32 = .ok (.aload_n 0, 1) := by decide +kernel
theorem d_H_shortest_33 : decode m_H_shortest.2.1 33 = .ok (.getfield 65, 3) := by decide +kernel
theorem d_H_shortest_36 : decode m_H_shortest.2.1 36 = .ok (.aload_n 0, 1) := by decide +kernel
theorem d_H_shortest_37 : decode m_H_shortest.2.1 37 = .ok (.getfield 21, 3) := by decide +kernel
theorem d_H_shortest_40 : decode m_H_shortest.2.1 40 = .ok (.aload_n 0, 1) := by decide +kernel
theorem d_H_shortest_41 : decode m_H_shortest.2.1 41 = .ok (.getfield 72, 3) := by decide +kernel
theorem d_H_shortest_44 : decode m_H_shortest.2.1 44 = .ok (.invokevirtual 259, 3) := by decide +kernel
theorem d_H_shortest_47 : decode m_H_shortest.2.1 47 = .ok (.aload_n 0, 1) := by decide +kernel
theorem d_H_shortest_48 : decode m_H_shortest.2.1 48 = .ok (.iconst 1, 1) := by decide +kernel
theorem d_H_shortest_49 : decode m_H_shortest.2.1 49 = .ok (.putfield 256, 3) := by decide +kernel
theorem d_H_shortest_52 : decode m_H_shortest.2.1 52 = .ok (.aload_n 0, 1) := by decide +kernel
theorem d_H_shortest_53 : decode m_H_shortest.2.1 53 = .ok (.getfield 65, 3) := by decide +kernel
theorem d_H_shortest_56 : decode m_H_shortest.2.1 56 = .ok (.getfield 263, 3) := by decide +kernel
theorem d_H_shortest_59 : decode m_H_shortest.2.1 59 = .ok (.bipush (-6), 2) := by decide +kernel
theorem d_H_shortest_61 : decode m_H_shortest.2.1 61 = .ok (.if_icmp .ne 6, 3) := by decide +kernel
theorem d_H_shortest_64 : decode m_H_shortest.2.1 64 = .ok (.bipush (-6), 2) := by decide +kernel
theorem d_H_shortest_66 : decode m_H_shortest.2.1 66 = .ok (.ireturn, 1) := by decide +kernel
theorem d_H_shortest_67 : decode m_H_shortest.2.1 67 = .ok (.iload_n 1, 1) := by decide +kernel
theorem d_H_shortest_68 : decode m_H_shortest.2.1 68 = .ok (.iconst (-1), 1) := by decide +kernel
theorem d_H_shortest_69 : decode m_H_shortest.2.1 69 = .ok (.if_icmp .ne 13, 3) := by decide +kernel
theorem d_H_shortest_72 : decode m_H_shortest.2.1 72 = .ok (.aload_n 0, 1) := by decide +kernel
theorem d_H_shortest_73 : decode m_H_shortest.2.1 73 = .ok (.getfield 65, 3) := by decide +kernel
theorem d_H_shortest_76 : decode m_H_shortest.2.1 76 = .ok (.getfield 263, 3) := by decide +kernel
theorem d_H_shortest_79 : decode m_H_shortest.2.1 79 = .ok (.goto 11, 3) := by decide +kernel
theorem d_H_shortest_82 : decode m_H_shortest.2.1 82 = .ok (.aload_n 0, 1) := by decide +kernel
theorem d_H_shortest_83 : decode m_H_shortest.2.1 83 = .ok (.getfield 65, 3) := by decide +kernel
theorem d_H_shortest_86 : decode m_H_shortest.2.1 86 = .ok (.iload_n 1, 1) := by decide +kernel
theorem d_H_shortest_87 : decode m_H_shortest.2.1 87 = .ok (.invokevirtual 265, 3) := by decide +kernel
theorem d_H_shortest_90 : decode m_H_shortest.2.1 90 = .ok (.ireturn, 1) := by decide +kernel
theorem d_H_image_0 : decode m_H_image.2.1 0 = .ok (.iload_n 1, 1) := by decide +kernel
theorem d_H_image_1 : decode m_H_image.2.1 1 = .ok (.ifCond .lt 8, 3) := by decide +kernel
theorem d_H_image_4 : decode m_H_image.2.1 4 = .ok (.iload_n 1, 1) := by decide +kernel
theorem d_H_image_5 : decode m_H_image.2.1 5 = .ok (.iconst 1, 1) := by decide +kernel
theorem d_H_image_6 : decode m_H_image.2.1 6 = .ok (.if_icmp .le 6, 3) := by decide +kernel
theorem d_H_image_9 : decode m_H_image.2.1 9 = .ok (.bipush (-2), 2) := by decide +kernel
theorem d_H_image_11 : decode m_H_image.2.1 11 = .ok (.ireturn, 1) := by decide +kernel
theorem d_H_image_12 : decode m_H_image.2.1 12 = .ok (.iload_n 1, 1) := by decide +kernel
theorem d_H_image_13 : decode m_H_image.2.1 13 = .ok (.ifCond .ne 10, 3) := by decide +kernel
theorem d_H_image_16 : decode m_H_image.2.1 16 = .ok (.aload_n 0, 1) := by decide +kernel
theorem d_H_image_17 : decode m_H_image.2.1 17 = .ok (.getfield 25, 3) := by decide +kernel
theorem d_H_image_20 : decode m_H_image.2.1 20 = .ok (.goto 7, 3) := by decide +kernel
theorem d_H_image_23 : decode m_H_image.2.1 23 = .ok (.aload_n 0, 1) := by decide +kernel
theorem d_H_image_24 : decode m_H_image.2.1 24 = .ok (.getfield 28, 3) := by decide +kernel
theorem d_H_image_27 : decode m_H_image.2.1 27 = .ok (.astore_n 2, 1) := by decide +kernel
theorem d_H_image_28 : decode m_H_image.2.1 28 = .ok (.aload_n 2, 1) := by decide +kernel
theorem d_H_image_29 : decode m_H_image.2.1 29 = .ok (.aload_n 0, 1) := by decide +kernel
theorem d_H_image_30 : decode m_H_image.2.1 30 = .ok (.getfield 21, 3) := by decide +kernel
theorem d_H_image_33 : decode m_H_image.2.1 33 = .ok (.invokevirtual 268, 3) := by decide +kernel
theorem d_H_image_36 : decode m_H_image.2.1 36 = .ok (.aload_n 2, 1) := by decide +kernel
theorem d_H_image_37 : decode m_H_image.2.1 37 = .ok (.iconst 1, 1) := by decide +kernel
theorem d_H_image_38 : decode m_H_image.2.1 38 = .ok (.putfield 270, 3) := by decide +kernel
theorem d_H_image_41 : decode m_H_image.2.1 41 = .ok (.iconst 1, 1) := by decide +kernel
theorem d_H_image_42 : decode m_H_image.2.1 42 = .ok (.ireturn, 1) := by decide +kernel
theorem d_H_restore_0 : decode m_H_restore.2.1 0 = .ok (.iload_n 1, 1) := by decide +kernel
theorem d_H_restore_1 : decode m_H_restore.2.1 1 = .ok (.ifCond .lt 8, 3) := by decide +kernel
theorem d_H_restore_4 : decode m_H_restore.2.1 4 = .ok (.iload_n 1, 1) := by decide +kernel
theorem d_H_restore_5 : decode m_H_restore.2.1 5 = .ok (.iconst 1, 1) := by decide +kernel
theorem d_H_restore_6 : decode m_H_restore.2.1 6 = .ok (.if_icmp .le 6, 3) := by decide +kernel
theorem d_H_restore_9 : decode m_H_restore.2.1 9 = .ok (.bipush (-2), 2) := by decide +kernel
theorem d_H_restore_11 : decode m_H_restore.2.1 11 = .ok (.ireturn, 1) := by decide +kernel
theorem d_H_restore_12 : decode m_H_restore.2.1 12 = .ok (.iload_n 1, 1) := by decide +kernel
theorem d_H_restore_13 : decode m_H_restore.2.1 13 = .ok (.ifCond .ne 10, 3) := by decide +kernel
theorem d_H_restore_16 : decode m_H_restore.2.1 16 = .ok (.aload_n 0, 1) := by decide +kernel
theorem d_H_restore_17 : decode m_H_restore.2.1 17 = .ok (.getfield 25, 3) := by decide +kernel
theorem d_H_restore_20 : decode m_H_restore.2.1 20 = .ok (.goto 7, 3) := by decide +kernel
theorem d_H_restore_23 : decode m_H_restore.2.1 23 = .ok (.aload_n 0, 1) := by decide +kernel
theorem d_H_restore_24 : decode m_H_restore.2.1 24 = .ok (.getfield 28, 3) := by decide +kernel
theorem d_H_restore_27 : decode m_H_restore.2.1 27 = .ok (.astore_n 2, 1) := by decide +kernel
theorem d_H_restore_28 : decode m_H_restore.2.1 28 = .ok (.aload_n 2, 1) := by decide +kernel
theorem d_H_restore_29 : decode m_H_restore.2.1 29 = .ok (.getfield 270, 3) := by decide +kernel
theorem d_H_restore_32 : decode m_H_restore.2.1 32 = .ok (.ifCond .ne 6, 3) := by decide +kernel
theorem d_H_restore_35 : decode m_H_restore.2.1 35 = .ok (.bipush (-3), 2) := by decide +kernel
theorem d_H_restore_37 : decode m_H_restore.2.1 37 = .ok (.ireturn, 1) := by decide +kernel
theorem d_H_restore_38 : decode m_H_restore.2.1 38 = .ok (.aload_n 0, 1) := by decide +kernel
theorem d_H_restore_39 : decode m_H_restore.2.1 39 = .ok (.getfield 21, 3) := by decide +kernel
theorem d_H_restore_42 : decode m_H_restore.2.1 42 = .ok (.aload_n 2, 1) := by decide +kernel
theorem d_H_restore_43 : decode m_H_restore.2.1 43 = .ok (.invokevirtual 268, 3) := by decide +kernel
theorem d_H_restore_46 : decode m_H_restore.2.1 46 = .ok (.aload_n 0, 1) := by decide +kernel
theorem d_H_restore_47 : decode m_H_restore.2.1 47 = .ok (.invokevirtual 127, 3) := by decide +kernel
theorem d_H_restore_50 : decode m_H_restore.2.1 50 = .ok (.iconst 1, 1) := by decide +kernel
theorem d_H_restore_51 : decode m_H_restore.2.1 51 = .ok (.ireturn, 1) := by decide +kernel
theorem d_H_told_0 : decode m_H_told.2.1 0 = .ok (.iload_n 1, 1) := by decide +kernel
theorem d_H_told_1 : decode m_H_told.2.1 1 = .ok (.ifCond .ne 11, 3) := by decide +kernel
theorem d_H_told_4 : decode m_H_told.2.1 4 = .ok (.aload_n 0, 1) := by decide +kernel
theorem d_H_told_5 : decode m_H_told.2.1 5 = .ok (.getfield 14, 3) := by decide +kernel
theorem d_H_told_8 : decode m_H_told.2.1 8 = .ok (.invokevirtual 89, 3) := by decide +kernel
theorem d_H_told_11 : decode m_H_told.2.1 11 = .ok (.ireturn, 1) := by decide +kernel
theorem d_H_told_12 : decode m_H_told.2.1 12 = .ok (.iload_n 1, 1) := by decide +kernel
theorem d_H_told_13 : decode m_H_told.2.1 13 = .ok (.iconst 1, 1) := by decide +kernel
theorem d_H_told_14 : decode m_H_told.2.1 14 = .ok (.if_icmp .ne 14, 3) := by decide +kernel
theorem d_H_told_17 : decode m_H_told.2.1 17 = .ok (.aload_n 0, 1) := by decide +kernel
theorem d_H_told_18 : decode m_H_told.2.1 18 = .ok (.getfield 21, 3) := by decide +kernel
theorem d_H_told_21 : decode m_H_told.2.1 21 = .ok (.getfield 105, 3) := by decide +kernel
theorem d_H_told_24 : decode m_H_told.2.1 24 = .ok (.invokevirtual 89, 3) := by decide +kernel
theorem d_H_told_27 : decode m_H_told.2.1 27 = .ok (.ireturn, 1) := by decide +kernel
theorem d_H_told_28 : decode m_H_told.2.1 28 = .ok (.iload_n 1, 1) := by decide +kernel
theorem d_H_told_29 : decode m_H_told.2.1 29 = .ok (.iconst 2, 1) := by decide +kernel
theorem d_H_told_30 : decode m_H_told.2.1 30 = .ok (.if_icmp .ne 14, 3) := by decide +kernel
theorem d_H_told_33 : decode m_H_told.2.1 33 = .ok (.aload_n 0, 1) := by decide +kernel
theorem d_H_told_34 : decode m_H_told.2.1 34 = .ok (.getfield 21, 3) := by decide +kernel
theorem d_H_told_37 : decode m_H_told.2.1 37 = .ok (.getfield 108, 3) := by decide +kernel
theorem d_H_told_40 : decode m_H_told.2.1 40 = .ok (.invokevirtual 89, 3) := by decide +kernel
theorem d_H_told_43 : decode m_H_told.2.1 43 = .ok (.ireturn, 1) := by decide +kernel
theorem d_H_told_44 : decode m_H_told.2.1 44 = .ok (.iload_n 1, 1) := by decide +kernel
theorem d_H_told_45 : decode m_H_told.2.1 45 = .ok (.bipush 10, 2) := by decide +kernel
theorem d_H_told_47 : decode m_H_told.2.1 47 = .ok (.if_icmp .lt 32, 3) := by decide +kernel
theorem d_H_told_50 : decode m_H_told.2.1 50 = .ok (.iload_n 1, 1) := by decide +kernel
theorem d_H_told_51 : decode m_H_told.2.1 51 = .ok (.bipush 16, 2) := by decide +kernel
theorem d_H_told_53 : decode m_H_told.2.1 53 = .ok (.if_icmp .ge 26, 3) := by decide +kernel
theorem d_H_told_56 : decode m_H_told.2.1 56 = .ok (.aload_n 0, 1) := by decide +kernel
theorem d_H_told_57 : decode m_H_told.2.1 57 = .ok (.getfield 21, 3) := by decide +kernel
theorem d_H_told_60 : decode m_H_told.2.1 60 = .ok (.getfield 33, 3) := by decide +kernel
theorem d_H_told_63 : decode m_H_told.2.1 63 = .ok (.iload_n 1, 1) := by decide +kernel
theorem d_H_told_64 : decode m_H_told.2.1 64 = .ok (.bipush 10, 2) := by decide +kernel
theorem d_H_told_66 : decode m_H_told.2.1 66 = .ok (.isub, 1) := by decide +kernel
theorem d_H_told_67 : decode m_H_told.2.1 67 = .ok (.iconst 3, 1) := by decide +kernel
theorem d_H_told_68 : decode m_H_told.2.1 68 = .ok (.irem, 1) := by decide +kernel
theorem d_H_told_69 : decode m_H_told.2.1 69 = .ok (.iload_n 1, 1) := by decide +kernel
theorem d_H_told_70 : decode m_H_told.2.1 70 = .ok (.bipush 10, 2) := by decide +kernel
theorem d_H_told_72 : decode m_H_told.2.1 72 = .ok (.isub, 1) := by decide +kernel
theorem d_H_told_73 : decode m_H_told.2.1 73 = .ok (.iconst 3, 1) := by decide +kernel
theorem d_H_told_74 : decode m_H_told.2.1 74 = .ok (.idiv, 1) := by decide +kernel
theorem d_H_told_75 : decode m_H_told.2.1 75 = .ok (.invokevirtual 117, 3) := by decide +kernel
theorem d_H_told_78 : decode m_H_told.2.1 78 = .ok (.ireturn, 1) := by decide +kernel
theorem d_H_told_79 : decode m_H_told.2.1 79 = .ok (.iload_n 1, 1) := by decide +kernel
theorem d_H_told_80 : decode m_H_told.2.1 80 = .ok (.bipush 20, 2) := by decide +kernel
theorem d_H_told_82 : decode m_H_told.2.1 82 = .ok (.if_icmp .lt 35, 3) := by decide +kernel
theorem d_H_told_85 : decode m_H_told.2.1 85 = .ok (.iload_n 1, 1) := by decide +kernel
theorem d_H_told_86 : decode m_H_told.2.1 86 = .ok (.bipush 29, 2) := by decide +kernel
theorem d_H_told_88 : decode m_H_told.2.1 88 = .ok (.if_icmp .ge 29, 3) := by decide +kernel
theorem d_H_told_91 : decode m_H_told.2.1 91 = .ok (.aload_n 0, 1) := by decide +kernel
theorem d_H_told_92 : decode m_H_told.2.1 92 = .ok (.getfield 21, 3) := by decide +kernel
theorem d_H_told_95 : decode m_H_told.2.1 95 = .ok (.getfield 135, 3) := by decide +kernel
theorem d_H_told_98 : decode m_H_told.2.1 98 = .ok (.iload_n 1, 1) := by decide +kernel
theorem d_H_told_99 : decode m_H_told.2.1 99 = .ok (.bipush 20, 2) := by decide +kernel
theorem d_H_told_101 : decode m_H_told.2.1 101 = .ok (.isub, 1) := by decide +kernel
theorem d_H_told_102 : decode m_H_told.2.1 102 = .ok (.iconst 3, 1) := by decide +kernel
theorem d_H_told_103 : decode m_H_told.2.1 103 = .ok (.idiv, 1) := by decide +kernel
theorem d_H_told_104 : decode m_H_told.2.1 104 = .ok (.invokestatic 139, 3) := by decide +kernel
theorem d_H_told_107 : decode m_H_told.2.1 107 = .ok (.iload_n 1, 1) := by decide +kernel
theorem d_H_told_108 : decode m_H_told.2.1 108 = .ok (.bipush 20, 2) := by decide +kernel
theorem d_H_told_110 : decode m_H_told.2.1 110 = .ok (.isub, 1) := by decide +kernel
theorem d_H_told_111 : decode m_H_told.2.1 111 = .ok (.iconst 3, 1) := by decide +kernel
theorem d_H_told_112 : decode m_H_told.2.1 112 = .ok (.irem, 1) := by decide +kernel
theorem d_H_told_113 : decode m_H_told.2.1 113 = .ok (.invokestatic 142, 3) := by decide +kernel
theorem d_H_told_116 : decode m_H_told.2.1 116 = .ok (.ireturn, 1) := by decide +kernel
theorem d_H_told_117 : decode m_H_told.2.1 117 = .ok (.iload_n 1, 1) := by decide +kernel
theorem d_H_told_118 : decode m_H_told.2.1 118 = .ok (.bipush 30, 2) := by decide +kernel
theorem d_H_told_120 : decode m_H_told.2.1 120 = .ok (.if_icmp .lt 27, 3) := by decide +kernel
theorem d_H_told_123 : decode m_H_told.2.1 123 = .ok (.iload_n 1, 1) := by decide +kernel
theorem d_H_told_124 : decode m_H_told.2.1 124 = .ok (.bipush 33, 2) := by decide +kernel
theorem d_H_told_126 : decode m_H_told.2.1 126 = .ok (.if_icmp .ge 21, 3) := by decide +kernel
theorem d_H_told_129 : decode m_H_told.2.1 129 = .ok (.aload_n 0, 1) := by decide +kernel
theorem d_H_told_130 : decode m_H_told.2.1 130 = .ok (.getfield 21, 3) := by decide +kernel
theorem d_H_told_133 : decode m_H_told.2.1 133 = .ok (.getfield 231, 3) := by decide +kernel
theorem d_H_told_136 : decode m_H_told.2.1 136 = .ok (.iload_n 1, 1) := by decide +kernel
theorem d_H_told_137 : decode m_H_told.2.1 137 = .ok (.bipush 30, 2) := by decide +kernel
theorem d_H_told_139 : decode m_H_told.2.1 139 = .ok (.isub, 1) := by decide +kernel
theorem d_H_told_140 : decode m_H_told.2.1 140 = .ok (.invokevirtual 225, 3) := by decide +kernel
theorem d_H_told_143 : decode m_H_told.2.1 143 = .ok (.invokevirtual 89, 3) := by decide +kernel
theorem d_H_told_146 : decode m_H_told.2.1 146 = .ok (.ireturn, 1) := by decide +kernel
theorem d_H_told_147 : decode m_H_told.2.1 147 = .ok (.iload_n 1, 1) := by decide +kernel
theorem d_H_told_148 : decode m_H_told.2.1 148 = .ok (.bipush 100, 2) := by decide +kernel
theorem d_H_told_150 : decode m_H_told.2.1 150 = .ok (.if_icmp .lt 47, 3) := by decide +kernel
theorem d_H_told_153 : decode m_H_told.2.1 153 = .ok (.iload_n 1, 1) := by decide +kernel
theorem d_H_told_154 : decode m_H_told.2.1 154 = .ok (.sipush 400, 3) := by decide +kernel
theorem d_H_told_157 : decode m_H_told.2.1 157 = .ok (.if_icmp .ge 40, 3) := by decide +kernel
theorem d_H_told_160 : decode m_H_told.2.1 160 = .ok (.aload_n 0, 1) := by decide +kernel
theorem d_H_told_161 : decode m_H_told.2.1 161 = .ok (.getfield 21, 3) := by decide +kernel
theorem d_H_told_164 : decode m_H_told.2.1 164 = .ok (.getfield 231, 3) := by decide +kernel
theorem d_H_told_167 : decode m_H_told.2.1 167 = .ok (.iload_n 1, 1) := by decide +kernel
theorem d_H_told_168 : decode m_H_told.2.1 168 = .ok (.bipush 100, 2) := by decide +kernel
theorem d_H_told_170 : decode m_H_told.2.1 170 = .ok (.idiv, 1) := by decide +kernel
theorem d_H_told_171 : decode m_H_told.2.1 171 = .ok (.iconst 1, 1) := by decide +kernel
theorem d_H_told_172 : decode m_H_told.2.1 172 = .ok (.isub, 1) := by decide +kernel
theorem d_H_told_173 : decode m_H_told.2.1 173 = .ok (.invokevirtual 225, 3) := by decide +kernel
theorem d_H_told_176 : decode m_H_told.2.1 176 = .ok (.iload_n 1, 1) := by decide +kernel
theorem d_H_told_177 : decode m_H_told.2.1 177 = .ok (.bipush 100, 2) := by decide +kernel
theorem d_H_told_179 : decode m_H_told.2.1 179 = .ok (.irem, 1) := by decide +kernel
theorem d_H_told_180 : decode m_H_told.2.1 180 = .ok (.invokevirtual 212, 3) := by decide +kernel
theorem d_H_told_183 : decode m_H_told.2.1 183 = .ok (.istore_n 2, 1) := by decide +kernel
theorem d_H_told_184 : decode m_H_told.2.1 184 = .ok (.iload_n 2, 1) := by decide +kernel
theorem d_H_told_185 : decode m_H_told.2.1 185 = .ok (.bipush (-6), 2) := by decide +kernel
theorem d_H_told_187 : decode m_H_told.2.1 187 = .ok (.if_icmp .ne 8, 3) := by decide +kernel
theorem d_H_told_190 : decode m_H_told.2.1 190 = .ok (.bipush (-2), 2) := by decide +kernel
theorem d_H_told_192 : decode m_H_told.2.1 192 = .ok (.goto 4, 3) := by decide +kernel
theorem d_H_told_195 : decode m_H_told.2.1 195 = .ok (.iload_n 2, 1) := by decide +kernel
theorem d_H_told_196 : decode m_H_told.2.1 196 = .ok (.ireturn, 1) := by decide +kernel
theorem d_H_told_197 : decode m_H_told.2.1 197 = .ok (.bipush (-2), 2) := by decide +kernel
theorem d_H_told_199 : decode m_H_told.2.1 199 = .ok (.ireturn, 1) := by decide +kernel
theorem d_H_isLetter_0 : decode m_H_isLetter.2.1 0 = .ok (.iload_n 0, 1) := by decide +kernel
theorem d_H_isLetter_1 : decode m_H_isLetter.2.1 1 = .ok (.ifCond .lt 12, 3) := by decide +kernel
theorem d_H_isLetter_4 : decode m_H_isLetter.2.1 4 = .ok (.iload_n 0, 1) := by decide +kernel
theorem d_H_isLetter_5 : decode m_H_isLetter.2.1 5 = .ok (.iconst 2, 1) := by decide +kernel
theorem d_H_isLetter_6 : decode m_H_isLetter.2.1 6 = .ok (.if_icmp .ge 7, 3) := by decide +kernel
theorem d_H_isLetter_9 : decode m_H_isLetter.2.1 9 = .ok (.iconst 1, 1) := by decide +kernel
theorem d_H_isLetter_10 : decode m_H_isLetter.2.1 10 = .ok (.goto 4, 3) := by decide +kernel
theorem d_H_isLetter_13 : decode m_H_isLetter.2.1 13 = .ok (.iconst 0, 1) := by decide +kernel
theorem d_H_isLetter_14 : decode m_H_isLetter.2.1 14 = .ok (.ireturn, 1) := by decide +kernel
theorem d_H_isVariable_0 : decode m_H_isVariable.2.1 0 = .ok (.iload_n 0, 1) := by decide +kernel
theorem d_H_isVariable_1 : decode m_H_isVariable.2.1 1 = .ok (.ifCond .lt 12, 3) := by decide +kernel
theorem d_H_isVariable_4 : decode m_H_isVariable.2.1 4 = .ok (.iload_n 0, 1) := by decide +kernel
theorem d_H_isVariable_5 : decode m_H_isVariable.2.1 5 = .ok (.iconst 3, 1) := by decide +kernel
theorem d_H_isVariable_6 : decode m_H_isVariable.2.1 6 = .ok (.if_icmp .ge 7, 3) := by decide +kernel
theorem d_H_isVariable_9 : decode m_H_isVariable.2.1 9 = .ok (.iconst 1, 1) := by decide +kernel
theorem d_H_isVariable_10 : decode m_H_isVariable.2.1 10 = .ok (.goto 4, 3) := by decide +kernel
theorem d_H_isVariable_13 : decode m_H_isVariable.2.1 13 = .ok (.iconst 0, 1) := by decide +kernel
theorem d_H_isVariable_14 : decode m_H_isVariable.2.1 14 = .ok (.ireturn, 1) := by decide +kernel
theorem d_H_isState_0 : decode m_H_isState.2.1 0 = .ok (.iload_n 0, 1) := by decide +kernel
theorem d_H_isState_1 : decode m_H_isState.2.1 1 = .ok (.ifCond .lt 12, 3) := by decide +kernel
theorem d_H_isState_4 : decode m_H_isState.2.1 4 = .ok (.iload_n 0, 1) := by decide +kernel
theorem d_H_isState_5 : decode m_H_isState.2.1 5 = .ok (.iconst 3, 1) := by decide +kernel
theorem d_H_isState_6 : decode m_H_isState.2.1 6 = .ok (.if_icmp .ge 7, 3) := by decide +kernel
theorem d_H_isState_9 : decode m_H_isState.2.1 9 = .ok (.iconst 1, 1) := by decide +kernel
theorem d_H_isState_10 : decode m_H_isState.2.1 10 = .ok (.goto 4, 3) := by decide +kernel
theorem d_H_isState_13 : decode m_H_isState.2.1 13 = .ok (.iconst 0, 1) := by decide +kernel
theorem d_H_isState_14 : decode m_H_isState.2.1 14 = .ok (.ireturn, 1) := by decide +kernel
theorem d_H_sizeOrItem_0 : decode m_H_sizeOrItem.2.1 0 = .ok (.iload_n 1, 1) := by decide +kernel
theorem d_H_sizeOrItem_1 : decode m_H_sizeOrItem.2.1 1 = .ok (.iconst (-1), 1) := by decide +kernel
theorem d_H_sizeOrItem_2 : decode m_H_sizeOrItem.2.1 2 = .ok (.if_icmp .ne 10, 3) := by decide +kernel
theorem d_H_sizeOrItem_5 : decode m_H_sizeOrItem.2.1 5 = .ok (.aload_n 0, 1) := by decide +kernel
theorem d_H_sizeOrItem_6 : decode m_H_sizeOrItem.2.1 6 = .ok (.invokevirtual 89, 3) := by decide +kernel
theorem d_H_sizeOrItem_9 : decode m_H_sizeOrItem.2.1 9 = .ok (.goto 8, 3) := by decide +kernel
theorem d_H_sizeOrItem_12 : decode m_H_sizeOrItem.2.1 12 = .ok (.aload_n 0, 1) := by decide +kernel
theorem d_H_sizeOrItem_13 : decode m_H_sizeOrItem.2.1 13 = .ok (.iload_n 1, 1) := by decide +kernel
theorem d_H_sizeOrItem_14 : decode m_H_sizeOrItem.2.1 14 = .ok (.invokevirtual 212, 3) := by decide +kernel
theorem d_H_sizeOrItem_17 : decode m_H_sizeOrItem.2.1 17 = .ok (.ireturn, 1) := by decide +kernel
theorem d_H_symbolOf_0 : decode m_H_symbolOf.2.1 0 = .ok (.iload_n 0, 1) := by decide +kernel
theorem d_H_symbolOf_1 : decode m_H_symbolOf.2.1 1 = .ok (.bipush 97, 2) := by decide +kernel
theorem d_H_symbolOf_3 : decode m_H_symbolOf.2.1 3 = .ok (.if_icmp .eq 9, 3) := by decide +kernel
theorem d_H_symbolOf_6 : decode m_H_symbolOf.2.1 6 = .ok (.iload_n 0, 1) := by decide +kernel
theorem d_H_symbolOf_7 : decode m_H_symbolOf.2.1 7 = .ok (.bipush 98, 2) := by decide +kernel
theorem d_H_symbolOf_9 : decode m_H_symbolOf.2.1 9 = .ok (.if_icmp .ne 8, 3) := by decide +kernel
theorem d_H_symbolOf_12 : decode m_H_symbolOf.2.1 12 = .ok (.iload_n 0, 1) := by decide +kernel
theorem d_H_symbolOf_13 : decode m_H_symbolOf.2.1 13 = .ok (.bipush 97, 2) := by decide +kernel
theorem d_H_symbolOf_15 : decode m_H_symbolOf.2.1 15 = .ok (.isub, 1) := by decide +kernel
theorem d_H_symbolOf_16 : decode m_H_symbolOf.2.1 16 = .ok (.ireturn, 1) := by decide +kernel
theorem d_H_symbolOf_17 : decode m_H_symbolOf.2.1 17 = .ok (.iload_n 0, 1) := by decide +kernel
theorem d_H_symbolOf_18 : decode m_H_symbolOf.2.1 18 = .ok (.bipush 120, 2) := by decide +kernel
theorem d_H_symbolOf_20 : decode m_H_symbolOf.2.1 20 = .ok (.if_icmp .lt 16, 3) := by decide +kernel
theorem d_H_symbolOf_23 : decode m_H_symbolOf.2.1 23 = .ok (.iload_n 0, 1) := by decide +kernel
theorem d_H_symbolOf_24 : decode m_H_symbolOf.2.1 24 = .ok (.bipush 122, 2) := by decide +kernel
theorem d_H_symbolOf_26 : decode m_H_symbolOf.2.1 26 = .ok (.if_icmp .gt 10, 3) := by decide +kernel
theorem d_H_symbolOf_29 : decode m_H_symbolOf.2.1 29 = .ok (.iload_n 0, 1) := by decide +kernel
theorem d_H_symbolOf_30 : decode m_H_symbolOf.2.1 30 = .ok (.bipush 120, 2) := by decide +kernel
theorem d_H_symbolOf_32 : decode m_H_symbolOf.2.1 32 = .ok (.isub, 1) := by decide +kernel
theorem d_H_symbolOf_33 : decode m_H_symbolOf.2.1 33 = .ok (.iconst 2, 1) := by decide +kernel
theorem d_H_symbolOf_34 : decode m_H_symbolOf.2.1 34 = .ok (.iadd, 1) := by decide +kernel
theorem d_H_symbolOf_35 : decode m_H_symbolOf.2.1 35 = .ok (.ireturn, 1) := by decide +kernel
theorem d_H_symbolOf_36 : decode m_H_symbolOf.2.1 36 = .ok (.bipush (-6), 2) := by decide +kernel
theorem d_H_symbolOf_38 : decode m_H_symbolOf.2.1 38 = .ok (.ireturn, 1) := by decide +kernel
theorem d_H_firstFault_0 : decode m_H_firstFault.2.1 0 = .ok (.iconst 0, 1) := by decide +kernel
theorem d_H_firstFault_1 : decode m_H_firstFault.2.1 1 = .ok (.istore_n 1, 1) := by decide +kernel
theorem d_H_firstFault_2 : decode m_H_firstFault.2.1 2 = .ok (.iconst 0, 1) := by decide +kernel
theorem d_H_firstFault_3 : decode m_H_firstFault.2.1 3 = .ok (.istore_n 2, 1) := by decide +kernel
theorem d_H_firstFault_4 : decode m_H_firstFault.2.1 4 = .ok (.iconst 0, 1) := by decide +kernel
theorem d_H_firstFault_5 : decode m_H_firstFault.2.1 5 = .ok (.istore_n 3, 1) := by decide +kernel
theorem d_H_firstFault_6 : decode m_H_firstFault.2.1 6 = .ok (.iload_n 3, 1) := by decide +kernel
theorem d_H_firstFault_7 : decode m_H_firstFault.2.1 7 = .ok (.aload_n 0, 1) := by decide +kernel
theorem d_H_firstFault_8 : decode m_H_firstFault.2.1 8 = .ok (.getfield 14, 3) := by decide +kernel
theorem d_H_firstFault_11 : decode m_H_firstFault.2.1 11 = .ok (.invokevirtual 89, 3) := by decide +kernel
theorem d_H_firstFault_14 : decode m_H_firstFault.2.1 14 = .ok (.if_icmp .ge 62, 3) := by decide +kernel
theorem d_H_firstFault_17 : decode m_H_firstFault.2.1 17 = .ok (.aload_n 0, 1) := by decide +kernel
theorem d_H_firstFault_18 : decode m_H_firstFault.2.1 18 = .ok (.getfield 14, 3) := by decide +kernel
theorem d_H_firstFault_21 : decode m_H_firstFault.2.1 21 = .ok (.iload_n 3, 1) := by decide +kernel
theorem d_H_firstFault_22 : decode m_H_firstFault.2.1 22 = .ok (.invokevirtual 212, 3) := by decide +kernel
theorem d_H_firstFault_25 : decode m_H_firstFault.2.1 25 = .ok (.bipush 61, 2) := by decide +kernel
theorem d_H_firstFault_27 : decode m_H_firstFault.2.1 27 = .ok (.if_icmp .ne 16, 3) := by decide +kernel
theorem d_H_firstFault_30 : decode m_H_firstFault.2.1 30 = .ok (.iload_n 1, 1) := by decide +kernel
theorem d_H_firstFault_31 : decode m_H_firstFault.2.1 31 = .ok (.ifCond .eq 5, 3) := by decide +kernel
theorem d_H_firstFault_34 : decode m_H_firstFault.2.1 34 = .ok (.iload_n 3, 1) := by decide +kernel
theorem d_H_firstFault_35 : decode m_H_firstFault.2.1 35 = .ok (.ireturn, 1) := by decide +kernel
theorem d_H_firstFault_36 : decode m_H_firstFault.2.1 36 = .ok (.iconst 1, 1) := by decide +kernel
theorem d_H_firstFault_37 : decode m_H_firstFault.2.1 37 = .ok (.istore_n 1, 1) := by decide +kernel
theorem d_H_firstFault_38 : decode m_H_firstFault.2.1 38 = .ok (.iconst 0, 1) := by decide +kernel
theorem d_H_firstFault_39 : decode m_H_firstFault.2.1 39 = .ok (.istore_n 2, 1) := by decide +kernel
theorem d_H_firstFault_40 : decode m_H_firstFault.2.1 40 = .ok (.goto 30, 3) := by decide +kernel
theorem d_H_firstFault_43 : decode m_H_firstFault.2.1 43 = .ok (.iinc 2 1, 3) := by decide +kernel
theorem d_H_firstFault_46 : decode m_H_firstFault.2.1 46 = .ok (.aload_n 0, 1) := by decide +kernel
theorem d_H_firstFault_47 : decode m_H_firstFault.2.1 47 = .ok (.getfield 14, 3) := by decide +kernel
theorem d_H_firstFault_50 : decode m_H_firstFault.2.1 50 = .ok (.iload_n 3, 1) := by decide +kernel
theorem d_H_firstFault_51 : decode m_H_firstFault.2.1 51 = .ok (.invokevirtual 212, 3) := by decide +kernel
theorem d_H_firstFault_54 : decode m_H_firstFault.2.1 54 = .ok (.invokestatic 273, 3) := by decide +kernel
theorem d_H_firstFault_57 : decode m_H_firstFault.2.1 57 = .ok (.bipush (-6), 2) := by decide +kernel
theorem d_H_firstFault_59 : decode m_H_firstFault.2.1 59 = .ok (.if_icmp .eq 9, 3) := by decide +kernel
theorem d_H_firstFault_62 : decode m_H_firstFault.2.1 62 = .ok (.iload_n 2, 1) := by decide +kernel
theorem d_H_firstFault_63 : decode m_H_firstFault.2.1 63 = .ok (.bipush 12, 2) := by decide +kernel
theorem d_H_firstFault_65 : decode m_H_firstFault.2.1 65 = .ok (.if_icmp .le 5, 3) := by decide +kernel
theorem d_H_firstFault_68 : decode m_H_firstFault.2.1 68 = .ok (.iload_n 3, 1) := by decide +kernel
theorem d_H_firstFault_69 : decode m_H_firstFault.2.1 69 = .ok (.ireturn, 1) := by decide +kernel
theorem d_H_firstFault_70 : decode m_H_firstFault.2.1 70 = .ok (.iinc 3 1, 3) := by decide +kernel
theorem d_H_firstFault_73 : decode m_H_firstFault.2.1 73 = .ok (.goto (-67), 3) := by decide +kernel
theorem d_H_firstFault_76 : decode m_H_firstFault.2.1 76 = .ok (.iload_n 1, 1) := by decide +kernel
theorem d_H_firstFault_77 : decode m_H_firstFault.2.1 77 = .ok (.ifCond .eq 8, 3) := by decide +kernel
theorem d_H_firstFault_80 : decode m_H_firstFault.2.1 80 = .ok (.bipush (-6), 2) := by decide +kernel
theorem d_H_firstFault_82 : decode m_H_firstFault.2.1 82 = .ok (.goto 10, 3) := by decide +kernel
theorem d_H_firstFault_85 : decode m_H_firstFault.2.1 85 = .ok (.aload_n 0, 1) := by decide +kernel
theorem d_H_firstFault_86 : decode m_H_firstFault.2.1 86 = .ok (.getfield 14, 3) := by decide +kernel
theorem d_H_firstFault_89 : decode m_H_firstFault.2.1 89 = .ok (.invokevirtual 89, 3) := by decide +kernel
theorem d_H_firstFault_92 : decode m_H_firstFault.2.1 92 = .ok (.ireturn, 1) := by decide +kernel
theorem d_H_pourPad_0 : decode m_H_pourPad.2.1 0 = .ok (.aload_n 0, 1) := by decide +kernel
theorem d_H_pourPad_1 : decode m_H_pourPad.2.1 1 = .ok (.getfield 21, 3) := by decide +kernel
theorem d_H_pourPad_4 : decode m_H_pourPad.2.1 4 = .ok (.getfield 105, 3) := by decide +kernel
theorem d_H_pourPad_7 : decode m_H_pourPad.2.1 7 = .ok (.invokevirtual 93, 3) := by decide +kernel
theorem d_H_pourPad_10 : decode m_H_pourPad.2.1 10 = .ok (.aload_n 0, 1) := by decide +kernel
theorem d_H_pourPad_11 : decode m_H_pourPad.2.1 11 = .ok (.getfield 21, 3) := by decide +kernel
theorem d_H_pourPad_14 : decode m_H_pourPad.2.1 14 = .ok (.getfield 108, 3) := by decide +kernel
theorem d_H_pourPad_17 : decode m_H_pourPad.2.1 17 = .ok (.invokevirtual 93, 3) := by decide +kernel
theorem d_H_pourPad_20 : decode m_H_pourPad.2.1 20 = .ok (.aload_n 0, 1) := by decide +kernel
theorem d_H_pourPad_21 : decode m_H_pourPad.2.1 21 = .ok (.getfield 21, 3) := by decide +kernel
theorem d_H_pourPad_24 : decode m_H_pourPad.2.1 24 = .ok (.getfield 105, 3) := by decide +kernel
theorem d_H_pourPad_27 : decode m_H_pourPad.2.1 27 = .ok (.astore_n 1, 1) := by decide +kernel
theorem d_H_pourPad_28 : decode m_H_pourPad.2.1 28 = .ok (.iconst 0, 1) := by decide +kernel
theorem d_H_pourPad_29 : decode m_H_pourPad.2.1 29 = .ok (.istore_n 2, 1) := by decide +kernel
theorem d_H_pourPad_30 : decode m_H_pourPad.2.1 30 = .ok (.iload_n 2, 1) := by decide +kernel
theorem d_H_pourPad_31 : decode m_H_pourPad.2.1 31 = .ok (.aload_n 0, 1) := by decide +kernel
theorem d_H_pourPad_32 : decode m_H_pourPad.2.1 32 = .ok (.getfield 14, 3) := by decide +kernel
theorem d_H_pourPad_35 : decode m_H_pourPad.2.1 35 = .ok (.invokevirtual 89, 3) := by decide +kernel
theorem d_H_pourPad_38 : decode m_H_pourPad.2.1 38 = .ok (.if_icmp .ge 49, 3) := by decide +kernel
theorem d_H_pourPad_41 : decode m_H_pourPad.2.1 41 = .ok (.aload_n 0, 1) := by decide +kernel
theorem d_H_pourPad_42 : decode m_H_pourPad.2.1 42 = .ok (.getfield 14, 3) := by decide +kernel
theorem d_H_pourPad_45 : decode m_H_pourPad.2.1 45 = .ok (.iload_n 2, 1) := by decide +kernel
theorem d_H_pourPad_46 : decode m_H_pourPad.2.1 46 = .ok (.invokevirtual 212, 3) := by decide +kernel
theorem d_H_pourPad_49 : decode m_H_pourPad.2.1 49 = .ok (.bipush 61, 2) := by decide +kernel
theorem d_H_pourPad_51 : decode m_H_pourPad.2.1 51 = .ok (.if_icmp .ne 14, 3) := by decide +kernel
theorem d_H_pourPad_54 : decode m_H_pourPad.2.1 54 = .ok (.aload_n 0, 1) := by decide +kernel
theorem d_H_pourPad_55 : decode m_H_pourPad.2.1 55 = .ok (.getfield 21, 3) := by decide +kernel
theorem d_H_pourPad_58 : decode m_H_pourPad.2.1 58 = .ok (.getfield 108, 3) := by decide +kernel
theorem d_H_pourPad_61 : decode m_H_pourPad.2.1 61 = .ok (.astore_n 1, 1) := by decide +kernel
theorem d_H_pourPad_62 : decode m_H_pourPad.2.1 62 = .ok (.goto 19, 3) := by decide +kernel
theorem d_H_pourPad_65 : decode m_H_pourPad.2.1 65 = .ok (.aload_n 1, 1) := by decide +kernel
theorem d_H_pourPad_66 : decode m_H_pourPad.2.1 66 = .ok (.aload_n 0, 1) := by decide +kernel
theorem d_H_pourPad_67 : decode m_H_pourPad.2.1 67 = .ok (.getfield 14, 3) := by decide +kernel
theorem d_H_pourPad_70 : decode m_H_pourPad.2.1 70 = .ok (.iload_n 2, 1) := by decide +kernel
theorem d_H_pourPad_71 : decode m_H_pourPad.2.1 71 = .ok (.invokevirtual 212, 3) := by decide +kernel
theorem d_H_pourPad_74 : decode m_H_pourPad.2.1 74 = .ok (.invokestatic 273, 3) := by decide +kernel
theorem d_H_pourPad_77 : decode m_H_pourPad.2.1 77 = .ok (.invokevirtual 85, 3) := by decide +kernel
theorem d_H_pourPad_80 : decode m_H_pourPad.2.1 80 = .ok (.pop, 1) := by decide +kernel
theorem d_H_pourPad_81 : decode m_H_pourPad.2.1 81 = .ok (.iinc 2 1, 3) := by decide +kernel
theorem d_H_pourPad_84 : decode m_H_pourPad.2.1 84 = .ok (.goto (-54), 3) := by decide +kernel
theorem d_H_pourPad_87 : decode m_H_pourPad.2.1 87 = .ok (.aload_n 0, 1) := by decide +kernel
theorem d_H_pourPad_88 : decode m_H_pourPad.2.1 88 = .ok (.getfield 14, 3) := by decide +kernel
theorem d_H_pourPad_91 : decode m_H_pourPad.2.1 91 = .ok (.invokevirtual 93, 3) := by decide +kernel
theorem d_H_pourPad_94 : decode m_H_pourPad.2.1 94 = .ok (.return_, 1) := by decide +kernel
theorem d_H_needsOrRowsChanged_0 : decode m_H_needsOrRowsChanged.2.1 0 = .ok (.aload_n 0, 1) := by decide +kernel
theorem d_H_needsOrRowsChanged_1 : decode m_H_needsOrRowsChanged.2.1 1 = .ok (.iconst 0, 1) := by decide +kernel
theorem d_H_needsOrRowsChanged_2 : decode m_H_needsOrRowsChanged.2.1 2 = .ok (.putfield 276, 3) := by decide +kernel
theorem d_H_needsOrRowsChanged_5 : decode m_H_needsOrRowsChanged.2.1 5 = .ok (.aload_n 0, 1) := by decide +kernel
theorem d_H_needsOrRowsChanged_6 : decode m_H_needsOrRowsChanged.2.1 6 = .ok (.iconst 0, 1) := by decide +kernel
theorem d_H_needsOrRowsChanged_7 : decode m_H_needsOrRowsChanged.2.1 7 = .ok (.putfield 256, 3) := by decide +kernel
theorem d_H_needsOrRowsChanged_10 : decode m_H_needsOrRowsChanged.2.1 10 = .ok (.return_, 1) := by decide +kernel
theorem d_H_machineChanged_0 : decode m_H_machineChanged.2.1 0 = .ok (.aload_n 0, 1) := by decide +kernel
theorem d_H_machineChanged_1 : decode m_H_machineChanged.2.1 1 = .ok (.getfield 40, 3) := by decide +kernel
theorem d_H_machineChanged_4 : decode m_H_machineChanged.2.1 4 = .ok (.invokevirtual 279, 3) := by decide +kernel
theorem d_H_machineChanged_7 : decode m_H_machineChanged.2.1 7 = .ok (.aload_n 0, 1) := by decide +kernel
theorem d_H_machineChanged_8 : decode m_H_machineChanged.2.1 8 = .ok (.invokevirtual 102, 3) := by decide +kernel
theorem d_H_machineChanged_11 : decode m_H_machineChanged.2.1 11 = .ok (.return_, 1) := by decide +kernel
theorem d_H_refreshNet_0 : decode m_H_refreshNet.2.1 0 = .ok (.aload_n 0, 1) := by decide +kernel
theorem d_H_refreshNet_1 : decode m_H_refreshNet.2.1 1 = .ok (.getfield 276, 3) := by decide +kernel
theorem d_H_refreshNet_4 : decode m_H_refreshNet.2.1 4 = .ok (.ifCond .eq 4, 3) := by decide +kernel
theorem d_H_refreshNet_7 : decode m_H_refreshNet.2.1 7 = .ok (.return_, 1) := by decide +kernel
theorem d_H_refreshNet_8 : decode m_H_refreshNet.2.1 8 = .ok (.aload_n 0, 1) := by decide +kernel
theorem d_H_refreshNet_9 : decode m_H_refreshNet.2.1 9 = .ok (.getfield 40, 3) := by decide +kernel
theorem d_H_refreshNet_12 : decode m_H_refreshNet.2.1 12 = .ok (.invokevirtual 149, 3) := by decide +kernel
theorem d_H_refreshNet_15 : decode m_H_refreshNet.2.1 15 = .ok (.aload_n 0, 1) := by decide +kernel
theorem d_H_refreshNet_16 : decode m_H_refreshNet.2.1 16 = .ok (.getfield 49, 3) := by decide +kernel
theorem d_H_refreshNet_19 : decode m_H_refreshNet.2.1 19 = .ok (.invokevirtual 282, 3) := by decide +kernel
theorem d_H_refreshNet_22 : decode m_H_refreshNet.2.1 22 = .ok (.iconst 0, 1) := by decide +kernel
theorem d_H_refreshNet_23 : decode m_H_refreshNet.2.1 23 = .ok (.istore_n 1, 1) := by decide +kernel
theorem d_H_refreshNet_24 : decode m_H_refreshNet.2.1 24 = .ok (.iload_n 1, 1) := by decide +kernel
theorem d_H_refreshNet_25 : decode m_H_refreshNet.2.1 25 = .ok (.sipush 150, 3) := by decide +kernel
theorem d_H_refreshNet_28 : decode m_H_refreshNet.2.1 28 = .ok (.if_icmp .ge 28, 3) := by decide +kernel
theorem d_H_refreshNet_31 : decode m_H_refreshNet.2.1 31 = .ok (.iload_n 1, 1) := by decide +kernel
theorem d_H_refreshNet_32 : decode m_H_refreshNet.2.1 32 = .ok (.aload_n 0, 1) := by decide +kernel
theorem d_H_refreshNet_33 : decode m_H_refreshNet.2.1 33 = .ok (.getfield 49, 3) := by decide +kernel
theorem d_H_refreshNet_36 : decode m_H_refreshNet.2.1 36 = .ok (.getfield 174, 3) := by decide +kernel
theorem d_H_refreshNet_39 : decode m_H_refreshNet.2.1 39 = .ok (.if_icmp .ge 17, 3) := by decide +kernel
theorem d_H_refreshNet_42 : decode m_H_refreshNet.2.1 42 = .ok (.aload_n 0, 1) := by decide +kernel
theorem d_H_refreshNet_43 : decode m_H_refreshNet.2.1 43 = .ok (.getfield 49, 3) := by decide +kernel
theorem d_H_refreshNet_46 : decode m_H_refreshNet.2.1 46 = .ok (.iload_n 1, 1) := by decide +kernel
theorem d_H_refreshNet_47 : decode m_H_refreshNet.2.1 47 = .ok (.invokevirtual 285, 3) := by decide +kernel
theorem d_H_refreshNet_50 : decode m_H_refreshNet.2.1 50 = .ok (.iinc 1 1, 3) := by decide +kernel
theorem d_H_refreshNet_53 : decode m_H_refreshNet.2.1 53 = .ok (.goto (-29), 3) := by decide +kernel
theorem d_H_refreshNet_56 : decode m_H_refreshNet.2.1 56 = .ok (.aload_n 0, 1) := by decide +kernel
theorem d_H_refreshNet_57 : decode m_H_refreshNet.2.1 57 = .ok (.getfield 58, 3) := by decide +kernel
theorem d_H_refreshNet_60 : decode m_H_refreshNet.2.1 60 = .ok (.invokevirtual 288, 3) := by decide +kernel
theorem d_H_refreshNet_63 : decode m_H_refreshNet.2.1 63 = .ok (.aload_n 0, 1) := by decide +kernel
theorem d_H_refreshNet_64 : decode m_H_refreshNet.2.1 64 = .ok (.iconst 1, 1) := by decide +kernel
theorem d_H_refreshNet_65 : decode m_H_refreshNet.2.1 65 = .ok (.putfield 276, 3) := by decide +kernel
theorem d_H_refreshNet_68 : decode m_H_refreshNet.2.1 68 = .ok (.return_, 1) := by decide +kernel
theorem d_H_wordsMakeRowsOne_0 : decode m_H_wordsMakeRowsOne.2.1 0 = .ok (.aload_n 0, 1) := by decide +kernel
theorem d_H_wordsMakeRowsOne_1 : decode m_H_wordsMakeRowsOne.2.1 1 = .ok (.getfield 21, 3) := by decide +kernel
theorem d_H_wordsMakeRowsOne_4 : decode m_H_wordsMakeRowsOne.2.1 4 = .ok (.getfield 231, 3) := by decide +kernel
theorem d_H_wordsMakeRowsOne_7 : decode m_H_wordsMakeRowsOne.2.1 7 = .ok (.aload_n 0, 1) := by decide +kernel
theorem d_H_wordsMakeRowsOne_8 : decode m_H_wordsMakeRowsOne.2.1 8 = .ok (.getfield 21, 3) := by decide +kernel
theorem d_H_wordsMakeRowsOne_11 : decode m_H_wordsMakeRowsOne.2.1 11 = .ok (.getfield 105, 3) := by decide +kernel
theorem d_H_wordsMakeRowsOne_14 : decode m_H_wordsMakeRowsOne.2.1 14 = .ok (.aload_n 0, 1) := by decide +kernel
theorem d_H_wordsMakeRowsOne_15 : decode m_H_wordsMakeRowsOne.2.1 15 = .ok (.getfield 76, 3) := by decide +kernel
theorem d_H_wordsMakeRowsOne_18 : decode m_H_wordsMakeRowsOne.2.1 18 = .ok (.invokevirtual 291, 3) := by decide +kernel
theorem d_H_wordsMakeRowsOne_21 : decode m_H_wordsMakeRowsOne.2.1 21 = .ok (.aload_n 0, 1) := by decide +kernel
theorem d_H_wordsMakeRowsOne_22 : decode m_H_wordsMakeRowsOne.2.1 22 = .ok (.getfield 21, 3) := by decide +kernel
theorem d_H_wordsMakeRowsOne_25 : decode m_H_wordsMakeRowsOne.2.1 25 = .ok (.getfield 231, 3) := by decide +kernel
theorem d_H_wordsMakeRowsOne_28 : decode m_H_wordsMakeRowsOne.2.1 28 = .ok (.aload_n 0, 1) := by decide +kernel
theorem d_H_wordsMakeRowsOne_29 : decode m_H_wordsMakeRowsOne.2.1 29 = .ok (.getfield 21, 3) := by decide +kernel
theorem d_H_wordsMakeRowsOne_32 : decode m_H_wordsMakeRowsOne.2.1 32 = .ok (.getfield 108, 3) := by decide +kernel
theorem d_H_wordsMakeRowsOne_35 : decode m_H_wordsMakeRowsOne.2.1 35 = .ok (.aload_n 0, 1) := by decide +kernel
theorem d_H_wordsMakeRowsOne_36 : decode m_H_wordsMakeRowsOne.2.1 36 = .ok (.getfield 79, 3) := by decide +kernel
theorem d_H_wordsMakeRowsOne_39 : decode m_H_wordsMakeRowsOne.2.1 39 = .ok (.invokevirtual 291, 3) := by decide +kernel
theorem d_H_wordsMakeRowsOne_42 : decode m_H_wordsMakeRowsOne.2.1 42 = .ok (.aload_n 0, 1) := by decide +kernel
theorem d_H_wordsMakeRowsOne_43 : decode m_H_wordsMakeRowsOne.2.1 43 = .ok (.getfield 76, 3) := by decide +kernel
theorem d_H_wordsMakeRowsOne_46 : decode m_H_wordsMakeRowsOne.2.1 46 = .ok (.aload_n 0, 1) := by decide +kernel
theorem d_H_wordsMakeRowsOne_47 : decode m_H_wordsMakeRowsOne.2.1 47 = .ok (.getfield 79, 3) := by decide +kernel
theorem d_H_wordsMakeRowsOne_50 : decode m_H_wordsMakeRowsOne.2.1 50 = .ok (.invokevirtual 295, 3) := by decide +kernel
theorem d_H_wordsMakeRowsOne_53 : decode m_H_wordsMakeRowsOne.2.1 53 = .ok (.ireturn, 1) := by decide +kernel
theorem d_Mo_init_0 : decode m_Mo_init.2.1 0 = .ok (.aload_n 0, 1) := by decide +kernel
theorem d_Mo_init_1 : decode m_Mo_init.2.1 1 = .ok (.invokespecial 1, 3) := by decide +kernel
theorem d_Mo_init_4 : decode m_Mo_init.2.1 4 = .ok (.aload_n 0, 1) := by decide +kernel
theorem d_Mo_init_5 : decode m_Mo_init.2.1 5 = .ok (.bipush 24, 2) := by decide +kernel
theorem d_Mo_init_7 : decode m_Mo_init.2.1 7 = .ok (.newarray .int, 2) := by decide +kernel
theorem d_Mo_init_9 : decode m_Mo_init.2.1 9 = .ok (.putfield 7, 3) := by decide +kernel
theorem d_Mo_init_12 : decode m_Mo_init.2.1 12 = .ok (.aload_n 0, 1) := by decide +kernel
theorem d_Mo_init_13 : decode m_Mo_init.2.1 13 = .ok (.iconst 2, 1) := by decide +kernel
theorem d_Mo_init_14 : decode m_Mo_init.2.1 14 = .ok (.newarray .int, 2) := by decide +kernel
theorem d_Mo_init_16 : decode m_Mo_init.2.1 16 = .ok (.putfield 13, 3) := by decide +kernel
theorem d_Mo_init_19 : decode m_Mo_init.2.1 19 = .ok (.aload_n 0, 1) := by decide +kernel
theorem d_Mo_init_20 : decode m_Mo_init.2.1 20 = .ok (.bipush 6, 2) := by decide +kernel
theorem d_Mo_init_22 : decode m_Mo_init.2.1 22 = .ok (.newarray .int, 2) := by decide +kernel
theorem d_Mo_init_24 : decode m_Mo_init.2.1 24 = .ok (.putfield 16, 3) := by decide +kernel
theorem d_Mo_init_27 : decode m_Mo_init.2.1 27 = .ok (.aload_n 0, 1) := by decide +kernel
theorem d_Mo_init_28 : decode m_Mo_init.2.1 28 = .ok (.bipush 9, 2) := by decide +kernel
theorem d_Mo_init_30 : decode m_Mo_init.2.1 30 = .ok (.newarray .int, 2) := by decide +kernel
theorem d_Mo_init_32 : decode m_Mo_init.2.1 32 = .ok (.putfield 19, 3) := by decide +kernel
theorem d_Mo_init_35 : decode m_Mo_init.2.1 35 = .ok (.aload_n 0, 1) := by decide +kernel
theorem d_Mo_init_36 : decode m_Mo_init.2.1 36 = .ok (.bipush 36, 2) := by decide +kernel
theorem d_Mo_init_38 : decode m_Mo_init.2.1 38 = .ok (.newarray .int, 2) := by decide +kernel
theorem d_Mo_init_40 : decode m_Mo_init.2.1 40 = .ok (.putfield 22, 3) := by decide +kernel
theorem d_Mo_init_43 : decode m_Mo_init.2.1 43 = .ok (.aload_n 0, 1) := by decide +kernel
theorem d_Mo_init_44 : decode m_Mo_init.2.1 44 = .ok (.iconst 3, 1) := by decide +kernel
theorem d_Mo_init_45 : decode m_Mo_init.2.1 45 = .ok (.newarray .int, 2) := by decide +kernel
theorem d_Mo_init_47 : decode m_Mo_init.2.1 47 = .ok (.putfield 25, 3) := by decide +kernel
theorem d_Mo_init_50 : decode m_Mo_init.2.1 50 = .ok (.aload_n 0, 1) := by decide +kernel
theorem d_Mo_init_51 : decode m_Mo_init.2.1 51 = .ok (.bipush 40, 2) := by decide +kernel
theorem d_Mo_init_53 : decode m_Mo_init.2.1 53 = .ok (.newarray .int, 2) := by decide +kernel
theorem d_Mo_init_55 : decode m_Mo_init.2.1 55 = .ok (.putfield 28, 3) := by decide +kernel
theorem d_Mo_init_58 : decode m_Mo_init.2.1 58 = .ok (.aload_n 0, 1) := by decide +kernel
theorem d_Mo_init_59 : decode m_Mo_init.2.1 59 = .ok (.bipush 24, 2) := by decide +kernel
theorem d_Mo_init_61 : decode m_Mo_init.2.1 61 = .ok (.newarray .int, 2) := by decide +kernel
theorem d_Mo_init_63 : decode m_Mo_init.2.1 63 = .ok (.putfield 31, 3) := by decide +kernel
theorem d_Mo_init_66 : decode m_Mo_init.2.1 66 = .ok (.aload_n 0, 1) := by decide +kernel
theorem d_Mo_init_67 : decode m_Mo_init.2.1 67 = .ok (.iconst 2, 1) := by decide +kernel
theorem d_Mo_init_68 : decode m_Mo_init.2.1 68 = .ok (.newarray .int, 2) := by decide +kernel
theorem d_Mo_init_70 : decode m_Mo_init.2.1 70 = .ok (.putfield 34, 3) := by decide +kernel
theorem d_Mo_init_73 : decode m_Mo_init.2.1 73 = .ok (.aload_n 0, 1) := by decide +kernel
theorem d_Mo_init_74 : decode m_Mo_init.2.1 74 = .ok (.bipush 81, 2) := by decide +kernel
theorem d_Mo_init_76 : decode m_Mo_init.2.1 76 = .ok (.newarray .int, 2) := by decide +kernel
theorem d_Mo_init_78 : decode m_Mo_init.2.1 78 = .ok (.putfield 37, 3) := by decide +kernel
theorem d_Mo_init_81 : decode m_Mo_init.2.1 81 = .ok (.aload_n 0, 1) := by decide +kernel
theorem d_Mo_init_82 : decode m_Mo_init.2.1 82 = .ok (.bipush 27, 2) := by decide +kernel
theorem d_Mo_init_84 : decode m_Mo_init.2.1 84 = .ok (.newarray .int, 2) := by decide +kernel
theorem d_Mo_init_86 : decode m_Mo_init.2.1 86 = .ok (.putfield 40, 3) := by decide +kernel
theorem d_Mo_init_89 : decode m_Mo_init.2.1 89 = .ok (.aload_n 0, 1) := by decide +kernel
theorem d_Mo_init_90 : decode m_Mo_init.2.1 90 = .ok (.bipush 27, 2) := by decide +kernel
theorem d_Mo_init_92 : decode m_Mo_init.2.1 92 = .ok (.newarray .int, 2) := by decide +kernel
theorem d_Mo_init_94 : decode m_Mo_init.2.1 94 = .ok (.putfield 43, 3) := by decide +kernel
theorem d_Mo_init_97 : decode m_Mo_init.2.1 97 = .ok (.aload_n 0, 1) := by decide +kernel
theorem d_Mo_init_98 : decode m_Mo_init.2.1 98 = .ok (.sipush 7200, 3) := by decide +kernel
theorem d_Mo_init_101 : decode m_Mo_init.2.1 101 = .ok (.newarray .int, 2) := by decide +kernel
theorem d_Mo_init_103 : decode m_Mo_init.2.1 103 = .ok (.putfield 46, 3) := by decide +kernel
theorem d_Mo_init_106 : decode m_Mo_init.2.1 106 = .ok (.aload_n 0, 1) := by decide +kernel
theorem d_Mo_init_107 : decode m_Mo_init.2.1 107 = .ok (.sipush 300, 3) := by decide +kernel
theorem d_Mo_init_110 : decode m_Mo_init.2.1 110 = .ok (.newarray .int, 2) := by decide +kernel
theorem d_Mo_init_112 : decode m_Mo_init.2.1 112 = .ok (.putfield 49, 3) := by decide +kernel
theorem d_Mo_init_115 : decode m_Mo_init.2.1 115 = .ok (.aload_n 0, 1) := by decide +kernel
theorem d_Mo_init_116 : decode m_Mo_init.2.1 116 = .ok (.sipush 1350, 3) := by decide +kernel
theorem d_Mo_init_119 : decode m_Mo_init.2.1 119 = .ok (.newarray .int, 2) := by decide +kernel
theorem d_Mo_init_121 : decode m_Mo_init.2.1 121 = .ok (.putfield 52, 3) := by decide +kernel
theorem d_Mo_init_124 : decode m_Mo_init.2.1 124 = .ok (.aload_n 0, 1) := by decide +kernel
theorem d_Mo_init_125 : decode m_Mo_init.2.1 125 = .ok (.sipush 150, 3) := by decide +kernel
theorem d_Mo_init_128 : decode m_Mo_init.2.1 128 = .ok (.newarray .int, 2) := by decide +kernel
theorem d_Mo_init_130 : decode m_Mo_init.2.1 130 = .ok (.putfield 55, 3) := by decide +kernel
theorem d_Mo_init_133 : decode m_Mo_init.2.1 133 = .ok (.aload_n 0, 1) := by decide +kernel
theorem d_Mo_init_134 : decode m_Mo_init.2.1 134 = .ok (.sipush 150, 3) := by decide +kernel
theorem d_Mo_init_137 : decode m_Mo_init.2.1 137 = .ok (.newarray .int, 2) := by decide +kernel
theorem d_Mo_init_139 : decode m_Mo_init.2.1 139 = .ok (.putfield 58, 3) := by decide +kernel
theorem d_Mo_init_142 : decode m_Mo_init.2.1 142 = .ok (.aload_n 0, 1) := by decide +kernel
theorem d_Mo_init_143 : decode m_Mo_init.2.1 143 = .ok (.sipush 150, 3) := by decide +kernel
theorem d_Mo_init_146 : decode m_Mo_init.2.1 146 = .ok (.newarray .int, 2) := by decide +kernel
theorem d_Mo_init_148 : decode m_Mo_init.2.1 148 = .ok (.putfield 61, 3) := by decide +kernel
theorem d_Mo_init_151 : decode m_Mo_init.2.1 151 = .ok (.aload_n 0, 1) := by decide +kernel
theorem d_Mo_init_152 : decode m_Mo_init.2.1 152 = .ok (.sipush 150, 3) := by decide +kernel
theorem d_Mo_init_155 : decode m_Mo_init.2.1 155 = .ok (.newarray .boolean, 2) := by decide +kernel
theorem d_Mo_init_157 : decode m_Mo_init.2.1 157 = .ok (.putfield 64, 3) := by decide +kernel
theorem d_Mo_init_160 : decode m_Mo_init.2.1 160 = .ok (.aload_n 0, 1) := by decide +kernel
theorem d_Mo_init_161 : decode m_Mo_init.2.1 161 = .ok (.bipush 96, 2) := by decide +kernel
theorem d_Mo_init_163 : decode m_Mo_init.2.1 163 = .ok (.newarray .int, 2) := by decide +kernel
theorem d_Mo_init_165 : decode m_Mo_init.2.1 165 = .ok (.putfield 68, 3) := by decide +kernel
theorem d_Mo_init_168 : decode m_Mo_init.2.1 168 = .ok (.aload_n 0, 1) := by decide +kernel
theorem d_Mo_init_169 : decode m_Mo_init.2.1 169 = .ok (.iconst 2, 1) := by decide +kernel
theorem d_Mo_init_170 : decode m_Mo_init.2.1 170 = .ok (.newarray .int, 2) := by decide +kernel
theorem d_Mo_init_172 : decode m_Mo_init.2.1 172 = .ok (.putfield 71, 3) := by decide +kernel
theorem d_Mo_init_175 : decode m_Mo_init.2.1 175 = .ok (.aload_n 0, 1) := by decide +kernel
theorem d_Mo_init_176 : decode m_Mo_init.2.1 176 = .ok (.bipush 9, 2) := by decide +kernel
theorem d_Mo_init_178 : decode m_Mo_init.2.1 178 = .ok (.newarray .int, 2) := by decide +kernel
theorem d_Mo_init_180 : decode m_Mo_init.2.1 180 = .ok (.putfield 74, 3) := by decide +kernel
theorem d_Mo_init_183 : decode m_Mo_init.2.1 183 = .ok (.aload_n 0, 1) := by decide +kernel
theorem d_Mo_init_184 : decode m_Mo_init.2.1 184 = .ok (.bipush 60, 2) := by decide +kernel
theorem d_Mo_init_186 : decode m_Mo_init.2.1 186 = .ok (.newarray .int, 2) := by decide +kernel
theorem d_Mo_init_188 : decode m_Mo_init.2.1 188 = .ok (.putfield 77, 3) := by decide +kernel
theorem d_Mo_init_191 : decode m_Mo_init.2.1 191 = .ok (.aload_n 0, 1) := by decide +kernel
theorem d_Mo_init_192 : decode m_Mo_init.2.1 192 = .ok (.sipush 183, 3) := by decide +kernel
theorem d_Mo_init_195 : decode m_Mo_init.2.1 195 = .ok (.newarray .int, 2) := by decide +kernel
theorem d_Mo_init_197 : decode m_Mo_init.2.1 197 = .ok (.putfield 80, 3) := by decide +kernel
theorem d_Mo_init_200 : decode m_Mo_init.2.1 200 = .ok (.aload_n 0, 1) := by decide +kernel
theorem d_Mo_init_201 : decode m_Mo_init.2.1 201 = .ok (.iconst 3, 1) := by decide +kernel
theorem d_Mo_init_202 : decode m_Mo_init.2.1 202 = .ok (.newarray .int, 2) := by decide +kernel
theorem d_Mo_init_204 : decode m_Mo_init.2.1 204 = .ok (.putfield 83, 3) := by decide +kernel
theorem d_Mo_init_207 : decode m_Mo_init.2.1 207 = .ok (.aload_n 0, 1) := by decide +kernel
theorem d_Mo_init_208 : decode m_Mo_init.2.1 208 = .ok (.bipush 36, 2) := by decide +kernel
theorem d_Mo_init_210 : decode m_Mo_init.2.1 210 = .ok (.newarray .int, 2) := by decide +kernel
theorem d_Mo_init_212 : decode m_Mo_init.2.1 212 = .ok (.putfield 86, 3) := by decide +kernel
theorem d_Mo_init_215 : decode m_Mo_init.2.1 215 = .ok (.aload_n 0, 1) := by decide +kernel
theorem d_Mo_init_216 : decode m_Mo_init.2.1 216 = .ok (.iconst 3, 1) := by decide +kernel
theorem d_Mo_init_217 : decode m_Mo_init.2.1 217 = .ok (.newarray .int, 2) := by decide +kernel
theorem d_Mo_init_219 : decode m_Mo_init.2.1 219 = .ok (.putfield 89, 3) := by decide +kernel
theorem d_Mo_init_222 : decode m_Mo_init.2.1 222 = .ok (.aload_n 0, 1) := by decide +kernel
theorem d_Mo_init_223 : decode m_Mo_init.2.1 223 = .ok (.sipush 288, 3) := by decide +kernel
theorem d_Mo_init_226 : decode m_Mo_init.2.1 226 = .ok (.newarray .int, 2) := by decide +kernel
theorem d_Mo_init_228 : decode m_Mo_init.2.1 228 = .ok (.putfield 92, 3) := by decide +kernel
theorem d_Mo_init_231 : decode m_Mo_init.2.1 231 = .ok (.aload_n 0, 1) := by decide +kernel
theorem d_Mo_init_232 : decode m_Mo_init.2.1 232 = .ok (.iconst 2, 1) := by decide +kernel
theorem d_Mo_init_233 : decode m_Mo_init.2.1 233 = .ok (.newarray .int, 2) := by decide +kernel
theorem d_Mo_init_235 : decode m_Mo_init.2.1 235 = .ok (.putfield 95, 3) := by decide +kernel
theorem d_Mo_init_238 : decode m_Mo_init.2.1 238 = .ok (.aload_n 0, 1) := by decide +kernel
theorem d_Mo_init_239 : decode m_Mo_init.2.1 239 = .ok (.iconst 3, 1) := by decide +kernel
theorem d_Mo_init_240 : decode m_Mo_init.2.1 240 = .ok (.newarray .int, 2) := by decide +kernel
theorem d_Mo_init_242 : decode m_Mo_init.2.1 242 = .ok (.putfield 98, 3) := by decide +kernel
theorem d_Mo_init_245 : decode m_Mo_init.2.1 245 = .ok (.aload_n 0, 1) := by decide +kernel
theorem d_Mo_init_246 : decode m_Mo_init.2.1 246 = .ok (.sipush 180, 3) := by decide +kernel
theorem d_Mo_init_249 : decode m_Mo_init.2.1 249 = .ok (.newarray .int, 2) := by decide +kernel
theorem d_Mo_init_251 : decode m_Mo_init.2.1 251 = .ok (.putfield 101, 3) := by decide +kernel
theorem d_Mo_init_254 : decode m_Mo_init.2.1 254 = .ok (.aload_n 0, 1) := by decide +kernel
theorem d_Mo_init_255 : decode m_Mo_init.2.1 255 = .ok (.iconst 2, 1) := by decide +kernel
theorem d_Mo_init_256 : decode m_Mo_init.2.1 256 = .ok (.newarray .boolean, 2) := by decide +kernel
theorem d_Mo_init_258 : decode m_Mo_init.2.1 258 = .ok (.putfield 104, 3) := by decide +kernel
theorem d_Mo_init_261 : decode m_Mo_init.2.1 261 = .ok (.iconst 0, 1) := by decide +kernel
theorem d_Mo_init_262 : decode m_Mo_init.2.1 262 = .ok (.istore_n 1, 1) := by decide +kernel
theorem d_Mo_init_263 : decode m_Mo_init.2.1 263 = .ok (.iload_n 1, 1) := by decide +kernel
theorem d_Mo_init_264 : decode m_Mo_init.2.1 264 = .ok (.iconst 3, 1) := by decide +kernel
theorem d_Mo_init_265 : decode m_Mo_init.2.1 265 = .ok (.if_icmp .ge 25, 3) := by decide +kernel
theorem d_Mo_init_268 : decode m_Mo_init.2.1 268 = .ok (.aload_n 0, 1) := by decide +kernel
theorem d_Mo_init_269 : decode m_Mo_init.2.1 269 = .ok (.getfield 16, 3) := by decide +kernel
theorem d_Mo_init_272 : decode m_Mo_init.2.1 272 = .ok (.iload_n 1, 1) := by decide +kernel
theorem d_Mo_init_273 : decode m_Mo_init.2.1 273 = .ok (.iload_n 1, 1) := by decide +kernel
theorem d_Mo_init_274 : decode m_Mo_init.2.1 274 = .ok (.iastore, 1) := by decide +kernel
theorem d_Mo_init_275 : decode m_Mo_init.2.1 275 = .ok (.aload_n 0, 1) := by decide +kernel
theorem d_Mo_init_276 : decode m_Mo_init.2.1 276 = .ok (.getfield 16, 3) := by decide +kernel
theorem d_Mo_init_279 : decode m_Mo_init.2.1 279 = .ok (.iconst 3, 1) := by decide +kernel
theorem d_Mo_init_280 : decode m_Mo_init.2.1 280 = .ok (.iload_n 1, 1) := by decide +kernel
theorem d_Mo_init_281 : decode m_Mo_init.2.1 281 = .ok (.iadd, 1) := by decide +kernel
theorem d_Mo_init_282 : decode m_Mo_init.2.1 282 = .ok (.iload_n 1, 1) := by decide +kernel
theorem d_Mo_init_283 : decode m_Mo_init.2.1 283 = .ok (.iastore, 1) := by decide +kernel
theorem d_Mo_init_284 : decode m_Mo_init.2.1 284 = .ok (.iinc 1 1, 3) := by decide +kernel
theorem d_Mo_init_287 : decode m_Mo_init.2.1 287 = .ok (.goto (-24), 3) := by decide +kernel
theorem d_Mo_init_290 : decode m_Mo_init.2.1 290 = .ok (.iconst 0, 1) := by decide +kernel
theorem d_Mo_init_291 : decode m_Mo_init.2.1 291 = .ok (.istore_n 1, 1) := by decide +kernel
theorem d_Mo_init_292 : decode m_Mo_init.2.1 292 = .ok (.iload_n 1, 1) := by decide +kernel
theorem d_Mo_init_293 : decode m_Mo_init.2.1 293 = .ok (.bipush 9, 2) := by decide +kernel
theorem d_Mo_init_295 : decode m_Mo_init.2.1 295 = .ok (.if_icmp .ge 17, 3) := by decide +kernel
theorem d_Mo_init_298 : decode m_Mo_init.2.1 298 = .ok (.aload_n 0, 1) := by decide +kernel
theorem d_Mo_init_299 : decode m_Mo_init.2.1 299 = .ok (.getfield 19, 3) := by decide +kernel
theorem d_Mo_init_302 : decode m_Mo_init.2.1 302 = .ok (.iload_n 1, 1) := by decide +kernel
theorem d_Mo_init_303 : decode m_Mo_init.2.1 303 = .ok (.bipush 7, 2) := by decide +kernel
theorem d_Mo_init_305 : decode m_Mo_init.2.1 305 = .ok (.iastore, 1) := by decide +kernel
theorem d_Mo_init_306 : decode m_Mo_init.2.1 306 = .ok (.iinc 1 1, 3) := by decide +kernel
theorem d_Mo_init_309 : decode m_Mo_init.2.1 309 = .ok (.goto (-17), 3) := by decide +kernel
theorem d_Mo_init_312 : decode m_Mo_init.2.1 312 = .ok (.return_, 1) := by decide +kernel
theorem d_Mo_in_0 : decode m_Mo_in.2.1 0 = .ok (.lload_n 0, 1) := by decide +kernel
theorem d_Mo_in_1 : decode m_Mo_in.2.1 1 = .ok (.lload_n 2, 1) := by decide +kernel
theorem d_Mo_in_2 : decode m_Mo_in.2.1 2 = .ok (.lcmp, 1) := by decide +kernel
theorem d_Mo_in_3 : decode m_Mo_in.2.1 3 = .ok (.ifCond .lt 14, 3) := by decide +kernel
theorem d_Mo_in_6 : decode m_Mo_in.2.1 6 = .ok (.lload_n 0, 1) := by decide +kernel
theorem d_Mo_in_7 : decode m_Mo_in.2.1 7 = .ok (.lload 4, 2) := by decide +kernel
theorem d_Mo_in_9 : decode m_Mo_in.2.1 9 = .ok (.lcmp, 1) := by decide +kernel
theorem d_Mo_in_10 : decode m_Mo_in.2.1 10 = .ok (.ifCond .gt 7, 3) := by decide +kernel
theorem d_Mo_in_13 : decode m_Mo_in.2.1 13 = .ok (.iconst 1, 1) := by decide +kernel
theorem d_Mo_in_14 : decode m_Mo_in.2.1 14 = .ok (.goto 4, 3) := by decide +kernel
theorem d_Mo_in_17 : decode m_Mo_in.2.1 17 = .ok (.iconst 0, 1) := by decide +kernel
theorem d_Mo_in_18 : decode m_Mo_in.2.1 18 = .ok (.ireturn, 1) := by decide +kernel
theorem d_Mo_isThird_0 : decode m_Mo_isThird.2.1 0 = .ok (.iload_n 0, 1) := by decide +kernel
theorem d_Mo_isThird_1 : decode m_Mo_isThird.2.1 1 = .ok (.i2l, 1) := by decide +kernel
theorem d_Mo_isThird_2 : decode m_Mo_isThird.2.1 2 = .ok (.lconst 0, 1) := by decide +kernel
theorem d_Mo_isThird_3 : decode m_Mo_isThird.2.1 3 = .ok (.ldc2_w 107, 3) := by decide +kernel
theorem d_Mo_isThird_6 : decode m_Mo_isThird.2.1 6 = .ok (.invokestatic 109, 3) := by decide +kernel
theorem d_Mo_isThird_9 : decode m_Mo_isThird.2.1 9 = .ok (.ireturn, 1) := by decide +kernel
theorem d_Mo_has_0 : decode m_Mo_has.2.1 0 = .ok (.iload_n 0, 1) := by decide +kernel
theorem d_Mo_has_1 : decode m_Mo_has.2.1 1 = .ok (.iload_n 1, 1) := by decide +kernel
theorem d_Mo_has_2 : decode m_Mo_has.2.1 2 = .ok (.ishr, 1) := by decide +kernel
theorem d_Mo_has_3 : decode m_Mo_has.2.1 3 = .ok (.iconst 1, 1) := by decide +kernel
theorem d_Mo_has_4 : decode m_Mo_has.2.1 4 = .ok (.iand, 1) := by decide +kernel
theorem d_Mo_has_5 : decode m_Mo_has.2.1 5 = .ok (.iconst 1, 1) := by decide +kernel
theorem d_Mo_has_6 : decode m_Mo_has.2.1 6 = .ok (.if_icmp .ne 7, 3) := by decide +kernel
theorem d_Mo_has_9 : decode m_Mo_has.2.1 9 = .ok (.iconst 1, 1) := by decide +kernel
theorem d_Mo_has_10 : decode m_Mo_has.2.1 10 = .ok (.goto 4, 3) := by decide +kernel
theorem d_Mo_has_13 : decode m_Mo_has.2.1 13 = .ok (.iconst 0, 1) := by decide +kernel
theorem d_Mo_has_14 : decode m_Mo_has.2.1 14 = .ok (.ireturn, 1) := by decide +kernel
theorem d_Mo_say_0 : decode m_Mo_say.2.1 0 = .ok (.iload_n 1, 1) := by decide +kernel
theorem d_Mo_say_1 : decode m_Mo_say.2.1 1 = .ok (.i2l, 1) := by decide +kernel
theorem d_Mo_say_2 : decode m_Mo_say.2.1 2 = .ok (.ldc2_w 113, 3) := by decide +kernel
theorem d_Mo_say_5 : decode m_Mo_say.2.1 5 = .ok (.ldc2_w 115, 3) := by decide +kernel
theorem d_Mo_say_8 : decode m_Mo_say.2.1 8 = .ok (.invokestatic 109, 3) := by decide +kernel
theorem d_Mo_say_11 : decode m_Mo_say.2.1 11 = .ok (.ifCond .ne 6, 3) := by decide +kernel
theorem d_Mo_say_14 : decode m_Mo_say.2.1 14 = .ok (.bipush (-2), 2) := by decide +kernel
theorem d_Mo_say_16 : decode m_Mo_say.2.1 16 = .ok (.ireturn, 1) := by decide +kernel
theorem d_Mo_say_17 : decode m_Mo_say.2.1 17 = .ok (.aload_n 0, 1) := by decide +kernel
theorem d_Mo_say_18 : decode m_Mo_say.2.1 18 = .ok (.getfield 117, 3) := by decide +kernel
theorem d_Mo_say_21 : decode m_Mo_say.2.1 21 = .ok (.bipush 40, 2) := by decide +kernel
theorem d_Mo_say_23 : decode m_Mo_say.2.1 23 = .ok (.if_icmp .ne 6, 3) := by decide +kernel
theorem d_Mo_say_26 : decode m_Mo_say.2.1 26 = .ok (.bipush (-4), 2) := by decide +kernel
theorem d_Mo_say_28 : decode m_Mo_say.2.1 28 = .ok (.ireturn, 1) := by decide +kernel
theorem d_Mo_say_29 : decode m_Mo_say.2.1 29 = .ok (.aload_n 0, 1) := by decide +kernel
theorem d_Mo_say_30 : decode m_Mo_say.2.1 30 = .ok (.getfield 28, 3) := by decide +kernel
theorem d_Mo_say_33 : decode m_Mo_say.2.1 33 = .ok (.aload_n 0, 1) := by decide +kernel
theorem d_Mo_say_34 : decode m_Mo_say.2.1 34 = .ok (.getfield 117, 3) := by decide +kernel
theorem d_Mo_say_37 : decode m_Mo_say.2.1 37 = .ok (.iload_n 1, 1) := by decide +kernel
theorem d_Mo_say_38 : decode m_Mo_say.2.1 38 = .ok (.iastore, 1) := by decide +kernel
theorem d_Mo_say_39 : decode m_Mo_say.2.1 39 = .ok (.aload_n 0, 1) := by decide +kernel
theorem d_Mo_say_40 : decode m_Mo_say.2.1 40 = .ok (.dup, 1) := by decide +kernel
theorem d_Mo_say_41 : decode m_Mo_say.2.1 41 = .ok (.getfield 117, 3) := by decide +kernel
theorem d_Mo_say_44 : decode m_Mo_say.2.1 44 = .ok (.iconst 1, 1) := by decide +kernel
theorem d_Mo_say_45 : decode m_Mo_say.2.1 45 = .ok (.iadd, 1) := by decide +kernel
theorem d_Mo_say_46 : decode m_Mo_say.2.1 46 = .ok (.putfield 117, 3) := by decide +kernel
theorem d_Mo_say_49 : decode m_Mo_say.2.1 49 = .ok (.aload_n 0, 1) := by decide +kernel
theorem d_Mo_say_50 : decode m_Mo_say.2.1 50 = .ok (.getfield 117, 3) := by decide +kernel
theorem d_Mo_say_53 : decode m_Mo_say.2.1 53 = .ok (.ireturn, 1) := by decide +kernel
theorem d_Mo_wipe_0 : decode m_Mo_wipe.2.1 0 = .ok (.aload_n 0, 1) := by decide +kernel
theorem d_Mo_wipe_1 : decode m_Mo_wipe.2.1 1 = .ok (.getfield 117, 3) := by decide +kernel
theorem d_Mo_wipe_4 : decode m_Mo_wipe.2.1 4 = .ok (.istore_n 1, 1) := by decide +kernel
theorem d_Mo_wipe_5 : decode m_Mo_wipe.2.1 5 = .ok (.aload_n 0, 1) := by decide +kernel
theorem d_Mo_wipe_6 : decode m_Mo_wipe.2.1 6 = .ok (.iconst 0, 1) := by decide +kernel
theorem d_Mo_wipe_7 : decode m_Mo_wipe.2.1 7 = .ok (.putfield 117, 3) := by decide +kernel
theorem d_Mo_wipe_10 : decode m_Mo_wipe.2.1 10 = .ok (.iload_n 1, 1) := by decide +kernel
theorem d_Mo_wipe_11 : decode m_Mo_wipe.2.1 11 = .ok (.ireturn, 1) := by decide +kernel
theorem d_Mo_symbolOf_0 : decode m_Mo_symbolOf.2.1 0 = .ok (.iload_n 0, 1) := by decide +kernel
theorem d_Mo_symbolOf_1 : decode m_Mo_symbolOf.2.1 1 = .ok (.i2l, 1) := by decide +kernel
theorem d_Mo_symbolOf_2 : decode m_Mo_symbolOf.2.1 2 = .ok (.ldc2_w 121, 3) := by decide +kernel
theorem d_Mo_symbolOf_5 : decode m_Mo_symbolOf.2.1 5 = .ok (.ldc2_w 123, 3) := by decide +kernel
theorem d_Mo_symbolOf_8 : decode m_Mo_symbolOf.2.1 8 = .ok (.invokestatic 109, 3) := by decide +kernel
theorem d_Mo_symbolOf_11 : decode m_Mo_symbolOf.2.1 11 = .ok (.ifCond .eq 10, 3) := by decide +kernel
theorem d_Mo_symbolOf_14 : decode m_Mo_symbolOf.2.1 14 = .ok (.iload_n 0, 1) := by decide +kernel
theorem d_Mo_symbolOf_15 : decode m_Mo_symbolOf.2.1 15 = .ok (.bipush 97, 2) := by decide +kernel
theorem d_Mo_symbolOf_17 : decode m_Mo_symbolOf.2.1 17 = .ok (.isub, 1) := by decide +kernel
theorem d_Mo_symbolOf_18 : decode m_Mo_symbolOf.2.1 18 = .ok (.goto 28, 3) := by decide +kernel
theorem d_Mo_symbolOf_21 : decode m_Mo_symbolOf.2.1 21 = .ok (.iload_n 0, 1) := by decide +kernel
theorem d_Mo_symbolOf_22 : decode m_Mo_symbolOf.2.1 22 = .ok (.i2l, 1) := by decide +kernel
theorem d_Mo_symbolOf_23 : decode m_Mo_symbolOf.2.1 23 = .ok (.ldc2_w 125, 3) := by decide +kernel
theorem d_Mo_symbolOf_26 : decode m_Mo_symbolOf.2.1 26 = .ok (.ldc2_w 127, 3) := by decide +kernel
theorem d_Mo_symbolOf_29 : decode m_Mo_symbolOf.2.1 29 = .ok (.invokestatic 109, 3) := by decide +kernel
theorem d_Mo_symbolOf_32 : decode m_Mo_symbolOf.2.1 32 = .ok (.ifCond .eq 12, 3) := by decide +kernel
theorem d_Mo_symbolOf_35 : decode m_Mo_symbolOf.2.1 35 = .ok (.iload_n 0, 1) := by decide +kernel
theorem d_Mo_symbolOf_36 : decode m_Mo_symbolOf.2.1 36 = .ok (.bipush 120, 2) := by decide +kernel
theorem d_Mo_symbolOf_38 : decode m_Mo_symbolOf.2.1 38 = .ok (.isub, 1) := by decide +kernel
theorem d_Mo_symbolOf_39 : decode m_Mo_symbolOf.2.1 39 = .ok (.iconst 2, 1) := by decide +kernel
theorem d_Mo_symbolOf_40 : decode m_Mo_symbolOf.2.1 40 = .ok (.iadd, 1) := by decide +kernel
theorem d_Mo_symbolOf_41 : decode m_Mo_symbolOf.2.1 41 = .ok (.goto 5, 3) := by decide +kernel
theorem d_Mo_symbolOf_44 : decode m_Mo_symbolOf.2.1 44 = .ok (.bipush (-6), 2) := by decide +kernel
theorem d_Mo_symbolOf_46 : decode m_Mo_symbolOf.2.1 46 = .ok (.ireturn, 1) := by decide +kernel
theorem d_Mo_fault_0 : decode m_Mo_fault.2.1 0 = .ok (.aload_n 0, 1) := by decide +kernel
theorem d_Mo_fault_1 : decode m_Mo_fault.2.1 1 = .ok (.getfield 34, 3) := by decide +kernel
theorem d_Mo_fault_4 : decode m_Mo_fault.2.1 4 = .ok (.iconst 0, 1) := by decide +kernel
theorem d_Mo_fault_5 : decode m_Mo_fault.2.1 5 = .ok (.iconst 0, 1) := by decide +kernel
theorem d_Mo_fault_6 : decode m_Mo_fault.2.1 6 = .ok (.iastore, 1) := by decide +kernel
theorem d_Mo_fault_7 : decode m_Mo_fault.2.1 7 = .ok (.aload_n 0, 1) := by decide +kernel
theorem d_Mo_fault_8 : decode m_Mo_fault.2.1 8 = .ok (.getfield 34, 3) := by decide +kernel
theorem d_Mo_fault_11 : decode m_Mo_fault.2.1 11 = .ok (.iconst 1, 1) := by decide +kernel
theorem d_Mo_fault_12 : decode m_Mo_fault.2.1 12 = .ok (.iconst 0, 1) := by decide +kernel
theorem d_Mo_fault_13 : decode m_Mo_fault.2.1 13 = .ok (.iastore, 1) := by decide +kernel
theorem d_Mo_fault_14 : decode m_Mo_fault.2.1 14 = .ok (.iconst 0, 1) := by decide +kernel
theorem d_Mo_fault_15 : decode m_Mo_fault.2.1 15 = .ok (.istore_n 1, 1) := by decide +kernel
theorem d_Mo_fault_16 : decode m_Mo_fault.2.1 16 = .ok (.iconst 0, 1) := by decide +kernel
theorem d_Mo_fault_17 : decode m_Mo_fault.2.1 17 = .ok (.istore_n 2, 1) := by decide +kernel
theorem d_Mo_fault_18 : decode m_Mo_fault.2.1 18 = .ok (.iload_n 2, 1) := by decide +kernel
theorem d_Mo_fault_19 : decode m_Mo_fault.2.1 19 = .ok (.aload_n 0, 1) := by decide +kernel
theorem d_Mo_fault_20 : decode m_Mo_fault.2.1 20 = .ok (.getfield 117, 3) := by decide +kernel
theorem d_Mo_fault_23 : decode m_Mo_fault.2.1 23 = .ok (.if_icmp .ge 100, 3) := by decide +kernel
theorem d_Mo_fault_26 : decode m_Mo_fault.2.1 26 = .ok (.aload_n 0, 1) := by decide +kernel
theorem d_Mo_fault_27 : decode m_Mo_fault.2.1 27 = .ok (.getfield 28, 3) := by decide +kernel
theorem d_Mo_fault_30 : decode m_Mo_fault.2.1 30 = .ok (.iload_n 2, 1) := by decide +kernel
theorem d_Mo_fault_31 : decode m_Mo_fault.2.1 31 = .ok (.iaload, 1) := by decide +kernel
theorem d_Mo_fault_32 : decode m_Mo_fault.2.1 32 = .ok (.invokestatic 129, 3) := by decide +kernel
theorem d_Mo_fault_35 : decode m_Mo_fault.2.1 35 = .ok (.istore_n 3, 1) := by decide +kernel
theorem d_Mo_fault_36 : decode m_Mo_fault.2.1 36 = .ok (.aload_n 0, 1) := by decide +kernel
theorem d_Mo_fault_37 : decode m_Mo_fault.2.1 37 = .ok (.getfield 28, 3) := by decide +kernel
theorem d_Mo_fault_40 : decode m_Mo_fault.2.1 40 = .ok (.iload_n 2, 1) := by decide +kernel
theorem d_Mo_fault_41 : decode m_Mo_fault.2.1 41 = .ok (.iaload, 1) := by decide +kernel
theorem d_Mo_fault_42 : decode m_Mo_fault.2.1 42 = .ok (.bipush 61, 2) := by decide +kernel
theorem d_Mo_fault_44 : decode m_Mo_fault.2.1 44 = .ok (.if_icmp .ne 11, 3) := by decide +kernel
theorem d_Mo_fault_47 : decode m_Mo_fault.2.1 47 = .ok (.iload_n 1, 1) := by decide +kernel
theorem d_Mo_fault_48 : decode m_Mo_fault.2.1 48 = .ok (.ifCond .ne 7, 3) := by decide +kernel
theorem d_Mo_fault_51 : decode m_Mo_fault.2.1 51 = .ok (.iconst 1, 1) := by decide +kernel
theorem d_Mo_fault_52 : decode m_Mo_fault.2.1 52 = .ok (.goto 4, 3) := by decide +kernel
theorem d_Mo_fault_55 : decode m_Mo_fault.2.1 55 = .ok (.iconst 0, 1) := by decide +kernel
theorem d_Mo_fault_56 : decode m_Mo_fault.2.1 56 = .ok (.istore 4, 2) := by decide +kernel
theorem d_Mo_fault_58 : decode m_Mo_fault.2.1 58 = .ok (.iload 4, 2) := by decide +kernel
theorem d_Mo_fault_60 : decode m_Mo_fault.2.1 60 = .ok (.ifCond .ne 20, 3) := by decide +kernel
theorem d_Mo_fault_63 : decode m_Mo_fault.2.1 63 = .ok (.iload_n 3, 1) := by decide +kernel
theorem d_Mo_fault_64 : decode m_Mo_fault.2.1 64 = .ok (.ifCond .lt 14, 3) := by decide +kernel
theorem d_Mo_fault_67 : decode m_Mo_fault.2.1 67 = .ok (.aload_n 0, 1) := by decide +kernel
theorem d_Mo_fault_68 : decode m_Mo_fault.2.1 68 = .ok (.getfield 34, 3) := by decide +kernel
theorem d_Mo_fault_71 : decode m_Mo_fault.2.1 71 = .ok (.iload_n 1, 1) := by decide +kernel
theorem d_Mo_fault_72 : decode m_Mo_fault.2.1 72 = .ok (.iaload, 1) := by decide +kernel
theorem d_Mo_fault_73 : decode m_Mo_fault.2.1 73 = .ok (.bipush 12, 2) := by decide +kernel
theorem d_Mo_fault_75 : decode m_Mo_fault.2.1 75 = .ok (.if_icmp .ne 5, 3) := by decide +kernel
theorem d_Mo_fault_78 : decode m_Mo_fault.2.1 78 = .ok (.iload_n 2, 1) := by decide +kernel
theorem d_Mo_fault_79 : decode m_Mo_fault.2.1 79 = .ok (.ireturn, 1) := by decide +kernel
theorem d_Mo_fault_80 : decode m_Mo_fault.2.1 80 = .ok (.iload 4, 2) := by decide +kernel
theorem d_Mo_fault_82 : decode m_Mo_fault.2.1 82 = .ok (.ifCond .eq 8, 3) := by decide +kernel
theorem d_Mo_fault_85 : decode m_Mo_fault.2.1 85 = .ok (.iconst 1, 1) := by decide +kernel
theorem d_Mo_fault_86 : decode m_Mo_fault.2.1 86 = .ok (.istore_n 1, 1) := by decide +kernel
theorem d_Mo_fault_87 : decode m_Mo_fault.2.1 87 = .ok (.goto 30, 3) := by decide +kernel
theorem d_Mo_fault_90 : decode m_Mo_fault.2.1 90 = .ok (.aload_n 0, 1) := by decide +kernel
theorem d_Mo_fault_91 : decode m_Mo_fault.2.1 91 = .ok (.getfield 31, 3) := by decide +kernel
theorem d_Mo_fault_94 : decode m_Mo_fault.2.1 94 = .ok (.bipush 12, 2) := by decide +kernel
theorem d_Mo_fault_96 : decode m_Mo_fault.2.1 96 = .ok (.iload_n 1, 1) := by decide +kernel
theorem d_Mo_fault_97 : decode m_Mo_fault.2.1 97 = .ok (.imul, 1) := by decide +kernel
theorem d_Mo_fault_98 : decode m_Mo_fault.2.1 98 = .ok (.aload_n 0, 1) := by decide +kernel
theorem d_Mo_fault_99 : decode m_Mo_fault.2.1 99 = .ok (.getfield 34, 3) := by decide +kernel
theorem d_Mo_fault_102 : decode m_Mo_fault.2.1 102 = .ok (.iload_n 1, 1) := by decide +kernel
theorem d_Mo_fault_103 : decode m_Mo_fault.2.1 103 = .ok (.iaload, 1) := by decide +kernel
theorem d_Mo_fault_104 : decode m_Mo_fault.2.1 104 = .ok (.iadd, 1) := by decide +kernel
theorem d_Mo_fault_105 : decode m_Mo_fault.2.1 105 = .ok (.iload_n 3, 1) := by decide +kernel
theorem d_Mo_fault_106 : decode m_Mo_fault.2.1 106 = .ok (.iastore, 1) := by decide +kernel
theorem d_Mo_fault_107 : decode m_Mo_fault.2.1 107 = .ok (.aload_n 0, 1) := by decide +kernel
theorem d_Mo_fault_108 : decode m_Mo_fault.2.1 108 = .ok (.getfield 34, 3) := by decide +kernel
theorem d_Mo_fault_111 : decode m_Mo_fault.2.1 111 = .ok (.iload_n 1, 1) := by decide +kernel
theorem d_Mo_fault_112 : decode m_Mo_fault.2.1 112 = .ok (.dup2, 1) := by decide +kernel
theorem d_Mo_fault_113 : decode m_Mo_fault.2.1 113 = .ok (.iaload, 1) := by decide +kernel
theorem d_Mo_fault_114 : decode m_Mo_fault.2.1 114 = .ok (.iconst 1, 1) := by decide +kernel
theorem d_Mo_fault_115 : decode m_Mo_fault.2.1 115 = .ok (.iadd, 1) := by decide +kernel
theorem d_Mo_fault_116 : decode m_Mo_fault.2.1 116 = .ok (.iastore, 1) := by decide +kernel
theorem d_Mo_fault_117 : decode m_Mo_fault.2.1 117 = .ok (.iinc 2 1, 3) := by decide +kernel
theorem d_Mo_fault_120 : decode m_Mo_fault.2.1 120 = .ok (.goto (-102), 3) := by decide +kernel
theorem d_Mo_fault_123 : decode m_Mo_fault.2.1 123 = .ok (.iload_n 1, 1) := by decide +kernel
theorem d_Mo_fault_124 : decode m_Mo_fault.2.1 124 = .ok (.iconst 1, 1) := by decide +kernel
theorem d_Mo_fault_125 : decode m_Mo_fault.2.1 125 = .ok (.if_icmp .ne 8, 3) := by decide +kernel
theorem d_Mo_fault_128 : decode m_Mo_fault.2.1 128 = .ok (.bipush (-6), 2) := by decide +kernel
theorem d_Mo_fault_130 : decode m_Mo_fault.2.1 130 = .ok (.goto 7, 3) := by decide +kernel
theorem d_Mo_fault_133 : decode m_Mo_fault.2.1 133 = .ok (.aload_n 0, 1) := by decide +kernel
theorem d_Mo_fault_134 : decode m_Mo_fault.2.1 134 = .ok (.getfield 117, 3) := by decide +kernel
theorem d_Mo_fault_137 : decode m_Mo_fault.2.1 137 = .ok (.ireturn, 1) := by decide +kernel
theorem d_Mo_load_0 : decode m_Mo_load.2.1 0 = .ok (.aload_n 0, 1) := by decide +kernel
theorem d_Mo_load_1 : decode m_Mo_load.2.1 1 = .ok (.invokevirtual 133, 3) := by decide +kernel
theorem d_Mo_load_4 : decode m_Mo_load.2.1 4 = .ok (.ifCond .lt 6, 3) := by decide +kernel
theorem d_Mo_load_7 : decode m_Mo_load.2.1 7 = .ok (.bipush (-5), 2) := by decide +kernel
theorem d_Mo_load_9 : decode m_Mo_load.2.1 9 = .ok (.ireturn, 1) := by decide +kernel
theorem d_Mo_load_10 : decode m_Mo_load.2.1 10 = .ok (.iconst 0, 1) := by decide +kernel
theorem d_Mo_load_11 : decode m_Mo_load.2.1 11 = .ok (.istore_n 1, 1) := by decide +kernel
theorem d_Mo_load_12 : decode m_Mo_load.2.1 12 = .ok (.iload_n 1, 1) := by decide +kernel
theorem d_Mo_load_13 : decode m_Mo_load.2.1 13 = .ok (.bipush 24, 2) := by decide +kernel
theorem d_Mo_load_15 : decode m_Mo_load.2.1 15 = .ok (.if_icmp .ge 21, 3) := by decide +kernel
theorem d_Mo_load_18 : decode m_Mo_load.2.1 18 = .ok (.aload_n 0, 1) := by decide +kernel
theorem d_Mo_load_19 : decode m_Mo_load.2.1 19 = .ok (.getfield 7, 3) := by decide +kernel
theorem d_Mo_load_22 : decode m_Mo_load.2.1 22 = .ok (.iload_n 1, 1) := by decide +kernel
theorem d_Mo_load_23 : decode m_Mo_load.2.1 23 = .ok (.aload_n 0, 1) := by decide +kernel
theorem d_Mo_load_24 : decode m_Mo_load.2.1 24 = .ok (.getfield 31, 3) := by decide +kernel
theorem d_Mo_load_27 : decode m_Mo_load.2.1 27 = .ok (.iload_n 1, 1) := by decide +kernel
theorem d_Mo_load_28 : decode m_Mo_load.2.1 28 = .ok (.iaload, 1) := by decide +kernel
theorem d_Mo_load_29 : decode m_Mo_load.2.1 29 = .ok (.iastore, 1) := by decide +kernel
theorem d_Mo_load_30 : decode m_Mo_load.2.1 30 = .ok (.iinc 1 1, 3) := by decide +kernel
theorem d_Mo_load_33 : decode m_Mo_load.2.1 33 = .ok (.goto (-21), 3) := by decide +kernel
theorem d_Mo_load_36 : decode m_Mo_load.2.1 36 = .ok (.aload_n 0, 1) := by decide +kernel
theorem d_Mo_load_37 : decode m_Mo_load.2.1 37 = .ok (.getfield 13, 3) := by decide +kernel
theorem d_Mo_load_40 : decode m_Mo_load.2.1 40 = .ok (.iconst 0, 1) := by decide +kernel
theorem d_Mo_load_41 : decode m_Mo_load.2.1 41 = .ok (.aload_n 0, 1) := by decide +kernel
theorem d_Mo_load_42 : decode m_Mo_load.2.1 42 = .ok (.getfield 34, 3) := by decide +kernel
theorem d_Mo_load_45 : decode m_Mo_load.2.1 45 = .ok (.iconst 0, 1) := by decide +kernel
theorem d_Mo_load_46 : decode m_Mo_load.2.1 46 = .ok (.iaload, 1) := by decide +kernel
theorem d_Mo_load_47 : decode m_Mo_load.2.1 47 = .ok (.iastore, 1) := by decide +kernel
theorem d_Mo_load_48 : decode m_Mo_load.2.1 48 = .ok (.aload_n 0, 1) := by decide +kernel
theorem d_Mo_load_49 : decode m_Mo_load.2.1 49 = .ok (.getfield 13, 3) := by decide +kernel
theorem d_Mo_load_52 : decode m_Mo_load.2.1 52 = .ok (.iconst 1, 1) := by decide +kernel
