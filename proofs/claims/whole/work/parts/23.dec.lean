/-! the instructions, read off the bytes (3) -/
theorem d_Mo_load_53 : decode m_Mo_load.2.1 53 = .ok (.aload_n 0, 1) := by decide +kernel
theorem d_Mo_load_54 : decode m_Mo_load.2.1 54 = .ok (.getfield 34, 3) := by decide +kernel
theorem d_Mo_load_57 : decode m_Mo_load.2.1 57 = .ok (.iconst 1, 1) := by decide +kernel
theorem d_Mo_load_58 : decode m_Mo_load.2.1 58 = .ok (.iaload, 1) := by decide +kernel
theorem d_Mo_load_59 : decode m_Mo_load.2.1 59 = .ok (.iastore, 1) := by decide +kernel
theorem d_Mo_load_60 : decode m_Mo_load.2.1 60 = .ok (.aload_n 0, 1) := by decide +kernel
theorem d_Mo_load_61 : decode m_Mo_load.2.1 61 = .ok (.iconst 0, 1) := by decide +kernel
theorem d_Mo_load_62 : decode m_Mo_load.2.1 62 = .ok (.putfield 117, 3) := by decide +kernel
theorem d_Mo_load_65 : decode m_Mo_load.2.1 65 = .ok (.aload_n 0, 1) := by decide +kernel
theorem d_Mo_load_66 : decode m_Mo_load.2.1 66 = .ok (.iconst 0, 1) := by decide +kernel
theorem d_Mo_load_67 : decode m_Mo_load.2.1 67 = .ok (.putfield 137, 3) := by decide +kernel
theorem d_Mo_load_70 : decode m_Mo_load.2.1 70 = .ok (.aload_n 0, 1) := by decide +kernel
theorem d_Mo_load_71 : decode m_Mo_load.2.1 71 = .ok (.getfield 13, 3) := by decide +kernel
theorem d_Mo_load_74 : decode m_Mo_load.2.1 74 = .ok (.iconst 0, 1) := by decide +kernel
theorem d_Mo_load_75 : decode m_Mo_load.2.1 75 = .ok (.iaload, 1) := by decide +kernel
theorem d_Mo_load_76 : decode m_Mo_load.2.1 76 = .ok (.aload_n 0, 1) := by decide +kernel
theorem d_Mo_load_77 : decode m_Mo_load.2.1 77 = .ok (.getfield 13, 3) := by decide +kernel
theorem d_Mo_load_80 : decode m_Mo_load.2.1 80 = .ok (.iconst 1, 1) := by decide +kernel
theorem d_Mo_load_81 : decode m_Mo_load.2.1 81 = .ok (.iaload, 1) := by decide +kernel
theorem d_Mo_load_82 : decode m_Mo_load.2.1 82 = .ok (.iadd, 1) := by decide +kernel
theorem d_Mo_load_83 : decode m_Mo_load.2.1 83 = .ok (.ireturn, 1) := by decide +kernel
theorem d_Mo_leads_0 : decode m_Mo_leads.2.1 0 = .ok (.iload_n 1, 1) := by decide +kernel
theorem d_Mo_leads_1 : decode m_Mo_leads.2.1 1 = .ok (.invokestatic 141, 3) := by decide +kernel
theorem d_Mo_leads_4 : decode m_Mo_leads.2.1 4 = .ok (.ifCond .eq 20, 3) := by decide +kernel
theorem d_Mo_leads_7 : decode m_Mo_leads.2.1 7 = .ok (.iload_n 2, 1) := by decide +kernel
theorem d_Mo_leads_8 : decode m_Mo_leads.2.1 8 = .ok (.i2l, 1) := by decide +kernel
theorem d_Mo_leads_9 : decode m_Mo_leads.2.1 9 = .ok (.lconst 0, 1) := by decide +kernel
theorem d_Mo_leads_10 : decode m_Mo_leads.2.1 10 = .ok (.lconst 1, 1) := by decide +kernel
theorem d_Mo_leads_11 : decode m_Mo_leads.2.1 11 = .ok (.invokestatic 109, 3) := by decide +kernel
theorem d_Mo_leads_14 : decode m_Mo_leads.2.1 14 = .ok (.ifCond .eq 10, 3) := by decide +kernel
theorem d_Mo_leads_17 : decode m_Mo_leads.2.1 17 = .ok (.iload_n 3, 1) := by decide +kernel
theorem d_Mo_leads_18 : decode m_Mo_leads.2.1 18 = .ok (.invokestatic 141, 3) := by decide +kernel
theorem d_Mo_leads_21 : decode m_Mo_leads.2.1 21 = .ok (.ifCond .ne 5, 3) := by decide +kernel
theorem d_Mo_leads_24 : decode m_Mo_leads.2.1 24 = .ok (.iconst (-1), 1) := by decide +kernel
theorem d_Mo_leads_25 : decode m_Mo_leads.2.1 25 = .ok (.ireturn, 1) := by decide +kernel
theorem d_Mo_leads_26 : decode m_Mo_leads.2.1 26 = .ok (.aload_n 0, 1) := by decide +kernel
theorem d_Mo_leads_27 : decode m_Mo_leads.2.1 27 = .ok (.getfield 16, 3) := by decide +kernel
theorem d_Mo_leads_30 : decode m_Mo_leads.2.1 30 = .ok (.iconst 3, 1) := by decide +kernel
theorem d_Mo_leads_31 : decode m_Mo_leads.2.1 31 = .ok (.iload_n 2, 1) := by decide +kernel
theorem d_Mo_leads_32 : decode m_Mo_leads.2.1 32 = .ok (.imul, 1) := by decide +kernel
theorem d_Mo_leads_33 : decode m_Mo_leads.2.1 33 = .ok (.iload_n 1, 1) := by decide +kernel
theorem d_Mo_leads_34 : decode m_Mo_leads.2.1 34 = .ok (.iadd, 1) := by decide +kernel
theorem d_Mo_leads_35 : decode m_Mo_leads.2.1 35 = .ok (.iaload, 1) := by decide +kernel
theorem d_Mo_leads_36 : decode m_Mo_leads.2.1 36 = .ok (.istore 4, 2) := by decide +kernel
theorem d_Mo_leads_38 : decode m_Mo_leads.2.1 38 = .ok (.aload_n 0, 1) := by decide +kernel
theorem d_Mo_leads_39 : decode m_Mo_leads.2.1 39 = .ok (.getfield 16, 3) := by decide +kernel
theorem d_Mo_leads_42 : decode m_Mo_leads.2.1 42 = .ok (.iconst 3, 1) := by decide +kernel
theorem d_Mo_leads_43 : decode m_Mo_leads.2.1 43 = .ok (.iload_n 2, 1) := by decide +kernel
theorem d_Mo_leads_44 : decode m_Mo_leads.2.1 44 = .ok (.imul, 1) := by decide +kernel
theorem d_Mo_leads_45 : decode m_Mo_leads.2.1 45 = .ok (.iload_n 1, 1) := by decide +kernel
theorem d_Mo_leads_46 : decode m_Mo_leads.2.1 46 = .ok (.iadd, 1) := by decide +kernel
theorem d_Mo_leads_47 : decode m_Mo_leads.2.1 47 = .ok (.iload_n 3, 1) := by decide +kernel
theorem d_Mo_leads_48 : decode m_Mo_leads.2.1 48 = .ok (.iastore, 1) := by decide +kernel
theorem d_Mo_leads_49 : decode m_Mo_leads.2.1 49 = .ok (.aload_n 0, 1) := by decide +kernel
theorem d_Mo_leads_50 : decode m_Mo_leads.2.1 50 = .ok (.iconst 0, 1) := by decide +kernel
theorem d_Mo_leads_51 : decode m_Mo_leads.2.1 51 = .ok (.putfield 137, 3) := by decide +kernel
theorem d_Mo_leads_54 : decode m_Mo_leads.2.1 54 = .ok (.iload 4, 2) := by decide +kernel
theorem d_Mo_leads_56 : decode m_Mo_leads.2.1 56 = .ok (.ireturn, 1) := by decide +kernel
theorem d_Mo_need_0 : decode m_Mo_need.2.1 0 = .ok (.iload_n 1, 1) := by decide +kernel
theorem d_Mo_need_1 : decode m_Mo_need.2.1 1 = .ok (.invokestatic 141, 3) := by decide +kernel
theorem d_Mo_need_4 : decode m_Mo_need.2.1 4 = .ok (.ifCond .eq 10, 3) := by decide +kernel
theorem d_Mo_need_7 : decode m_Mo_need.2.1 7 = .ok (.iload_n 2, 1) := by decide +kernel
theorem d_Mo_need_8 : decode m_Mo_need.2.1 8 = .ok (.invokestatic 141, 3) := by decide +kernel
theorem d_Mo_need_11 : decode m_Mo_need.2.1 11 = .ok (.ifCond .ne 5, 3) := by decide +kernel
theorem d_Mo_need_14 : decode m_Mo_need.2.1 14 = .ok (.iconst (-1), 1) := by decide +kernel
theorem d_Mo_need_15 : decode m_Mo_need.2.1 15 = .ok (.ireturn, 1) := by decide +kernel
theorem d_Mo_need_16 : decode m_Mo_need.2.1 16 = .ok (.iload_n 3, 1) := by decide +kernel
theorem d_Mo_need_17 : decode m_Mo_need.2.1 17 = .ok (.i2l, 1) := by decide +kernel
theorem d_Mo_need_18 : decode m_Mo_need.2.1 18 = .ok (.lconst 0, 1) := by decide +kernel
theorem d_Mo_need_19 : decode m_Mo_need.2.1 19 = .ok (.ldc2_w 145, 3) := by decide +kernel
theorem d_Mo_need_22 : decode m_Mo_need.2.1 22 = .ok (.invokestatic 109, 3) := by decide +kernel
theorem d_Mo_need_25 : decode m_Mo_need.2.1 25 = .ok (.ifCond .ne 6, 3) := by decide +kernel
theorem d_Mo_need_28 : decode m_Mo_need.2.1 28 = .ok (.bipush (-2), 2) := by decide +kernel
theorem d_Mo_need_30 : decode m_Mo_need.2.1 30 = .ok (.ireturn, 1) := by decide +kernel
theorem d_Mo_need_31 : decode m_Mo_need.2.1 31 = .ok (.aload_n 0, 1) := by decide +kernel
theorem d_Mo_need_32 : decode m_Mo_need.2.1 32 = .ok (.getfield 19, 3) := by decide +kernel
theorem d_Mo_need_35 : decode m_Mo_need.2.1 35 = .ok (.iconst 3, 1) := by decide +kernel
theorem d_Mo_need_36 : decode m_Mo_need.2.1 36 = .ok (.iload_n 1, 1) := by decide +kernel
theorem d_Mo_need_37 : decode m_Mo_need.2.1 37 = .ok (.imul, 1) := by decide +kernel
theorem d_Mo_need_38 : decode m_Mo_need.2.1 38 = .ok (.iload_n 2, 1) := by decide +kernel
theorem d_Mo_need_39 : decode m_Mo_need.2.1 39 = .ok (.iadd, 1) := by decide +kernel
theorem d_Mo_need_40 : decode m_Mo_need.2.1 40 = .ok (.iaload, 1) := by decide +kernel
theorem d_Mo_need_41 : decode m_Mo_need.2.1 41 = .ok (.istore 4, 2) := by decide +kernel
theorem d_Mo_need_43 : decode m_Mo_need.2.1 43 = .ok (.aload_n 0, 1) := by decide +kernel
theorem d_Mo_need_44 : decode m_Mo_need.2.1 44 = .ok (.getfield 19, 3) := by decide +kernel
theorem d_Mo_need_47 : decode m_Mo_need.2.1 47 = .ok (.iconst 3, 1) := by decide +kernel
theorem d_Mo_need_48 : decode m_Mo_need.2.1 48 = .ok (.iload_n 1, 1) := by decide +kernel
theorem d_Mo_need_49 : decode m_Mo_need.2.1 49 = .ok (.imul, 1) := by decide +kernel
theorem d_Mo_need_50 : decode m_Mo_need.2.1 50 = .ok (.iload_n 2, 1) := by decide +kernel
theorem d_Mo_need_51 : decode m_Mo_need.2.1 51 = .ok (.iadd, 1) := by decide +kernel
theorem d_Mo_need_52 : decode m_Mo_need.2.1 52 = .ok (.iload_n 3, 1) := by decide +kernel
theorem d_Mo_need_53 : decode m_Mo_need.2.1 53 = .ok (.iastore, 1) := by decide +kernel
theorem d_Mo_need_54 : decode m_Mo_need.2.1 54 = .ok (.aload_n 0, 1) := by decide +kernel
theorem d_Mo_need_55 : decode m_Mo_need.2.1 55 = .ok (.iconst 0, 1) := by decide +kernel
theorem d_Mo_need_56 : decode m_Mo_need.2.1 56 = .ok (.putfield 137, 3) := by decide +kernel
theorem d_Mo_need_59 : decode m_Mo_need.2.1 59 = .ok (.iload 4, 2) := by decide +kernel
theorem d_Mo_need_61 : decode m_Mo_need.2.1 61 = .ok (.ireturn, 1) := by decide +kernel
theorem d_Mo_isDone_0 : decode m_Mo_isDone.2.1 0 = .ok (.iconst 0, 1) := by decide +kernel
theorem d_Mo_isDone_1 : decode m_Mo_isDone.2.1 1 = .ok (.istore 4, 2) := by decide +kernel
theorem d_Mo_isDone_3 : decode m_Mo_isDone.2.1 3 = .ok (.iconst 0, 1) := by decide +kernel
theorem d_Mo_isDone_4 : decode m_Mo_isDone.2.1 4 = .ok (.istore 5, 2) := by decide +kernel
theorem d_Mo_isDone_6 : decode m_Mo_isDone.2.1 6 = .ok (.iload 5, 2) := by decide +kernel
theorem d_Mo_isDone_8 : decode m_Mo_isDone.2.1 8 = .ok (.aload_n 0, 1) := by decide +kernel
theorem d_Mo_isDone_9 : decode m_Mo_isDone.2.1 9 = .ok (.getfield 147, 3) := by decide +kernel
theorem d_Mo_isDone_12 : decode m_Mo_isDone.2.1 12 = .ok (.if_icmp .ge 64, 3) := by decide +kernel
theorem d_Mo_isDone_15 : decode m_Mo_isDone.2.1 15 = .ok (.iload 4, 2) := by decide +kernel
theorem d_Mo_isDone_17 : decode m_Mo_isDone.2.1 17 = .ok (.ifCond .ne 46, 3) := by decide +kernel
theorem d_Mo_isDone_20 : decode m_Mo_isDone.2.1 20 = .ok (.aload_n 0, 1) := by decide +kernel
theorem d_Mo_isDone_21 : decode m_Mo_isDone.2.1 21 = .ok (.getfield 37, 3) := by decide +kernel
theorem d_Mo_isDone_24 : decode m_Mo_isDone.2.1 24 = .ok (.iconst 3, 1) := by decide +kernel
theorem d_Mo_isDone_25 : decode m_Mo_isDone.2.1 25 = .ok (.iload 5, 2) := by decide +kernel
theorem d_Mo_isDone_27 : decode m_Mo_isDone.2.1 27 = .ok (.imul, 1) := by decide +kernel
theorem d_Mo_isDone_28 : decode m_Mo_isDone.2.1 28 = .ok (.iaload, 1) := by decide +kernel
theorem d_Mo_isDone_29 : decode m_Mo_isDone.2.1 29 = .ok (.iload_n 1, 1) := by decide +kernel
theorem d_Mo_isDone_30 : decode m_Mo_isDone.2.1 30 = .ok (.if_icmp .ne 37, 3) := by decide +kernel
theorem d_Mo_isDone_33 : decode m_Mo_isDone.2.1 33 = .ok (.aload_n 0, 1) := by decide +kernel
theorem d_Mo_isDone_34 : decode m_Mo_isDone.2.1 34 = .ok (.getfield 37, 3) := by decide +kernel
theorem d_Mo_isDone_37 : decode m_Mo_isDone.2.1 37 = .ok (.iconst 3, 1) := by decide +kernel
theorem d_Mo_isDone_38 : decode m_Mo_isDone.2.1 38 = .ok (.iload 5, 2) := by decide +kernel
theorem d_Mo_isDone_40 : decode m_Mo_isDone.2.1 40 = .ok (.imul, 1) := by decide +kernel
theorem d_Mo_isDone_41 : decode m_Mo_isDone.2.1 41 = .ok (.iconst 1, 1) := by decide +kernel
theorem d_Mo_isDone_42 : decode m_Mo_isDone.2.1 42 = .ok (.iadd, 1) := by decide +kernel
theorem d_Mo_isDone_43 : decode m_Mo_isDone.2.1 43 = .ok (.iaload, 1) := by decide +kernel
theorem d_Mo_isDone_44 : decode m_Mo_isDone.2.1 44 = .ok (.iload_n 2, 1) := by decide +kernel
theorem d_Mo_isDone_45 : decode m_Mo_isDone.2.1 45 = .ok (.if_icmp .ne 22, 3) := by decide +kernel
theorem d_Mo_isDone_48 : decode m_Mo_isDone.2.1 48 = .ok (.aload_n 0, 1) := by decide +kernel
theorem d_Mo_isDone_49 : decode m_Mo_isDone.2.1 49 = .ok (.getfield 37, 3) := by decide +kernel
theorem d_Mo_isDone_52 : decode m_Mo_isDone.2.1 52 = .ok (.iconst 3, 1) := by decide +kernel
theorem d_Mo_isDone_53 : decode m_Mo_isDone.2.1 53 = .ok (.iload 5, 2) := by decide +kernel
theorem d_Mo_isDone_55 : decode m_Mo_isDone.2.1 55 = .ok (.imul, 1) := by decide +kernel
theorem d_Mo_isDone_56 : decode m_Mo_isDone.2.1 56 = .ok (.iconst 2, 1) := by decide +kernel
theorem d_Mo_isDone_57 : decode m_Mo_isDone.2.1 57 = .ok (.iadd, 1) := by decide +kernel
theorem d_Mo_isDone_58 : decode m_Mo_isDone.2.1 58 = .ok (.iaload, 1) := by decide +kernel
theorem d_Mo_isDone_59 : decode m_Mo_isDone.2.1 59 = .ok (.iload_n 3, 1) := by decide +kernel
theorem d_Mo_isDone_60 : decode m_Mo_isDone.2.1 60 = .ok (.if_icmp .ne 7, 3) := by decide +kernel
theorem d_Mo_isDone_63 : decode m_Mo_isDone.2.1 63 = .ok (.iconst 1, 1) := by decide +kernel
theorem d_Mo_isDone_64 : decode m_Mo_isDone.2.1 64 = .ok (.goto 4, 3) := by decide +kernel
theorem d_Mo_isDone_67 : decode m_Mo_isDone.2.1 67 = .ok (.iconst 0, 1) := by decide +kernel
theorem d_Mo_isDone_68 : decode m_Mo_isDone.2.1 68 = .ok (.istore 4, 2) := by decide +kernel
theorem d_Mo_isDone_70 : decode m_Mo_isDone.2.1 70 = .ok (.iinc 5 1, 3) := by decide +kernel
theorem d_Mo_isDone_73 : decode m_Mo_isDone.2.1 73 = .ok (.goto (-67), 3) := by decide +kernel
theorem d_Mo_isDone_76 : decode m_Mo_isDone.2.1 76 = .ok (.iload 4, 2) := by decide +kernel
theorem d_Mo_isDone_78 : decode m_Mo_isDone.2.1 78 = .ok (.ireturn, 1) := by decide +kernel
theorem d_Mo_addDone_0 : decode m_Mo_addDone.2.1 0 = .ok (.aload_n 0, 1) := by decide +kernel
theorem d_Mo_addDone_1 : decode m_Mo_addDone.2.1 1 = .ok (.iload_n 1, 1) := by decide +kernel
theorem d_Mo_addDone_2 : decode m_Mo_addDone.2.1 2 = .ok (.iload_n 2, 1) := by decide +kernel
theorem d_Mo_addDone_3 : decode m_Mo_addDone.2.1 3 = .ok (.iload_n 3, 1) := by decide +kernel
theorem d_Mo_addDone_4 : decode m_Mo_addDone.2.1 4 = .ok (.invokevirtual 150, 3) := by decide +kernel
theorem d_Mo_addDone_7 : decode m_Mo_addDone.2.1 7 = .ok (.ifCond .ne 75, 3) := by decide +kernel
theorem d_Mo_addDone_10 : decode m_Mo_addDone.2.1 10 = .ok (.aload_n 0, 1) := by decide +kernel
theorem d_Mo_addDone_11 : decode m_Mo_addDone.2.1 11 = .ok (.getfield 37, 3) := by decide +kernel
theorem d_Mo_addDone_14 : decode m_Mo_addDone.2.1 14 = .ok (.iconst 3, 1) := by decide +kernel
theorem d_Mo_addDone_15 : decode m_Mo_addDone.2.1 15 = .ok (.aload_n 0, 1) := by decide +kernel
theorem d_Mo_addDone_16 : decode m_Mo_addDone.2.1 16 = .ok (.getfield 147, 3) := by decide +kernel
theorem d_Mo_addDone_19 : decode m_Mo_addDone.2.1 19 = .ok (.imul, 1) := by decide +kernel
theorem d_Mo_addDone_20 : decode m_Mo_addDone.2.1 20 = .ok (.iload_n 1, 1) := by decide +kernel
theorem d_Mo_addDone_21 : decode m_Mo_addDone.2.1 21 = .ok (.iastore, 1) := by decide +kernel
theorem d_Mo_addDone_22 : decode m_Mo_addDone.2.1 22 = .ok (.aload_n 0, 1) := by decide +kernel
theorem d_Mo_addDone_23 : decode m_Mo_addDone.2.1 23 = .ok (.getfield 37, 3) := by decide +kernel
theorem d_Mo_addDone_26 : decode m_Mo_addDone.2.1 26 = .ok (.iconst 3, 1) := by decide +kernel
theorem d_Mo_addDone_27 : decode m_Mo_addDone.2.1 27 = .ok (.aload_n 0, 1) := by decide +kernel
theorem d_Mo_addDone_28 : decode m_Mo_addDone.2.1 28 = .ok (.getfield 147, 3) := by decide +kernel
theorem d_Mo_addDone_31 : decode m_Mo_addDone.2.1 31 = .ok (.imul, 1) := by decide +kernel
theorem d_Mo_addDone_32 : decode m_Mo_addDone.2.1 32 = .ok (.iconst 1, 1) := by decide +kernel
theorem d_Mo_addDone_33 : decode m_Mo_addDone.2.1 33 = .ok (.iadd, 1) := by decide +kernel
theorem d_Mo_addDone_34 : decode m_Mo_addDone.2.1 34 = .ok (.iload_n 2, 1) := by decide +kernel
theorem d_Mo_addDone_35 : decode m_Mo_addDone.2.1 35 = .ok (.iastore, 1) := by decide +kernel
theorem d_Mo_addDone_36 : decode m_Mo_addDone.2.1 36 = .ok (.aload_n 0, 1) := by decide +kernel
theorem d_Mo_addDone_37 : decode m_Mo_addDone.2.1 37 = .ok (.getfield 37, 3) := by decide +kernel
theorem d_Mo_addDone_40 : decode m_Mo_addDone.2.1 40 = .ok (.iconst 3, 1) := by decide +kernel
theorem d_Mo_addDone_41 : decode m_Mo_addDone.2.1 41 = .ok (.aload_n 0, 1) := by decide +kernel
theorem d_Mo_addDone_42 : decode m_Mo_addDone.2.1 42 = .ok (.getfield 147, 3) := by decide +kernel
theorem d_Mo_addDone_45 : decode m_Mo_addDone.2.1 45 = .ok (.imul, 1) := by decide +kernel
theorem d_Mo_addDone_46 : decode m_Mo_addDone.2.1 46 = .ok (.iconst 2, 1) := by decide +kernel
theorem d_Mo_addDone_47 : decode m_Mo_addDone.2.1 47 = .ok (.iadd, 1) := by decide +kernel
theorem d_Mo_addDone_48 : decode m_Mo_addDone.2.1 48 = .ok (.iload_n 3, 1) := by decide +kernel
theorem d_Mo_addDone_49 : decode m_Mo_addDone.2.1 49 = .ok (.iastore, 1) := by decide +kernel
theorem d_Mo_addDone_50 : decode m_Mo_addDone.2.1 50 = .ok (.aload_n 0, 1) := by decide +kernel
theorem d_Mo_addDone_51 : decode m_Mo_addDone.2.1 51 = .ok (.getfield 40, 3) := by decide +kernel
theorem d_Mo_addDone_54 : decode m_Mo_addDone.2.1 54 = .ok (.aload_n 0, 1) := by decide +kernel
theorem d_Mo_addDone_55 : decode m_Mo_addDone.2.1 55 = .ok (.getfield 147, 3) := by decide +kernel
theorem d_Mo_addDone_58 : decode m_Mo_addDone.2.1 58 = .ok (.iload 4, 2) := by decide +kernel
theorem d_Mo_addDone_60 : decode m_Mo_addDone.2.1 60 = .ok (.iastore, 1) := by decide +kernel
theorem d_Mo_addDone_61 : decode m_Mo_addDone.2.1 61 = .ok (.aload_n 0, 1) := by decide +kernel
theorem d_Mo_addDone_62 : decode m_Mo_addDone.2.1 62 = .ok (.getfield 43, 3) := by decide +kernel
theorem d_Mo_addDone_65 : decode m_Mo_addDone.2.1 65 = .ok (.aload_n 0, 1) := by decide +kernel
theorem d_Mo_addDone_66 : decode m_Mo_addDone.2.1 66 = .ok (.getfield 147, 3) := by decide +kernel
theorem d_Mo_addDone_69 : decode m_Mo_addDone.2.1 69 = .ok (.iload 5, 2) := by decide +kernel
theorem d_Mo_addDone_71 : decode m_Mo_addDone.2.1 71 = .ok (.iastore, 1) := by decide +kernel
theorem d_Mo_addDone_72 : decode m_Mo_addDone.2.1 72 = .ok (.aload_n 0, 1) := by decide +kernel
theorem d_Mo_addDone_73 : decode m_Mo_addDone.2.1 73 = .ok (.dup, 1) := by decide +kernel
theorem d_Mo_addDone_74 : decode m_Mo_addDone.2.1 74 = .ok (.getfield 147, 3) := by decide +kernel
theorem d_Mo_addDone_77 : decode m_Mo_addDone.2.1 77 = .ok (.iconst 1, 1) := by decide +kernel
theorem d_Mo_addDone_78 : decode m_Mo_addDone.2.1 78 = .ok (.iadd, 1) := by decide +kernel
theorem d_Mo_addDone_79 : decode m_Mo_addDone.2.1 79 = .ok (.putfield 147, 3) := by decide +kernel
theorem d_Mo_addDone_82 : decode m_Mo_addDone.2.1 82 = .ok (.return_, 1) := by decide +kernel
theorem d_Mo_findDone_0 : decode m_Mo_findDone.2.1 0 = .ok (.aload_n 0, 1) := by decide +kernel
theorem d_Mo_findDone_1 : decode m_Mo_findDone.2.1 1 = .ok (.iconst 0, 1) := by decide +kernel
theorem d_Mo_findDone_2 : decode m_Mo_findDone.2.1 2 = .ok (.putfield 147, 3) := by decide +kernel
theorem d_Mo_findDone_5 : decode m_Mo_findDone.2.1 5 = .ok (.aload_n 0, 1) := by decide +kernel
theorem d_Mo_findDone_6 : decode m_Mo_findDone.2.1 6 = .ok (.iconst 0, 1) := by decide +kernel
theorem d_Mo_findDone_7 : decode m_Mo_findDone.2.1 7 = .ok (.iconst 1, 1) := by decide +kernel
theorem d_Mo_findDone_8 : decode m_Mo_findDone.2.1 8 = .ok (.iconst 2, 1) := by decide +kernel
theorem d_Mo_findDone_9 : decode m_Mo_findDone.2.1 9 = .ok (.iconst 0, 1) := by decide +kernel
theorem d_Mo_findDone_10 : decode m_Mo_findDone.2.1 10 = .ok (.iconst 0, 1) := by decide +kernel
theorem d_Mo_findDone_11 : decode m_Mo_findDone.2.1 11 = .ok (.invokevirtual 154, 3) := by decide +kernel
theorem d_Mo_findDone_14 : decode m_Mo_findDone.2.1 14 = .ok (.iconst 0, 1) := by decide +kernel
theorem d_Mo_findDone_15 : decode m_Mo_findDone.2.1 15 = .ok (.istore_n 1, 1) := by decide +kernel
theorem d_Mo_findDone_16 : decode m_Mo_findDone.2.1 16 = .ok (.iload_n 1, 1) := by decide +kernel
theorem d_Mo_findDone_17 : decode m_Mo_findDone.2.1 17 = .ok (.aload_n 0, 1) := by decide +kernel
theorem d_Mo_findDone_18 : decode m_Mo_findDone.2.1 18 = .ok (.getfield 147, 3) := by decide +kernel
theorem d_Mo_findDone_21 : decode m_Mo_findDone.2.1 21 = .ok (.if_icmp .ge 102, 3) := by decide +kernel
theorem d_Mo_findDone_24 : decode m_Mo_findDone.2.1 24 = .ok (.iconst 0, 1) := by decide +kernel
theorem d_Mo_findDone_25 : decode m_Mo_findDone.2.1 25 = .ok (.istore_n 2, 1) := by decide +kernel
theorem d_Mo_findDone_26 : decode m_Mo_findDone.2.1 26 = .ok (.iload_n 2, 1) := by decide +kernel
theorem d_Mo_findDone_27 : decode m_Mo_findDone.2.1 27 = .ok (.iconst 2, 1) := by decide +kernel
theorem d_Mo_findDone_28 : decode m_Mo_findDone.2.1 28 = .ok (.if_icmp .ge 89, 3) := by decide +kernel
theorem d_Mo_findDone_31 : decode m_Mo_findDone.2.1 31 = .ok (.iconst 3, 1) := by decide +kernel
theorem d_Mo_findDone_32 : decode m_Mo_findDone.2.1 32 = .ok (.iload_n 2, 1) := by decide +kernel
theorem d_Mo_findDone_33 : decode m_Mo_findDone.2.1 33 = .ok (.imul, 1) := by decide +kernel
theorem d_Mo_findDone_34 : decode m_Mo_findDone.2.1 34 = .ok (.istore_n 3, 1) := by decide +kernel
theorem d_Mo_findDone_35 : decode m_Mo_findDone.2.1 35 = .ok (.aload_n 0, 1) := by decide +kernel
theorem d_Mo_findDone_36 : decode m_Mo_findDone.2.1 36 = .ok (.aload_n 0, 1) := by decide +kernel
theorem d_Mo_findDone_37 : decode m_Mo_findDone.2.1 37 = .ok (.getfield 16, 3) := by decide +kernel
theorem d_Mo_findDone_40 : decode m_Mo_findDone.2.1 40 = .ok (.iload_n 3, 1) := by decide +kernel
theorem d_Mo_findDone_41 : decode m_Mo_findDone.2.1 41 = .ok (.aload_n 0, 1) := by decide +kernel
theorem d_Mo_findDone_42 : decode m_Mo_findDone.2.1 42 = .ok (.getfield 37, 3) := by decide +kernel
theorem d_Mo_findDone_45 : decode m_Mo_findDone.2.1 45 = .ok (.iconst 3, 1) := by decide +kernel
theorem d_Mo_findDone_46 : decode m_Mo_findDone.2.1 46 = .ok (.iload_n 1, 1) := by decide +kernel
theorem d_Mo_findDone_47 : decode m_Mo_findDone.2.1 47 = .ok (.imul, 1) := by decide +kernel
theorem d_Mo_findDone_48 : decode m_Mo_findDone.2.1 48 = .ok (.iaload, 1) := by decide +kernel
theorem d_Mo_findDone_49 : decode m_Mo_findDone.2.1 49 = .ok (.iadd, 1) := by decide +kernel
theorem d_Mo_findDone_50 : decode m_Mo_findDone.2.1 50 = .ok (.iaload, 1) := by decide +kernel
theorem d_Mo_findDone_51 : decode m_Mo_findDone.2.1 51 = .ok (.aload_n 0, 1) := by decide +kernel
theorem d_Mo_findDone_52 : decode m_Mo_findDone.2.1 52 = .ok (.getfield 16, 3) := by decide +kernel
theorem d_Mo_findDone_55 : decode m_Mo_findDone.2.1 55 = .ok (.iload_n 3, 1) := by decide +kernel
theorem d_Mo_findDone_56 : decode m_Mo_findDone.2.1 56 = .ok (.aload_n 0, 1) := by decide +kernel
theorem d_Mo_findDone_57 : decode m_Mo_findDone.2.1 57 = .ok (.getfield 37, 3) := by decide +kernel
theorem d_Mo_findDone_60 : decode m_Mo_findDone.2.1 60 = .ok (.iconst 3, 1) := by decide +kernel
theorem d_Mo_findDone_61 : decode m_Mo_findDone.2.1 61 = .ok (.iload_n 1, 1) := by decide +kernel
theorem d_Mo_findDone_62 : decode m_Mo_findDone.2.1 62 = .ok (.imul, 1) := by decide +kernel
theorem d_Mo_findDone_63 : decode m_Mo_findDone.2.1 63 = .ok (.iconst 1, 1) := by decide +kernel
theorem d_Mo_findDone_64 : decode m_Mo_findDone.2.1 64 = .ok (.iadd, 1) := by decide +kernel
theorem d_Mo_findDone_65 : decode m_Mo_findDone.2.1 65 = .ok (.iaload, 1) := by decide +kernel
theorem d_Mo_findDone_66 : decode m_Mo_findDone.2.1 66 = .ok (.iadd, 1) := by decide +kernel
theorem d_Mo_findDone_67 : decode m_Mo_findDone.2.1 67 = .ok (.iaload, 1) := by decide +kernel
theorem d_Mo_findDone_68 : decode m_Mo_findDone.2.1 68 = .ok (.aload_n 0, 1) := by decide +kernel
theorem d_Mo_findDone_69 : decode m_Mo_findDone.2.1 69 = .ok (.getfield 16, 3) := by decide +kernel
theorem d_Mo_findDone_72 : decode m_Mo_findDone.2.1 72 = .ok (.iload_n 3, 1) := by decide +kernel
theorem d_Mo_findDone_73 : decode m_Mo_findDone.2.1 73 = .ok (.aload_n 0, 1) := by decide +kernel
theorem d_Mo_findDone_74 : decode m_Mo_findDone.2.1 74 = .ok (.getfield 37, 3) := by decide +kernel
theorem d_Mo_findDone_77 : decode m_Mo_findDone.2.1 77 = .ok (.iconst 3, 1) := by decide +kernel
theorem d_Mo_findDone_78 : decode m_Mo_findDone.2.1 78 = .ok (.iload_n 1, 1) := by decide +kernel
theorem d_Mo_findDone_79 : decode m_Mo_findDone.2.1 79 = .ok (.imul, 1) := by decide +kernel
theorem d_Mo_findDone_80 : decode m_Mo_findDone.2.1 80 = .ok (.iconst 2, 1) := by decide +kernel
theorem d_Mo_findDone_81 : decode m_Mo_findDone.2.1 81 = .ok (.iadd, 1) := by decide +kernel
theorem d_Mo_findDone_82 : decode m_Mo_findDone.2.1 82 = .ok (.iaload, 1) := by decide +kernel
theorem d_Mo_findDone_83 : decode m_Mo_findDone.2.1 83 = .ok (.iadd, 1) := by decide +kernel
theorem d_Mo_findDone_84 : decode m_Mo_findDone.2.1 84 = .ok (.iaload, 1) := by decide +kernel
theorem d_Mo_findDone_85 : decode m_Mo_findDone.2.1 85 = .ok (.aload_n 0, 1) := by decide +kernel
theorem d_Mo_findDone_86 : decode m_Mo_findDone.2.1 86 = .ok (.getfield 40, 3) := by decide +kernel
theorem d_Mo_findDone_89 : decode m_Mo_findDone.2.1 89 = .ok (.iload_n 1, 1) := by decide +kernel
theorem d_Mo_findDone_90 : decode m_Mo_findDone.2.1 90 = .ok (.iaload, 1) := by decide +kernel
theorem d_Mo_findDone_91 : decode m_Mo_findDone.2.1 91 = .ok (.iload_n 2, 1) := by decide +kernel
theorem d_Mo_findDone_92 : decode m_Mo_findDone.2.1 92 = .ok (.aload_n 0, 1) := by decide +kernel
theorem d_Mo_findDone_93 : decode m_Mo_findDone.2.1 93 = .ok (.getfield 43, 3) := by decide +kernel
theorem d_Mo_findDone_96 : decode m_Mo_findDone.2.1 96 = .ok (.iload_n 1, 1) := by decide +kernel
theorem d_Mo_findDone_97 : decode m_Mo_findDone.2.1 97 = .ok (.iaload, 1) := by decide +kernel
theorem d_Mo_findDone_98 : decode m_Mo_findDone.2.1 98 = .ok (.ishl, 1) := by decide +kernel
theorem d_Mo_findDone_99 : decode m_Mo_findDone.2.1 99 = .ok (.ior, 1) := by decide +kernel
theorem d_Mo_findDone_100 : decode m_Mo_findDone.2.1 100 = .ok (.aload_n 0, 1) := by decide +kernel
theorem d_Mo_findDone_101 : decode m_Mo_findDone.2.1 101 = .ok (.getfield 43, 3) := by decide +kernel
theorem d_Mo_findDone_104 : decode m_Mo_findDone.2.1 104 = .ok (.iload_n 1, 1) := by decide +kernel
theorem d_Mo_findDone_105 : decode m_Mo_findDone.2.1 105 = .ok (.iaload, 1) := by decide +kernel
theorem d_Mo_findDone_106 : decode m_Mo_findDone.2.1 106 = .ok (.iconst 1, 1) := by decide +kernel
theorem d_Mo_findDone_107 : decode m_Mo_findDone.2.1 107 = .ok (.iadd, 1) := by decide +kernel
theorem d_Mo_findDone_108 : decode m_Mo_findDone.2.1 108 = .ok (.invokevirtual 154, 3) := by decide +kernel
theorem d_Mo_findDone_111 : decode m_Mo_findDone.2.1 111 = .ok (.iinc 2 1, 3) := by decide +kernel
theorem d_Mo_findDone_114 : decode m_Mo_findDone.2.1 114 = .ok (.goto (-88), 3) := by decide +kernel
theorem d_Mo_findDone_117 : decode m_Mo_findDone.2.1 117 = .ok (.iinc 1 1, 3) := by decide +kernel
theorem d_Mo_findDone_120 : decode m_Mo_findDone.2.1 120 = .ok (.goto (-104), 3) := by decide +kernel
theorem d_Mo_findDone_123 : decode m_Mo_findDone.2.1 123 = .ok (.return_, 1) := by decide +kernel
theorem d_Mo_firstFor_0 : decode m_Mo_firstFor.2.1 0 = .ok (.iconst 0, 1) := by decide +kernel
theorem d_Mo_firstFor_1 : decode m_Mo_firstFor.2.1 1 = .ok (.istore_n 3, 1) := by decide +kernel
theorem d_Mo_firstFor_2 : decode m_Mo_firstFor.2.1 2 = .ok (.iload_n 3, 1) := by decide +kernel
theorem d_Mo_firstFor_3 : decode m_Mo_firstFor.2.1 3 = .ok (.aload_n 0, 1) := by decide +kernel
theorem d_Mo_firstFor_4 : decode m_Mo_firstFor.2.1 4 = .ok (.getfield 147, 3) := by decide +kernel
theorem d_Mo_firstFor_7 : decode m_Mo_firstFor.2.1 7 = .ok (.if_icmp .ge 70, 3) := by decide +kernel
theorem d_Mo_firstFor_10 : decode m_Mo_firstFor.2.1 10 = .ok (.aload_n 1, 1) := by decide +kernel
theorem d_Mo_firstFor_11 : decode m_Mo_firstFor.2.1 11 = .ok (.iload_n 2, 1) := by decide +kernel
theorem d_Mo_firstFor_12 : decode m_Mo_firstFor.2.1 12 = .ok (.iaload, 1) := by decide +kernel
theorem d_Mo_firstFor_13 : decode m_Mo_firstFor.2.1 13 = .ok (.aload_n 0, 1) := by decide +kernel
theorem d_Mo_firstFor_14 : decode m_Mo_firstFor.2.1 14 = .ok (.getfield 37, 3) := by decide +kernel
theorem d_Mo_firstFor_17 : decode m_Mo_firstFor.2.1 17 = .ok (.iconst 3, 1) := by decide +kernel
theorem d_Mo_firstFor_18 : decode m_Mo_firstFor.2.1 18 = .ok (.iload_n 3, 1) := by decide +kernel
theorem d_Mo_firstFor_19 : decode m_Mo_firstFor.2.1 19 = .ok (.imul, 1) := by decide +kernel
theorem d_Mo_firstFor_20 : decode m_Mo_firstFor.2.1 20 = .ok (.iaload, 1) := by decide +kernel
theorem d_Mo_firstFor_21 : decode m_Mo_firstFor.2.1 21 = .ok (.invokestatic 158, 3) := by decide +kernel
theorem d_Mo_firstFor_24 : decode m_Mo_firstFor.2.1 24 = .ok (.ifCond .eq 47, 3) := by decide +kernel
theorem d_Mo_firstFor_27 : decode m_Mo_firstFor.2.1 27 = .ok (.aload_n 1, 1) := by decide +kernel
theorem d_Mo_firstFor_28 : decode m_Mo_firstFor.2.1 28 = .ok (.iload_n 2, 1) := by decide +kernel
theorem d_Mo_firstFor_29 : decode m_Mo_firstFor.2.1 29 = .ok (.iconst 1, 1) := by decide +kernel
theorem d_Mo_firstFor_30 : decode m_Mo_firstFor.2.1 30 = .ok (.iadd, 1) := by decide +kernel
theorem d_Mo_firstFor_31 : decode m_Mo_firstFor.2.1 31 = .ok (.iaload, 1) := by decide +kernel
theorem d_Mo_firstFor_32 : decode m_Mo_firstFor.2.1 32 = .ok (.aload_n 0, 1) := by decide +kernel
theorem d_Mo_firstFor_33 : decode m_Mo_firstFor.2.1 33 = .ok (.getfield 37, 3) := by decide +kernel
theorem d_Mo_firstFor_36 : decode m_Mo_firstFor.2.1 36 = .ok (.iconst 3, 1) := by decide +kernel
theorem d_Mo_firstFor_37 : decode m_Mo_firstFor.2.1 37 = .ok (.iload_n 3, 1) := by decide +kernel
theorem d_Mo_firstFor_38 : decode m_Mo_firstFor.2.1 38 = .ok (.imul, 1) := by decide +kernel
theorem d_Mo_firstFor_39 : decode m_Mo_firstFor.2.1 39 = .ok (.iconst 1, 1) := by decide +kernel
theorem d_Mo_firstFor_40 : decode m_Mo_firstFor.2.1 40 = .ok (.iadd, 1) := by decide +kernel
theorem d_Mo_firstFor_41 : decode m_Mo_firstFor.2.1 41 = .ok (.iaload, 1) := by decide +kernel
theorem d_Mo_firstFor_42 : decode m_Mo_firstFor.2.1 42 = .ok (.invokestatic 158, 3) := by decide +kernel
theorem d_Mo_firstFor_45 : decode m_Mo_firstFor.2.1 45 = .ok (.ifCond .eq 26, 3) := by decide +kernel
theorem d_Mo_firstFor_48 : decode m_Mo_firstFor.2.1 48 = .ok (.aload_n 1, 1) := by decide +kernel
theorem d_Mo_firstFor_49 : decode m_Mo_firstFor.2.1 49 = .ok (.iload_n 2, 1) := by decide +kernel
theorem d_Mo_firstFor_50 : decode m_Mo_firstFor.2.1 50 = .ok (.iconst 2, 1) := by decide +kernel
theorem d_Mo_firstFor_51 : decode m_Mo_firstFor.2.1 51 = .ok (.iadd, 1) := by decide +kernel
theorem d_Mo_firstFor_52 : decode m_Mo_firstFor.2.1 52 = .ok (.iaload, 1) := by decide +kernel
theorem d_Mo_firstFor_53 : decode m_Mo_firstFor.2.1 53 = .ok (.aload_n 0, 1) := by decide +kernel
theorem d_Mo_firstFor_54 : decode m_Mo_firstFor.2.1 54 = .ok (.getfield 37, 3) := by decide +kernel
theorem d_Mo_firstFor_57 : decode m_Mo_firstFor.2.1 57 = .ok (.iconst 3, 1) := by decide +kernel
theorem d_Mo_firstFor_58 : decode m_Mo_firstFor.2.1 58 = .ok (.iload_n 3, 1) := by decide +kernel
theorem d_Mo_firstFor_59 : decode m_Mo_firstFor.2.1 59 = .ok (.imul, 1) := by decide +kernel
theorem d_Mo_firstFor_60 : decode m_Mo_firstFor.2.1 60 = .ok (.iconst 2, 1) := by decide +kernel
theorem d_Mo_firstFor_61 : decode m_Mo_firstFor.2.1 61 = .ok (.iadd, 1) := by decide +kernel
theorem d_Mo_firstFor_62 : decode m_Mo_firstFor.2.1 62 = .ok (.iaload, 1) := by decide +kernel
theorem d_Mo_firstFor_63 : decode m_Mo_firstFor.2.1 63 = .ok (.invokestatic 158, 3) := by decide +kernel
theorem d_Mo_firstFor_66 : decode m_Mo_firstFor.2.1 66 = .ok (.ifCond .eq 5, 3) := by decide +kernel
theorem d_Mo_firstFor_69 : decode m_Mo_firstFor.2.1 69 = .ok (.iload_n 3, 1) := by decide +kernel
theorem d_Mo_firstFor_70 : decode m_Mo_firstFor.2.1 70 = .ok (.ireturn, 1) := by decide +kernel
theorem d_Mo_firstFor_71 : decode m_Mo_firstFor.2.1 71 = .ok (.iinc 3 1, 3) := by decide +kernel
theorem d_Mo_firstFor_74 : decode m_Mo_firstFor.2.1 74 = .ok (.goto (-72), 3) := by decide +kernel
theorem d_Mo_firstFor_77 : decode m_Mo_firstFor.2.1 77 = .ok (.bipush (-6), 2) := by decide +kernel
theorem d_Mo_firstFor_79 : decode m_Mo_firstFor.2.1 79 = .ok (.ireturn, 1) := by decide +kernel
theorem d_Mo_brief_0 : decode m_Mo_brief.2.1 0 = .ok (.iload_n 1, 1) := by decide +kernel
theorem d_Mo_brief_1 : decode m_Mo_brief.2.1 1 = .ok (.invokestatic 141, 3) := by decide +kernel
theorem d_Mo_brief_4 : decode m_Mo_brief.2.1 4 = .ok (.ifCond .ne 5, 3) := by decide +kernel
theorem d_Mo_brief_7 : decode m_Mo_brief.2.1 7 = .ok (.iconst (-1), 1) := by decide +kernel
theorem d_Mo_brief_8 : decode m_Mo_brief.2.1 8 = .ok (.ireturn, 1) := by decide +kernel
theorem d_Mo_brief_9 : decode m_Mo_brief.2.1 9 = .ok (.aload_n 0, 1) := by decide +kernel
theorem d_Mo_brief_10 : decode m_Mo_brief.2.1 10 = .ok (.invokevirtual 162, 3) := by decide +kernel
theorem d_Mo_brief_13 : decode m_Mo_brief.2.1 13 = .ok (.aload_n 0, 1) := by decide +kernel
theorem d_Mo_brief_14 : decode m_Mo_brief.2.1 14 = .ok (.aload_n 0, 1) := by decide +kernel
theorem d_Mo_brief_15 : decode m_Mo_brief.2.1 15 = .ok (.getfield 19, 3) := by decide +kernel
theorem d_Mo_brief_18 : decode m_Mo_brief.2.1 18 = .ok (.iconst 3, 1) := by decide +kernel
theorem d_Mo_brief_19 : decode m_Mo_brief.2.1 19 = .ok (.iload_n 1, 1) := by decide +kernel
theorem d_Mo_brief_20 : decode m_Mo_brief.2.1 20 = .ok (.imul, 1) := by decide +kernel
theorem d_Mo_brief_21 : decode m_Mo_brief.2.1 21 = .ok (.invokevirtual 165, 3) := by decide +kernel
theorem d_Mo_brief_24 : decode m_Mo_brief.2.1 24 = .ok (.istore_n 3, 1) := by decide +kernel
theorem d_Mo_brief_25 : decode m_Mo_brief.2.1 25 = .ok (.iload_n 3, 1) := by decide +kernel
theorem d_Mo_brief_26 : decode m_Mo_brief.2.1 26 = .ok (.ifCond .ge 6, 3) := by decide +kernel
theorem d_Mo_brief_29 : decode m_Mo_brief.2.1 29 = .ok (.bipush (-6), 2) := by decide +kernel
theorem d_Mo_brief_31 : decode m_Mo_brief.2.1 31 = .ok (.ireturn, 1) := by decide +kernel
theorem d_Mo_brief_32 : decode m_Mo_brief.2.1 32 = .ok (.iload_n 2, 1) := by decide +kernel
theorem d_Mo_brief_33 : decode m_Mo_brief.2.1 33 = .ok (.iconst (-1), 1) := by decide +kernel
theorem d_Mo_brief_34 : decode m_Mo_brief.2.1 34 = .ok (.if_icmp .ne 12, 3) := by decide +kernel
theorem d_Mo_brief_37 : decode m_Mo_brief.2.1 37 = .ok (.aload_n 0, 1) := by decide +kernel
theorem d_Mo_brief_38 : decode m_Mo_brief.2.1 38 = .ok (.getfield 43, 3) := by decide +kernel
theorem d_Mo_brief_41 : decode m_Mo_brief.2.1 41 = .ok (.iload_n 3, 1) := by decide +kernel
theorem d_Mo_brief_42 : decode m_Mo_brief.2.1 42 = .ok (.iaload, 1) := by decide +kernel
theorem d_Mo_brief_43 : decode m_Mo_brief.2.1 43 = .ok (.goto 36, 3) := by decide +kernel
theorem d_Mo_brief_46 : decode m_Mo_brief.2.1 46 = .ok (.iload_n 2, 1) := by decide +kernel
theorem d_Mo_brief_47 : decode m_Mo_brief.2.1 47 = .ok (.i2l, 1) := by decide +kernel
theorem d_Mo_brief_48 : decode m_Mo_brief.2.1 48 = .ok (.lconst 0, 1) := by decide +kernel
theorem d_Mo_brief_49 : decode m_Mo_brief.2.1 49 = .ok (.aload_n 0, 1) := by decide +kernel
theorem d_Mo_brief_50 : decode m_Mo_brief.2.1 50 = .ok (.getfield 43, 3) := by decide +kernel
theorem d_Mo_brief_53 : decode m_Mo_brief.2.1 53 = .ok (.iload_n 3, 1) := by decide +kernel
theorem d_Mo_brief_54 : decode m_Mo_brief.2.1 54 = .ok (.iaload, 1) := by decide +kernel
theorem d_Mo_brief_55 : decode m_Mo_brief.2.1 55 = .ok (.iconst 1, 1) := by decide +kernel
theorem d_Mo_brief_56 : decode m_Mo_brief.2.1 56 = .ok (.isub, 1) := by decide +kernel
theorem d_Mo_brief_57 : decode m_Mo_brief.2.1 57 = .ok (.i2l, 1) := by decide +kernel
theorem d_Mo_brief_58 : decode m_Mo_brief.2.1 58 = .ok (.invokestatic 109, 3) := by decide +kernel
theorem d_Mo_brief_61 : decode m_Mo_brief.2.1 61 = .ok (.ifCond .eq 16, 3) := by decide +kernel
theorem d_Mo_brief_64 : decode m_Mo_brief.2.1 64 = .ok (.aload_n 0, 1) := by decide +kernel
theorem d_Mo_brief_65 : decode m_Mo_brief.2.1 65 = .ok (.getfield 40, 3) := by decide +kernel
theorem d_Mo_brief_68 : decode m_Mo_brief.2.1 68 = .ok (.iload_n 3, 1) := by decide +kernel
theorem d_Mo_brief_69 : decode m_Mo_brief.2.1 69 = .ok (.iaload, 1) := by decide +kernel
theorem d_Mo_brief_70 : decode m_Mo_brief.2.1 70 = .ok (.iload_n 2, 1) := by decide +kernel
theorem d_Mo_brief_71 : decode m_Mo_brief.2.1 71 = .ok (.ishr, 1) := by decide +kernel
theorem d_Mo_brief_72 : decode m_Mo_brief.2.1 72 = .ok (.iconst 1, 1) := by decide +kernel
theorem d_Mo_brief_73 : decode m_Mo_brief.2.1 73 = .ok (.iand, 1) := by decide +kernel
theorem d_Mo_brief_74 : decode m_Mo_brief.2.1 74 = .ok (.goto 5, 3) := by decide +kernel
theorem d_Mo_brief_77 : decode m_Mo_brief.2.1 77 = .ok (.bipush (-6), 2) := by decide +kernel
theorem d_Mo_brief_79 : decode m_Mo_brief.2.1 79 = .ok (.ireturn, 1) := by decide +kernel
theorem d_Mo_dropFirst_0 : decode m_Mo_dropFirst.2.1 0 = .ok (.iconst 0, 1) := by decide +kernel
theorem d_Mo_dropFirst_1 : decode m_Mo_dropFirst.2.1 1 = .ok (.istore_n 1, 1) := by decide +kernel
theorem d_Mo_dropFirst_2 : decode m_Mo_dropFirst.2.1 2 = .ok (.iload_n 1, 1) := by decide +kernel
theorem d_Mo_dropFirst_3 : decode m_Mo_dropFirst.2.1 3 = .ok (.iconst 2, 1) := by decide +kernel
theorem d_Mo_dropFirst_4 : decode m_Mo_dropFirst.2.1 4 = .ok (.if_icmp .ge 61, 3) := by decide +kernel
theorem d_Mo_dropFirst_7 : decode m_Mo_dropFirst.2.1 7 = .ok (.aload_n 0, 1) := by decide +kernel
theorem d_Mo_dropFirst_8 : decode m_Mo_dropFirst.2.1 8 = .ok (.getfield 71, 3) := by decide +kernel
theorem d_Mo_dropFirst_11 : decode m_Mo_dropFirst.2.1 11 = .ok (.iload_n 1, 1) := by decide +kernel
theorem d_Mo_dropFirst_12 : decode m_Mo_dropFirst.2.1 12 = .ok (.dup2, 1) := by decide +kernel
theorem d_Mo_dropFirst_13 : decode m_Mo_dropFirst.2.1 13 = .ok (.iaload, 1) := by decide +kernel
theorem d_Mo_dropFirst_14 : decode m_Mo_dropFirst.2.1 14 = .ok (.iconst 1, 1) := by decide +kernel
theorem d_Mo_dropFirst_15 : decode m_Mo_dropFirst.2.1 15 = .ok (.isub, 1) := by decide +kernel
theorem d_Mo_dropFirst_16 : decode m_Mo_dropFirst.2.1 16 = .ok (.iastore, 1) := by decide +kernel
theorem d_Mo_dropFirst_17 : decode m_Mo_dropFirst.2.1 17 = .ok (.iconst 0, 1) := by decide +kernel
theorem d_Mo_dropFirst_18 : decode m_Mo_dropFirst.2.1 18 = .ok (.istore_n 2, 1) := by decide +kernel
theorem d_Mo_dropFirst_19 : decode m_Mo_dropFirst.2.1 19 = .ok (.iload_n 2, 1) := by decide +kernel
theorem d_Mo_dropFirst_20 : decode m_Mo_dropFirst.2.1 20 = .ok (.aload_n 0, 1) := by decide +kernel
theorem d_Mo_dropFirst_21 : decode m_Mo_dropFirst.2.1 21 = .ok (.getfield 71, 3) := by decide +kernel
theorem d_Mo_dropFirst_24 : decode m_Mo_dropFirst.2.1 24 = .ok (.iload_n 1, 1) := by decide +kernel
theorem d_Mo_dropFirst_25 : decode m_Mo_dropFirst.2.1 25 = .ok (.iaload, 1) := by decide +kernel
theorem d_Mo_dropFirst_26 : decode m_Mo_dropFirst.2.1 26 = .ok (.if_icmp .ge 33, 3) := by decide +kernel
theorem d_Mo_dropFirst_29 : decode m_Mo_dropFirst.2.1 29 = .ok (.aload_n 0, 1) := by decide +kernel
theorem d_Mo_dropFirst_30 : decode m_Mo_dropFirst.2.1 30 = .ok (.getfield 68, 3) := by decide +kernel
theorem d_Mo_dropFirst_33 : decode m_Mo_dropFirst.2.1 33 = .ok (.bipush 48, 2) := by decide +kernel
theorem d_Mo_dropFirst_35 : decode m_Mo_dropFirst.2.1 35 = .ok (.iload_n 1, 1) := by decide +kernel
theorem d_Mo_dropFirst_36 : decode m_Mo_dropFirst.2.1 36 = .ok (.imul, 1) := by decide +kernel
theorem d_Mo_dropFirst_37 : decode m_Mo_dropFirst.2.1 37 = .ok (.iload_n 2, 1) := by decide +kernel
theorem d_Mo_dropFirst_38 : decode m_Mo_dropFirst.2.1 38 = .ok (.iadd, 1) := by decide +kernel
theorem d_Mo_dropFirst_39 : decode m_Mo_dropFirst.2.1 39 = .ok (.aload_n 0, 1) := by decide +kernel
theorem d_Mo_dropFirst_40 : decode m_Mo_dropFirst.2.1 40 = .ok (.getfield 68, 3) := by decide +kernel
theorem d_Mo_dropFirst_43 : decode m_Mo_dropFirst.2.1 43 = .ok (.bipush 48, 2) := by decide +kernel
theorem d_Mo_dropFirst_45 : decode m_Mo_dropFirst.2.1 45 = .ok (.iload_n 1, 1) := by decide +kernel
theorem d_Mo_dropFirst_46 : decode m_Mo_dropFirst.2.1 46 = .ok (.imul, 1) := by decide +kernel
theorem d_Mo_dropFirst_47 : decode m_Mo_dropFirst.2.1 47 = .ok (.iload_n 2, 1) := by decide +kernel
theorem d_Mo_dropFirst_48 : decode m_Mo_dropFirst.2.1 48 = .ok (.iadd, 1) := by decide +kernel
theorem d_Mo_dropFirst_49 : decode m_Mo_dropFirst.2.1 49 = .ok (.iconst 1, 1) := by decide +kernel
theorem d_Mo_dropFirst_50 : decode m_Mo_dropFirst.2.1 50 = .ok (.iadd, 1) := by decide +kernel
theorem d_Mo_dropFirst_51 : decode m_Mo_dropFirst.2.1 51 = .ok (.iaload, 1) := by decide +kernel
theorem d_Mo_dropFirst_52 : decode m_Mo_dropFirst.2.1 52 = .ok (.iastore, 1) := by decide +kernel
theorem d_Mo_dropFirst_53 : decode m_Mo_dropFirst.2.1 53 = .ok (.iinc 2 1, 3) := by decide +kernel
theorem d_Mo_dropFirst_56 : decode m_Mo_dropFirst.2.1 56 = .ok (.goto (-37), 3) := by decide +kernel
theorem d_Mo_dropFirst_59 : decode m_Mo_dropFirst.2.1 59 = .ok (.iinc 1 1, 3) := by decide +kernel
theorem d_Mo_dropFirst_62 : decode m_Mo_dropFirst.2.1 62 = .ok (.goto (-60), 3) := by decide +kernel
theorem d_Mo_dropFirst_65 : decode m_Mo_dropFirst.2.1 65 = .ok (.return_, 1) := by decide +kernel
theorem d_Mo_lean_0 : decode m_Mo_lean.2.1 0 = .ok (.aload_n 0, 1) := by decide +kernel
theorem d_Mo_lean_1 : decode m_Mo_lean.2.1 1 = .ok (.getfield 71, 3) := by decide +kernel
theorem d_Mo_lean_4 : decode m_Mo_lean.2.1 4 = .ok (.iconst 0, 1) := by decide +kernel
theorem d_Mo_lean_5 : decode m_Mo_lean.2.1 5 = .ok (.iaload, 1) := by decide +kernel
theorem d_Mo_lean_6 : decode m_Mo_lean.2.1 6 = .ok (.ifCond .le 35, 3) := by decide +kernel
theorem d_Mo_lean_9 : decode m_Mo_lean.2.1 9 = .ok (.aload_n 0, 1) := by decide +kernel
theorem d_Mo_lean_10 : decode m_Mo_lean.2.1 10 = .ok (.getfield 71, 3) := by decide +kernel
theorem d_Mo_lean_13 : decode m_Mo_lean.2.1 13 = .ok (.iconst 1, 1) := by decide +kernel
theorem d_Mo_lean_14 : decode m_Mo_lean.2.1 14 = .ok (.iaload, 1) := by decide +kernel
theorem d_Mo_lean_15 : decode m_Mo_lean.2.1 15 = .ok (.ifCond .le 26, 3) := by decide +kernel
theorem d_Mo_lean_18 : decode m_Mo_lean.2.1 18 = .ok (.aload_n 0, 1) := by decide +kernel
theorem d_Mo_lean_19 : decode m_Mo_lean.2.1 19 = .ok (.getfield 68, 3) := by decide +kernel
theorem d_Mo_lean_22 : decode m_Mo_lean.2.1 22 = .ok (.iconst 0, 1) := by decide +kernel
theorem d_Mo_lean_23 : decode m_Mo_lean.2.1 23 = .ok (.iaload, 1) := by decide +kernel
theorem d_Mo_lean_24 : decode m_Mo_lean.2.1 24 = .ok (.aload_n 0, 1) := by decide +kernel
theorem d_Mo_lean_25 : decode m_Mo_lean.2.1 25 = .ok (.getfield 68, 3) := by decide +kernel
theorem d_Mo_lean_28 : decode m_Mo_lean.2.1 28 = .ok (.bipush 48, 2) := by decide +kernel
theorem d_Mo_lean_30 : decode m_Mo_lean.2.1 30 = .ok (.iaload, 1) := by decide +kernel
theorem d_Mo_lean_31 : decode m_Mo_lean.2.1 31 = .ok (.if_icmp .ne 10, 3) := by decide +kernel
theorem d_Mo_lean_34 : decode m_Mo_lean.2.1 34 = .ok (.aload_n 0, 1) := by decide +kernel
theorem d_Mo_lean_35 : decode m_Mo_lean.2.1 35 = .ok (.invokevirtual 169, 3) := by decide +kernel
theorem d_Mo_lean_38 : decode m_Mo_lean.2.1 38 = .ok (.goto (-38), 3) := by decide +kernel
theorem d_Mo_lean_41 : decode m_Mo_lean.2.1 41 = .ok (.return_, 1) := by decide +kernel
theorem d_Mo_isHopeless_0 : decode m_Mo_isHopeless.2.1 0 = .ok (.aload_n 0, 1) := by decide +kernel
theorem d_Mo_isHopeless_1 : decode m_Mo_isHopeless.2.1 1 = .ok (.aload_n 0, 1) := by decide +kernel
theorem d_Mo_isHopeless_2 : decode m_Mo_isHopeless.2.1 2 = .ok (.getfield 74, 3) := by decide +kernel
theorem d_Mo_isHopeless_5 : decode m_Mo_isHopeless.2.1 5 = .ok (.iconst 0, 1) := by decide +kernel
theorem d_Mo_isHopeless_6 : decode m_Mo_isHopeless.2.1 6 = .ok (.invokevirtual 165, 3) := by decide +kernel
theorem d_Mo_isHopeless_9 : decode m_Mo_isHopeless.2.1 9 = .ok (.ifCond .lt 28, 3) := by decide +kernel
theorem d_Mo_isHopeless_12 : decode m_Mo_isHopeless.2.1 12 = .ok (.aload_n 0, 1) := by decide +kernel
theorem d_Mo_isHopeless_13 : decode m_Mo_isHopeless.2.1 13 = .ok (.aload_n 0, 1) := by decide +kernel
theorem d_Mo_isHopeless_14 : decode m_Mo_isHopeless.2.1 14 = .ok (.getfield 74, 3) := by decide +kernel
theorem d_Mo_isHopeless_17 : decode m_Mo_isHopeless.2.1 17 = .ok (.iconst 3, 1) := by decide +kernel
theorem d_Mo_isHopeless_18 : decode m_Mo_isHopeless.2.1 18 = .ok (.invokevirtual 165, 3) := by decide +kernel
theorem d_Mo_isHopeless_21 : decode m_Mo_isHopeless.2.1 21 = .ok (.ifCond .lt 16, 3) := by decide +kernel
theorem d_Mo_isHopeless_24 : decode m_Mo_isHopeless.2.1 24 = .ok (.aload_n 0, 1) := by decide +kernel
theorem d_Mo_isHopeless_25 : decode m_Mo_isHopeless.2.1 25 = .ok (.aload_n 0, 1) := by decide +kernel
theorem d_Mo_isHopeless_26 : decode m_Mo_isHopeless.2.1 26 = .ok (.getfield 74, 3) := by decide +kernel
theorem d_Mo_isHopeless_29 : decode m_Mo_isHopeless.2.1 29 = .ok (.bipush 6, 2) := by decide +kernel
theorem d_Mo_isHopeless_31 : decode m_Mo_isHopeless.2.1 31 = .ok (.invokevirtual 165, 3) := by decide +kernel
theorem d_Mo_isHopeless_34 : decode m_Mo_isHopeless.2.1 34 = .ok (.ifCond .ge 7, 3) := by decide +kernel
theorem d_Mo_isHopeless_37 : decode m_Mo_isHopeless.2.1 37 = .ok (.iconst 1, 1) := by decide +kernel
theorem d_Mo_isHopeless_38 : decode m_Mo_isHopeless.2.1 38 = .ok (.goto 4, 3) := by decide +kernel
theorem d_Mo_isHopeless_41 : decode m_Mo_isHopeless.2.1 41 = .ok (.iconst 0, 1) := by decide +kernel
theorem d_Mo_isHopeless_42 : decode m_Mo_isHopeless.2.1 42 = .ok (.ireturn, 1) := by decide +kernel
theorem d_Mo_isSame_0 : decode m_Mo_isSame.2.1 0 = .ok (.aload_n 0, 1) := by decide +kernel
theorem d_Mo_isSame_1 : decode m_Mo_isSame.2.1 1 = .ok (.getfield 49, 3) := by decide +kernel
theorem d_Mo_isSame_4 : decode m_Mo_isSame.2.1 4 = .ok (.iconst 2, 1) := by decide +kernel
theorem d_Mo_isSame_5 : decode m_Mo_isSame.2.1 5 = .ok (.iload_n 1, 1) := by decide +kernel
theorem d_Mo_isSame_6 : decode m_Mo_isSame.2.1 6 = .ok (.imul, 1) := by decide +kernel
theorem d_Mo_isSame_7 : decode m_Mo_isSame.2.1 7 = .ok (.iaload, 1) := by decide +kernel
theorem d_Mo_isSame_8 : decode m_Mo_isSame.2.1 8 = .ok (.aload_n 0, 1) := by decide +kernel
theorem d_Mo_isSame_9 : decode m_Mo_isSame.2.1 9 = .ok (.getfield 71, 3) := by decide +kernel
theorem d_Mo_isSame_12 : decode m_Mo_isSame.2.1 12 = .ok (.iconst 0, 1) := by decide +kernel
theorem d_Mo_isSame_13 : decode m_Mo_isSame.2.1 13 = .ok (.iaload, 1) := by decide +kernel
theorem d_Mo_isSame_14 : decode m_Mo_isSame.2.1 14 = .ok (.if_icmp .ne 26, 3) := by decide +kernel
theorem d_Mo_isSame_17 : decode m_Mo_isSame.2.1 17 = .ok (.aload_n 0, 1) := by decide +kernel
theorem d_Mo_isSame_18 : decode m_Mo_isSame.2.1 18 = .ok (.getfield 49, 3) := by decide +kernel
theorem d_Mo_isSame_21 : decode m_Mo_isSame.2.1 21 = .ok (.iconst 2, 1) := by decide +kernel
theorem d_Mo_isSame_22 : decode m_Mo_isSame.2.1 22 = .ok (.iload_n 1, 1) := by decide +kernel
theorem d_Mo_isSame_23 : decode m_Mo_isSame.2.1 23 = .ok (.imul, 1) := by decide +kernel
theorem d_Mo_isSame_24 : decode m_Mo_isSame.2.1 24 = .ok (.iconst 1, 1) := by decide +kernel
theorem d_Mo_isSame_25 : decode m_Mo_isSame.2.1 25 = .ok (.iadd, 1) := by decide +kernel
theorem d_Mo_isSame_26 : decode m_Mo_isSame.2.1 26 = .ok (.iaload, 1) := by decide +kernel
theorem d_Mo_isSame_27 : decode m_Mo_isSame.2.1 27 = .ok (.aload_n 0, 1) := by decide +kernel
theorem d_Mo_isSame_28 : decode m_Mo_isSame.2.1 28 = .ok (.getfield 71, 3) := by decide +kernel
theorem d_Mo_isSame_31 : decode m_Mo_isSame.2.1 31 = .ok (.iconst 1, 1) := by decide +kernel
theorem d_Mo_isSame_32 : decode m_Mo_isSame.2.1 32 = .ok (.iaload, 1) := by decide +kernel
theorem d_Mo_isSame_33 : decode m_Mo_isSame.2.1 33 = .ok (.if_icmp .ne 7, 3) := by decide +kernel
theorem d_Mo_isSame_36 : decode m_Mo_isSame.2.1 36 = .ok (.iconst 1, 1) := by decide +kernel
theorem d_Mo_isSame_37 : decode m_Mo_isSame.2.1 37 = .ok (.goto 4, 3) := by decide +kernel
theorem d_Mo_isSame_40 : decode m_Mo_isSame.2.1 40 = .ok (.iconst 0, 1) := by decide +kernel
theorem d_Mo_isSame_41 : decode m_Mo_isSame.2.1 41 = .ok (.istore_n 2, 1) := by decide +kernel
theorem d_Mo_isSame_42 : decode m_Mo_isSame.2.1 42 = .ok (.iconst 0, 1) := by decide +kernel
theorem d_Mo_isSame_43 : decode m_Mo_isSame.2.1 43 = .ok (.istore_n 3, 1) := by decide +kernel
theorem d_Mo_isSame_44 : decode m_Mo_isSame.2.1 44 = .ok (.iload_n 3, 1) := by decide +kernel
theorem d_Mo_isSame_45 : decode m_Mo_isSame.2.1 45 = .ok (.bipush 9, 2) := by decide +kernel
theorem d_Mo_isSame_47 : decode m_Mo_isSame.2.1 47 = .ok (.if_icmp .ge 39, 3) := by decide +kernel
theorem d_Mo_isSame_50 : decode m_Mo_isSame.2.1 50 = .ok (.iload_n 2, 1) := by decide +kernel
theorem d_Mo_isSame_51 : decode m_Mo_isSame.2.1 51 = .ok (.ifCond .eq 35, 3) := by decide +kernel
theorem d_Mo_isSame_54 : decode m_Mo_isSame.2.1 54 = .ok (.aload_n 0, 1) := by decide +kernel
theorem d_Mo_isSame_55 : decode m_Mo_isSame.2.1 55 = .ok (.getfield 52, 3) := by decide +kernel
theorem d_Mo_isSame_58 : decode m_Mo_isSame.2.1 58 = .ok (.bipush 9, 2) := by decide +kernel
theorem d_Mo_isSame_60 : decode m_Mo_isSame.2.1 60 = .ok (.iload_n 1, 1) := by decide +kernel
theorem d_Mo_isSame_61 : decode m_Mo_isSame.2.1 61 = .ok (.imul, 1) := by decide +kernel
theorem d_Mo_isSame_62 : decode m_Mo_isSame.2.1 62 = .ok (.iload_n 3, 1) := by decide +kernel
theorem d_Mo_isSame_63 : decode m_Mo_isSame.2.1 63 = .ok (.iadd, 1) := by decide +kernel
theorem d_Mo_isSame_64 : decode m_Mo_isSame.2.1 64 = .ok (.iaload, 1) := by decide +kernel
theorem d_Mo_isSame_65 : decode m_Mo_isSame.2.1 65 = .ok (.aload_n 0, 1) := by decide +kernel
theorem d_Mo_isSame_66 : decode m_Mo_isSame.2.1 66 = .ok (.getfield 74, 3) := by decide +kernel
theorem d_Mo_isSame_69 : decode m_Mo_isSame.2.1 69 = .ok (.iload_n 3, 1) := by decide +kernel
theorem d_Mo_isSame_70 : decode m_Mo_isSame.2.1 70 = .ok (.iaload, 1) := by decide +kernel
theorem d_Mo_isSame_71 : decode m_Mo_isSame.2.1 71 = .ok (.if_icmp .ne 7, 3) := by decide +kernel
theorem d_Mo_isSame_74 : decode m_Mo_isSame.2.1 74 = .ok (.iconst 1, 1) := by decide +kernel
theorem d_Mo_isSame_75 : decode m_Mo_isSame.2.1 75 = .ok (.goto 4, 3) := by decide +kernel
theorem d_Mo_isSame_78 : decode m_Mo_isSame.2.1 78 = .ok (.iconst 0, 1) := by decide +kernel
theorem d_Mo_isSame_79 : decode m_Mo_isSame.2.1 79 = .ok (.istore_n 2, 1) := by decide +kernel
theorem d_Mo_isSame_80 : decode m_Mo_isSame.2.1 80 = .ok (.iinc 3 1, 3) := by decide +kernel
theorem d_Mo_isSame_83 : decode m_Mo_isSame.2.1 83 = .ok (.goto (-39), 3) := by decide +kernel
theorem d_Mo_isSame_86 : decode m_Mo_isSame.2.1 86 = .ok (.iconst 0, 1) := by decide +kernel
theorem d_Mo_isSame_87 : decode m_Mo_isSame.2.1 87 = .ok (.istore_n 3, 1) := by decide +kernel
theorem d_Mo_isSame_88 : decode m_Mo_isSame.2.1 88 = .ok (.iload_n 3, 1) := by decide +kernel
theorem d_Mo_isSame_89 : decode m_Mo_isSame.2.1 89 = .ok (.iconst 2, 1) := by decide +kernel
theorem d_Mo_isSame_90 : decode m_Mo_isSame.2.1 90 = .ok (.if_icmp .ge 71, 3) := by decide +kernel
theorem d_Mo_isSame_93 : decode m_Mo_isSame.2.1 93 = .ok (.iconst 0, 1) := by decide +kernel
theorem d_Mo_isSame_94 : decode m_Mo_isSame.2.1 94 = .ok (.istore 4, 2) := by decide +kernel
theorem d_Mo_isSame_96 : decode m_Mo_isSame.2.1 96 = .ok (.iload 4, 2) := by decide +kernel
theorem d_Mo_isSame_98 : decode m_Mo_isSame.2.1 98 = .ok (.aload_n 0, 1) := by decide +kernel
theorem d_Mo_isSame_99 : decode m_Mo_isSame.2.1 99 = .ok (.getfield 71, 3) := by decide +kernel
theorem d_Mo_isSame_102 : decode m_Mo_isSame.2.1 102 = .ok (.iload_n 3, 1) := by decide +kernel
theorem d_Mo_isSame_103 : decode m_Mo_isSame.2.1 103 = .ok (.iaload, 1) := by decide +kernel
theorem d_Mo_isSame_104 : decode m_Mo_isSame.2.1 104 = .ok (.if_icmp .ge 51, 3) := by decide +kernel
theorem d_Mo_isSame_107 : decode m_Mo_isSame.2.1 107 = .ok (.iload_n 2, 1) := by decide +kernel
theorem d_Mo_isSame_108 : decode m_Mo_isSame.2.1 108 = .ok (.ifCond .eq 47, 3) := by decide +kernel
theorem d_Mo_isSame_111 : decode m_Mo_isSame.2.1 111 = .ok (.aload_n 0, 1) := by decide +kernel
theorem d_Mo_isSame_112 : decode m_Mo_isSame.2.1 112 = .ok (.getfield 46, 3) := by decide +kernel
theorem d_Mo_isSame_115 : decode m_Mo_isSame.2.1 115 = .ok (.bipush 48, 2) := by decide +kernel
theorem d_Mo_isSame_117 : decode m_Mo_isSame.2.1 117 = .ok (.iload_n 1, 1) := by decide +kernel
theorem d_Mo_isSame_118 : decode m_Mo_isSame.2.1 118 = .ok (.imul, 1) := by decide +kernel
theorem d_Mo_isSame_119 : decode m_Mo_isSame.2.1 119 = .ok (.bipush 24, 2) := by decide +kernel
theorem d_Mo_isSame_121 : decode m_Mo_isSame.2.1 121 = .ok (.iload_n 3, 1) := by decide +kernel
theorem d_Mo_isSame_122 : decode m_Mo_isSame.2.1 122 = .ok (.imul, 1) := by decide +kernel
theorem d_Mo_isSame_123 : decode m_Mo_isSame.2.1 123 = .ok (.iadd, 1) := by decide +kernel
theorem d_Mo_isSame_124 : decode m_Mo_isSame.2.1 124 = .ok (.iload 4, 2) := by decide +kernel
theorem d_Mo_isSame_126 : decode m_Mo_isSame.2.1 126 = .ok (.iadd, 1) := by decide +kernel
theorem d_Mo_isSame_127 : decode m_Mo_isSame.2.1 127 = .ok (.iaload, 1) := by decide +kernel
theorem d_Mo_isSame_128 : decode m_Mo_isSame.2.1 128 = .ok (.aload_n 0, 1) := by decide +kernel
theorem d_Mo_isSame_129 : decode m_Mo_isSame.2.1 129 = .ok (.getfield 68, 3) := by decide +kernel
theorem d_Mo_isSame_132 : decode m_Mo_isSame.2.1 132 = .ok (.bipush 48, 2) := by decide +kernel
theorem d_Mo_isSame_134 : decode m_Mo_isSame.2.1 134 = .ok (.iload_n 3, 1) := by decide +kernel
theorem d_Mo_isSame_135 : decode m_Mo_isSame.2.1 135 = .ok (.imul, 1) := by decide +kernel
theorem d_Mo_isSame_136 : decode m_Mo_isSame.2.1 136 = .ok (.iload 4, 2) := by decide +kernel
theorem d_Mo_isSame_138 : decode m_Mo_isSame.2.1 138 = .ok (.iadd, 1) := by decide +kernel
theorem d_Mo_isSame_139 : decode m_Mo_isSame.2.1 139 = .ok (.iaload, 1) := by decide +kernel
theorem d_Mo_isSame_140 : decode m_Mo_isSame.2.1 140 = .ok (.if_icmp .ne 7, 3) := by decide +kernel
theorem d_Mo_isSame_143 : decode m_Mo_isSame.2.1 143 = .ok (.iconst 1, 1) := by decide +kernel
theorem d_Mo_isSame_144 : decode m_Mo_isSame.2.1 144 = .ok (.goto 4, 3) := by decide +kernel
theorem d_Mo_isSame_147 : decode m_Mo_isSame.2.1 147 = .ok (.iconst 0, 1) := by decide +kernel
theorem d_Mo_isSame_148 : decode m_Mo_isSame.2.1 148 = .ok (.istore_n 2, 1) := by decide +kernel
theorem d_Mo_isSame_149 : decode m_Mo_isSame.2.1 149 = .ok (.iinc 4 1, 3) := by decide +kernel
theorem d_Mo_isSame_152 : decode m_Mo_isSame.2.1 152 = .ok (.goto (-56), 3) := by decide +kernel
theorem d_Mo_isSame_155 : decode m_Mo_isSame.2.1 155 = .ok (.iinc 3 1, 3) := by decide +kernel
theorem d_Mo_isSame_158 : decode m_Mo_isSame.2.1 158 = .ok (.goto (-70), 3) := by decide +kernel
theorem d_Mo_isSame_161 : decode m_Mo_isSame.2.1 161 = .ok (.iload_n 2, 1) := by decide +kernel
theorem d_Mo_isSame_162 : decode m_Mo_isSame.2.1 162 = .ok (.ireturn, 1) := by decide +kernel
theorem d_Mo_lookFor_0 : decode m_Mo_lookFor.2.1 0 = .ok (.iconst 0, 1) := by decide +kernel
theorem d_Mo_lookFor_1 : decode m_Mo_lookFor.2.1 1 = .ok (.istore_n 1, 1) := by decide +kernel
theorem d_Mo_lookFor_2 : decode m_Mo_lookFor.2.1 2 = .ok (.iload_n 1, 1) := by decide +kernel
theorem d_Mo_lookFor_3 : decode m_Mo_lookFor.2.1 3 = .ok (.aload_n 0, 1) := by decide +kernel
theorem d_Mo_lookFor_4 : decode m_Mo_lookFor.2.1 4 = .ok (.getfield 172, 3) := by decide +kernel
theorem d_Mo_lookFor_7 : decode m_Mo_lookFor.2.1 7 = .ok (.if_icmp .ge 19, 3) := by decide +kernel
theorem d_Mo_lookFor_10 : decode m_Mo_lookFor.2.1 10 = .ok (.aload_n 0, 1) := by decide +kernel
theorem d_Mo_lookFor_11 : decode m_Mo_lookFor.2.1 11 = .ok (.iload_n 1, 1) := by decide +kernel
theorem d_Mo_lookFor_12 : decode m_Mo_lookFor.2.1 12 = .ok (.invokevirtual 175, 3) := by decide +kernel
theorem d_Mo_lookFor_15 : decode m_Mo_lookFor.2.1 15 = .ok (.ifCond .eq 5, 3) := by decide +kernel
theorem d_Mo_lookFor_18 : decode m_Mo_lookFor.2.1 18 = .ok (.iload_n 1, 1) := by decide +kernel
theorem d_Mo_lookFor_19 : decode m_Mo_lookFor.2.1 19 = .ok (.ireturn, 1) := by decide +kernel
theorem d_Mo_lookFor_20 : decode m_Mo_lookFor.2.1 20 = .ok (.iinc 1 1, 3) := by decide +kernel
theorem d_Mo_lookFor_23 : decode m_Mo_lookFor.2.1 23 = .ok (.goto (-21), 3) := by decide +kernel
theorem d_Mo_lookFor_26 : decode m_Mo_lookFor.2.1 26 = .ok (.bipush (-6), 2) := by decide +kernel
theorem d_Mo_lookFor_28 : decode m_Mo_lookFor.2.1 28 = .ok (.ireturn, 1) := by decide +kernel
theorem d_Mo_addNode_0 : decode m_Mo_addNode.2.1 0 = .ok (.iconst 0, 1) := by decide +kernel
theorem d_Mo_addNode_1 : decode m_Mo_addNode.2.1 1 = .ok (.istore 4, 2) := by decide +kernel
theorem d_Mo_addNode_3 : decode m_Mo_addNode.2.1 3 = .ok (.iload 4, 2) := by decide +kernel
theorem d_Mo_addNode_5 : decode m_Mo_addNode.2.1 5 = .ok (.iconst 2, 1) := by decide +kernel
theorem d_Mo_addNode_6 : decode m_Mo_addNode.2.1 6 = .ok (.if_icmp .ge 85, 3) := by decide +kernel
theorem d_Mo_addNode_9 : decode m_Mo_addNode.2.1 9 = .ok (.aload_n 0, 1) := by decide +kernel
theorem d_Mo_addNode_10 : decode m_Mo_addNode.2.1 10 = .ok (.getfield 49, 3) := by decide +kernel
theorem d_Mo_addNode_13 : decode m_Mo_addNode.2.1 13 = .ok (.iconst 2, 1) := by decide +kernel
theorem d_Mo_addNode_14 : decode m_Mo_addNode.2.1 14 = .ok (.aload_n 0, 1) := by decide +kernel
theorem d_Mo_addNode_15 : decode m_Mo_addNode.2.1 15 = .ok (.getfield 172, 3) := by decide +kernel
theorem d_Mo_addNode_18 : decode m_Mo_addNode.2.1 18 = .ok (.imul, 1) := by decide +kernel
theorem d_Mo_addNode_19 : decode m_Mo_addNode.2.1 19 = .ok (.iload 4, 2) := by decide +kernel
theorem d_Mo_addNode_21 : decode m_Mo_addNode.2.1 21 = .ok (.iadd, 1) := by decide +kernel
theorem d_Mo_addNode_22 : decode m_Mo_addNode.2.1 22 = .ok (.aload_n 0, 1) := by decide +kernel
theorem d_Mo_addNode_23 : decode m_Mo_addNode.2.1 23 = .ok (.getfield 71, 3) := by decide +kernel
theorem d_Mo_addNode_26 : decode m_Mo_addNode.2.1 26 = .ok (.iload 4, 2) := by decide +kernel
theorem d_Mo_addNode_28 : decode m_Mo_addNode.2.1 28 = .ok (.iaload, 1) := by decide +kernel
theorem d_Mo_addNode_29 : decode m_Mo_addNode.2.1 29 = .ok (.iastore, 1) := by decide +kernel
theorem d_Mo_addNode_30 : decode m_Mo_addNode.2.1 30 = .ok (.iconst 0, 1) := by decide +kernel
theorem d_Mo_addNode_31 : decode m_Mo_addNode.2.1 31 = .ok (.istore 5, 2) := by decide +kernel
theorem d_Mo_addNode_33 : decode m_Mo_addNode.2.1 33 = .ok (.iload 5, 2) := by decide +kernel
theorem d_Mo_addNode_35 : decode m_Mo_addNode.2.1 35 = .ok (.aload_n 0, 1) := by decide +kernel
theorem d_Mo_addNode_36 : decode m_Mo_addNode.2.1 36 = .ok (.getfield 71, 3) := by decide +kernel
theorem d_Mo_addNode_39 : decode m_Mo_addNode.2.1 39 = .ok (.iload 4, 2) := by decide +kernel
theorem d_Mo_addNode_41 : decode m_Mo_addNode.2.1 41 = .ok (.iaload, 1) := by decide +kernel
theorem d_Mo_addNode_42 : decode m_Mo_addNode.2.1 42 = .ok (.if_icmp .ge 43, 3) := by decide +kernel
theorem d_Mo_addNode_45 : decode m_Mo_addNode.2.1 45 = .ok (.aload_n 0, 1) := by decide +kernel
theorem d_Mo_addNode_46 : decode m_Mo_addNode.2.1 46 = .ok (.getfield 46, 3) := by decide +kernel
theorem d_Mo_addNode_49 : decode m_Mo_addNode.2.1 49 = .ok (.bipush 48, 2) := by decide +kernel
theorem d_Mo_addNode_51 : decode m_Mo_addNode.2.1 51 = .ok (.aload_n 0, 1) := by decide +kernel
theorem d_Mo_addNode_52 : decode m_Mo_addNode.2.1 52 = .ok (.getfield 172, 3) := by decide +kernel
theorem d_Mo_addNode_55 : decode m_Mo_addNode.2.1 55 = .ok (.imul, 1) := by decide +kernel
theorem d_Mo_addNode_56 : decode m_Mo_addNode.2.1 56 = .ok (.bipush 24, 2) := by decide +kernel
theorem d_Mo_addNode_58 : decode m_Mo_addNode.2.1 58 = .ok (.iload 4, 2) := by decide +kernel
theorem d_Mo_addNode_60 : decode m_Mo_addNode.2.1 60 = .ok (.imul, 1) := by decide +kernel
theorem d_Mo_addNode_61 : decode m_Mo_addNode.2.1 61 = .ok (.iadd, 1) := by decide +kernel
theorem d_Mo_addNode_62 : decode m_Mo_addNode.2.1 62 = .ok (.iload 5, 2) := by decide +kernel
theorem d_Mo_addNode_64 : decode m_Mo_addNode.2.1 64 = .ok (.iadd, 1) := by decide +kernel
theorem d_Mo_addNode_65 : decode m_Mo_addNode.2.1 65 = .ok (.aload_n 0, 1) := by decide +kernel
theorem d_Mo_addNode_66 : decode m_Mo_addNode.2.1 66 = .ok (.getfield 68, 3) := by decide +kernel
theorem d_Mo_addNode_69 : decode m_Mo_addNode.2.1 69 = .ok (.bipush 48, 2) := by decide +kernel
theorem d_Mo_addNode_71 : decode m_Mo_addNode.2.1 71 = .ok (.iload 4, 2) := by decide +kernel
theorem d_Mo_addNode_73 : decode m_Mo_addNode.2.1 73 = .ok (.imul, 1) := by decide +kernel
theorem d_Mo_addNode_74 : decode m_Mo_addNode.2.1 74 = .ok (.iload 5, 2) := by decide +kernel
theorem d_Mo_addNode_76 : decode m_Mo_addNode.2.1 76 = .ok (.iadd, 1) := by decide +kernel
theorem d_Mo_addNode_77 : decode m_Mo_addNode.2.1 77 = .ok (.iaload, 1) := by decide +kernel
theorem d_Mo_addNode_78 : decode m_Mo_addNode.2.1 78 = .ok (.iastore, 1) := by decide +kernel
theorem d_Mo_addNode_79 : decode m_Mo_addNode.2.1 79 = .ok (.iinc 5 1, 3) := by decide +kernel
theorem d_Mo_addNode_82 : decode m_Mo_addNode.2.1 82 = .ok (.goto (-49), 3) := by decide +kernel
theorem d_Mo_addNode_85 : decode m_Mo_addNode.2.1 85 = .ok (.iinc 4 1, 3) := by decide +kernel
theorem d_Mo_addNode_88 : decode m_Mo_addNode.2.1 88 = .ok (.goto (-85), 3) := by decide +kernel
theorem d_Mo_addNode_91 : decode m_Mo_addNode.2.1 91 = .ok (.iconst 0, 1) := by decide +kernel
theorem d_Mo_addNode_92 : decode m_Mo_addNode.2.1 92 = .ok (.istore 4, 2) := by decide +kernel
theorem d_Mo_addNode_94 : decode m_Mo_addNode.2.1 94 = .ok (.iload 4, 2) := by decide +kernel
theorem d_Mo_addNode_96 : decode m_Mo_addNode.2.1 96 = .ok (.bipush 9, 2) := by decide +kernel
theorem d_Mo_addNode_98 : decode m_Mo_addNode.2.1 98 = .ok (.if_icmp .ge 31, 3) := by decide +kernel
theorem d_Mo_addNode_101 : decode m_Mo_addNode.2.1 101 = .ok (.aload_n 0, 1) := by decide +kernel
theorem d_Mo_addNode_102 : decode m_Mo_addNode.2.1 102 = .ok (.getfield 52, 3) := by decide +kernel
theorem d_Mo_addNode_105 : decode m_Mo_addNode.2.1 105 = .ok (.bipush 9, 2) := by decide +kernel
theorem d_Mo_addNode_107 : decode m_Mo_addNode.2.1 107 = .ok (.aload_n 0, 1) := by decide +kernel
theorem d_Mo_addNode_108 : decode m_Mo_addNode.2.1 108 = .ok (.getfield 172, 3) := by decide +kernel
theorem d_Mo_addNode_111 : decode m_Mo_addNode.2.1 111 = .ok (.imul, 1) := by decide +kernel
theorem d_Mo_addNode_112 : decode m_Mo_addNode.2.1 112 = .ok (.iload 4, 2) := by decide +kernel
theorem d_Mo_addNode_114 : decode m_Mo_addNode.2.1 114 = .ok (.iadd, 1) := by decide +kernel
theorem d_Mo_addNode_115 : decode m_Mo_addNode.2.1 115 = .ok (.aload_n 0, 1) := by decide +kernel
theorem d_Mo_addNode_116 : decode m_Mo_addNode.2.1 116 = .ok (.getfield 74, 3) := by decide +kernel
theorem d_Mo_addNode_119 : decode m_Mo_addNode.2.1 119 = .ok (.iload 4, 2) := by decide +kernel
theorem d_Mo_addNode_121 : decode m_Mo_addNode.2.1 121 = .ok (.iaload, 1) := by decide +kernel
theorem d_Mo_addNode_122 : decode m_Mo_addNode.2.1 122 = .ok (.iastore, 1) := by decide +kernel
theorem d_Mo_addNode_123 : decode m_Mo_addNode.2.1 123 = .ok (.iinc 4 1, 3) := by decide +kernel
theorem d_Mo_addNode_126 : decode m_Mo_addNode.2.1 126 = .ok (.goto (-32), 3) := by decide +kernel
theorem d_Mo_addNode_129 : decode m_Mo_addNode.2.1 129 = .ok (.aload_n 0, 1) := by decide +kernel
theorem d_Mo_addNode_130 : decode m_Mo_addNode.2.1 130 = .ok (.getfield 55, 3) := by decide +kernel
theorem d_Mo_addNode_133 : decode m_Mo_addNode.2.1 133 = .ok (.aload_n 0, 1) := by decide +kernel
theorem d_Mo_addNode_134 : decode m_Mo_addNode.2.1 134 = .ok (.getfield 172, 3) := by decide +kernel
theorem d_Mo_addNode_137 : decode m_Mo_addNode.2.1 137 = .ok (.iload_n 1, 1) := by decide +kernel
theorem d_Mo_addNode_138 : decode m_Mo_addNode.2.1 138 = .ok (.iastore, 1) := by decide +kernel
theorem d_Mo_addNode_139 : decode m_Mo_addNode.2.1 139 = .ok (.aload_n 0, 1) := by decide +kernel
theorem d_Mo_addNode_140 : decode m_Mo_addNode.2.1 140 = .ok (.getfield 58, 3) := by decide +kernel
theorem d_Mo_addNode_143 : decode m_Mo_addNode.2.1 143 = .ok (.aload_n 0, 1) := by decide +kernel
theorem d_Mo_addNode_144 : decode m_Mo_addNode.2.1 144 = .ok (.getfield 172, 3) := by decide +kernel
theorem d_Mo_addNode_147 : decode m_Mo_addNode.2.1 147 = .ok (.iload_n 2, 1) := by decide +kernel
theorem d_Mo_addNode_148 : decode m_Mo_addNode.2.1 148 = .ok (.iastore, 1) := by decide +kernel
theorem d_Mo_addNode_149 : decode m_Mo_addNode.2.1 149 = .ok (.aload_n 0, 1) := by decide +kernel
theorem d_Mo_addNode_150 : decode m_Mo_addNode.2.1 150 = .ok (.getfield 61, 3) := by decide +kernel
theorem d_Mo_addNode_153 : decode m_Mo_addNode.2.1 153 = .ok (.aload_n 0, 1) := by decide +kernel
theorem d_Mo_addNode_154 : decode m_Mo_addNode.2.1 154 = .ok (.getfield 172, 3) := by decide +kernel
theorem d_Mo_addNode_157 : decode m_Mo_addNode.2.1 157 = .ok (.iload_n 3, 1) := by decide +kernel
theorem d_Mo_addNode_158 : decode m_Mo_addNode.2.1 158 = .ok (.iastore, 1) := by decide +kernel
theorem d_Mo_addNode_159 : decode m_Mo_addNode.2.1 159 = .ok (.aload_n 0, 1) := by decide +kernel
theorem d_Mo_addNode_160 : decode m_Mo_addNode.2.1 160 = .ok (.getfield 64, 3) := by decide +kernel
theorem d_Mo_addNode_163 : decode m_Mo_addNode.2.1 163 = .ok (.aload_n 0, 1) := by decide +kernel
theorem d_Mo_addNode_164 : decode m_Mo_addNode.2.1 164 = .ok (.getfield 172, 3) := by decide +kernel
theorem d_Mo_addNode_167 : decode m_Mo_addNode.2.1 167 = .ok (.iconst 0, 1) := by decide +kernel
theorem d_Mo_addNode_168 : decode m_Mo_addNode.2.1 168 = .ok (.bastore, 1) := by decide +kernel
theorem d_Mo_addNode_169 : decode m_Mo_addNode.2.1 169 = .ok (.aload_n 0, 1) := by decide +kernel
theorem d_Mo_addNode_170 : decode m_Mo_addNode.2.1 170 = .ok (.dup, 1) := by decide +kernel
theorem d_Mo_addNode_171 : decode m_Mo_addNode.2.1 171 = .ok (.getfield 172, 3) := by decide +kernel
theorem d_Mo_addNode_174 : decode m_Mo_addNode.2.1 174 = .ok (.iconst 1, 1) := by decide +kernel
theorem d_Mo_addNode_175 : decode m_Mo_addNode.2.1 175 = .ok (.iadd, 1) := by decide +kernel
theorem d_Mo_addNode_176 : decode m_Mo_addNode.2.1 176 = .ok (.putfield 172, 3) := by decide +kernel
theorem d_Mo_addNode_179 : decode m_Mo_addNode.2.1 179 = .ok (.return_, 1) := by decide +kernel
theorem d_Mo_firstOf_0 : decode m_Mo_firstOf.2.1 0 = .ok (.aload_n 0, 1) := by decide +kernel
theorem d_Mo_firstOf_1 : decode m_Mo_firstOf.2.1 1 = .ok (.getfield 49, 3) := by decide +kernel
theorem d_Mo_firstOf_4 : decode m_Mo_firstOf.2.1 4 = .ok (.iconst 2, 1) := by decide +kernel
theorem d_Mo_firstOf_5 : decode m_Mo_firstOf.2.1 5 = .ok (.iload_n 1, 1) := by decide +kernel
theorem d_Mo_firstOf_6 : decode m_Mo_firstOf.2.1 6 = .ok (.imul, 1) := by decide +kernel
theorem d_Mo_firstOf_7 : decode m_Mo_firstOf.2.1 7 = .ok (.iload_n 2, 1) := by decide +kernel
theorem d_Mo_firstOf_8 : decode m_Mo_firstOf.2.1 8 = .ok (.iadd, 1) := by decide +kernel
theorem d_Mo_firstOf_9 : decode m_Mo_firstOf.2.1 9 = .ok (.iaload, 1) := by decide +kernel
theorem d_Mo_firstOf_10 : decode m_Mo_firstOf.2.1 10 = .ok (.ifCond .le 20, 3) := by decide +kernel
theorem d_Mo_firstOf_13 : decode m_Mo_firstOf.2.1 13 = .ok (.aload_n 0, 1) := by decide +kernel
theorem d_Mo_firstOf_14 : decode m_Mo_firstOf.2.1 14 = .ok (.getfield 46, 3) := by decide +kernel
theorem d_Mo_firstOf_17 : decode m_Mo_firstOf.2.1 17 = .ok (.bipush 48, 2) := by decide +kernel
theorem d_Mo_firstOf_19 : decode m_Mo_firstOf.2.1 19 = .ok (.iload_n 1, 1) := by decide +kernel
theorem d_Mo_firstOf_20 : decode m_Mo_firstOf.2.1 20 = .ok (.imul, 1) := by decide +kernel
theorem d_Mo_firstOf_21 : decode m_Mo_firstOf.2.1 21 = .ok (.bipush 24, 2) := by decide +kernel
theorem d_Mo_firstOf_23 : decode m_Mo_firstOf.2.1 23 = .ok (.iload_n 2, 1) := by decide +kernel
theorem d_Mo_firstOf_24 : decode m_Mo_firstOf.2.1 24 = .ok (.imul, 1) := by decide +kernel
theorem d_Mo_firstOf_25 : decode m_Mo_firstOf.2.1 25 = .ok (.iadd, 1) := by decide +kernel
theorem d_Mo_firstOf_26 : decode m_Mo_firstOf.2.1 26 = .ok (.iaload, 1) := by decide +kernel
theorem d_Mo_firstOf_27 : decode m_Mo_firstOf.2.1 27 = .ok (.goto 5, 3) := by decide +kernel
theorem d_Mo_firstOf_30 : decode m_Mo_firstOf.2.1 30 = .ok (.bipush (-6), 2) := by decide +kernel
theorem d_Mo_firstOf_32 : decode m_Mo_firstOf.2.1 32 = .ok (.ireturn, 1) := by decide +kernel
theorem d_Mo_isEnd_0 : decode m_Mo_isEnd.2.1 0 = .ok (.aload_n 0, 1) := by decide +kernel
theorem d_Mo_isEnd_1 : decode m_Mo_isEnd.2.1 1 = .ok (.aload_n 0, 1) := by decide +kernel
theorem d_Mo_isEnd_2 : decode m_Mo_isEnd.2.1 2 = .ok (.getfield 52, 3) := by decide +kernel
theorem d_Mo_isEnd_5 : decode m_Mo_isEnd.2.1 5 = .ok (.bipush 9, 2) := by decide +kernel
theorem d_Mo_isEnd_7 : decode m_Mo_isEnd.2.1 7 = .ok (.iload_n 1, 1) := by decide +kernel
theorem d_Mo_isEnd_8 : decode m_Mo_isEnd.2.1 8 = .ok (.imul, 1) := by decide +kernel
theorem d_Mo_isEnd_9 : decode m_Mo_isEnd.2.1 9 = .ok (.invokevirtual 165, 3) := by decide +kernel
theorem d_Mo_isEnd_12 : decode m_Mo_isEnd.2.1 12 = .ok (.ifCond .lt 42, 3) := by decide +kernel
theorem d_Mo_isEnd_15 : decode m_Mo_isEnd.2.1 15 = .ok (.aload_n 0, 1) := by decide +kernel
theorem d_Mo_isEnd_16 : decode m_Mo_isEnd.2.1 16 = .ok (.aload_n 0, 1) := by decide +kernel
theorem d_Mo_isEnd_17 : decode m_Mo_isEnd.2.1 17 = .ok (.getfield 52, 3) := by decide +kernel
theorem d_Mo_isEnd_20 : decode m_Mo_isEnd.2.1 20 = .ok (.bipush 9, 2) := by decide +kernel
theorem d_Mo_isEnd_22 : decode m_Mo_isEnd.2.1 22 = .ok (.iload_n 1, 1) := by decide +kernel
theorem d_Mo_isEnd_23 : decode m_Mo_isEnd.2.1 23 = .ok (.imul, 1) := by decide +kernel
theorem d_Mo_isEnd_24 : decode m_Mo_isEnd.2.1 24 = .ok (.iconst 3, 1) := by decide +kernel
theorem d_Mo_isEnd_25 : decode m_Mo_isEnd.2.1 25 = .ok (.iadd, 1) := by decide +kernel
theorem d_Mo_isEnd_26 : decode m_Mo_isEnd.2.1 26 = .ok (.invokevirtual 165, 3) := by decide +kernel
theorem d_Mo_isEnd_29 : decode m_Mo_isEnd.2.1 29 = .ok (.ifCond .lt 25, 3) := by decide +kernel
theorem d_Mo_isEnd_32 : decode m_Mo_isEnd.2.1 32 = .ok (.aload_n 0, 1) := by decide +kernel
theorem d_Mo_isEnd_33 : decode m_Mo_isEnd.2.1 33 = .ok (.aload_n 0, 1) := by decide +kernel
theorem d_Mo_isEnd_34 : decode m_Mo_isEnd.2.1 34 = .ok (.getfield 52, 3) := by decide +kernel
theorem d_Mo_isEnd_37 : decode m_Mo_isEnd.2.1 37 = .ok (.bipush 9, 2) := by decide +kernel
theorem d_Mo_isEnd_39 : decode m_Mo_isEnd.2.1 39 = .ok (.iload_n 1, 1) := by decide +kernel
theorem d_Mo_isEnd_40 : decode m_Mo_isEnd.2.1 40 = .ok (.imul, 1) := by decide +kernel
theorem d_Mo_isEnd_41 : decode m_Mo_isEnd.2.1 41 = .ok (.bipush 6, 2) := by decide +kernel
theorem d_Mo_isEnd_43 : decode m_Mo_isEnd.2.1 43 = .ok (.iadd, 1) := by decide +kernel
theorem d_Mo_isEnd_44 : decode m_Mo_isEnd.2.1 44 = .ok (.invokevirtual 165, 3) := by decide +kernel
theorem d_Mo_isEnd_47 : decode m_Mo_isEnd.2.1 47 = .ok (.ifCond .lt 7, 3) := by decide +kernel
theorem d_Mo_isEnd_50 : decode m_Mo_isEnd.2.1 50 = .ok (.iconst 1, 1) := by decide +kernel
theorem d_Mo_isEnd_51 : decode m_Mo_isEnd.2.1 51 = .ok (.goto 4, 3) := by decide +kernel
theorem d_Mo_isEnd_54 : decode m_Mo_isEnd.2.1 54 = .ok (.iconst 0, 1) := by decide +kernel
theorem d_Mo_isEnd_55 : decode m_Mo_isEnd.2.1 55 = .ok (.istore_n 2, 1) := by decide +kernel
theorem d_Mo_isEnd_56 : decode m_Mo_isEnd.2.1 56 = .ok (.aload_n 0, 1) := by decide +kernel
theorem d_Mo_isEnd_57 : decode m_Mo_isEnd.2.1 57 = .ok (.getfield 49, 3) := by decide +kernel
theorem d_Mo_isEnd_60 : decode m_Mo_isEnd.2.1 60 = .ok (.iconst 2, 1) := by decide +kernel
theorem d_Mo_isEnd_61 : decode m_Mo_isEnd.2.1 61 = .ok (.iload_n 1, 1) := by decide +kernel
theorem d_Mo_isEnd_62 : decode m_Mo_isEnd.2.1 62 = .ok (.imul, 1) := by decide +kernel
theorem d_Mo_isEnd_63 : decode m_Mo_isEnd.2.1 63 = .ok (.iaload, 1) := by decide +kernel
theorem d_Mo_isEnd_64 : decode m_Mo_isEnd.2.1 64 = .ok (.ifCond .ne 24, 3) := by decide +kernel
theorem d_Mo_isEnd_67 : decode m_Mo_isEnd.2.1 67 = .ok (.aload_n 0, 1) := by decide +kernel
theorem d_Mo_isEnd_68 : decode m_Mo_isEnd.2.1 68 = .ok (.getfield 49, 3) := by decide +kernel
theorem d_Mo_isEnd_71 : decode m_Mo_isEnd.2.1 71 = .ok (.iconst 2, 1) := by decide +kernel
theorem d_Mo_isEnd_72 : decode m_Mo_isEnd.2.1 72 = .ok (.iload_n 1, 1) := by decide +kernel
theorem d_Mo_isEnd_73 : decode m_Mo_isEnd.2.1 73 = .ok (.imul, 1) := by decide +kernel
theorem d_Mo_isEnd_74 : decode m_Mo_isEnd.2.1 74 = .ok (.iconst 1, 1) := by decide +kernel
theorem d_Mo_isEnd_75 : decode m_Mo_isEnd.2.1 75 = .ok (.iadd, 1) := by decide +kernel
theorem d_Mo_isEnd_76 : decode m_Mo_isEnd.2.1 76 = .ok (.iaload, 1) := by decide +kernel
theorem d_Mo_isEnd_77 : decode m_Mo_isEnd.2.1 77 = .ok (.ifCond .ne 11, 3) := by decide +kernel
theorem d_Mo_isEnd_80 : decode m_Mo_isEnd.2.1 80 = .ok (.iload_n 2, 1) := by decide +kernel
theorem d_Mo_isEnd_81 : decode m_Mo_isEnd.2.1 81 = .ok (.ifCond .eq 7, 3) := by decide +kernel
theorem d_Mo_isEnd_84 : decode m_Mo_isEnd.2.1 84 = .ok (.iconst 1, 1) := by decide +kernel
theorem d_Mo_isEnd_85 : decode m_Mo_isEnd.2.1 85 = .ok (.goto 4, 3) := by decide +kernel
theorem d_Mo_isEnd_88 : decode m_Mo_isEnd.2.1 88 = .ok (.iconst 0, 1) := by decide +kernel
theorem d_Mo_isEnd_89 : decode m_Mo_isEnd.2.1 89 = .ok (.ireturn, 1) := by decide +kernel
theorem d_Mo_addMove_0 : decode m_Mo_addMove.2.1 0 = .ok (.aload_n 0, 1) := by decide +kernel
theorem d_Mo_addMove_1 : decode m_Mo_addMove.2.1 1 = .ok (.getfield 77, 3) := by decide +kernel
theorem d_Mo_addMove_4 : decode m_Mo_addMove.2.1 4 = .ok (.aload_n 0, 1) := by decide +kernel
theorem d_Mo_addMove_5 : decode m_Mo_addMove.2.1 5 = .ok (.getfield 178, 3) := by decide +kernel
theorem d_Mo_addMove_8 : decode m_Mo_addMove.2.1 8 = .ok (.sipush 1000, 3) := by decide +kernel
theorem d_Mo_addMove_11 : decode m_Mo_addMove.2.1 11 = .ok (.iload_n 1, 1) := by decide +kernel
theorem d_Mo_addMove_12 : decode m_Mo_addMove.2.1 12 = .ok (.imul, 1) := by decide +kernel
theorem d_Mo_addMove_13 : decode m_Mo_addMove.2.1 13 = .ok (.bipush 100, 2) := by decide +kernel
theorem d_Mo_addMove_15 : decode m_Mo_addMove.2.1 15 = .ok (.iload_n 2, 1) := by decide +kernel
theorem d_Mo_addMove_16 : decode m_Mo_addMove.2.1 16 = .ok (.imul, 1) := by decide +kernel
theorem d_Mo_addMove_17 : decode m_Mo_addMove.2.1 17 = .ok (.iadd, 1) := by decide +kernel
theorem d_Mo_addMove_18 : decode m_Mo_addMove.2.1 18 = .ok (.iload_n 3, 1) := by decide +kernel
theorem d_Mo_addMove_19 : decode m_Mo_addMove.2.1 19 = .ok (.iadd, 1) := by decide +kernel
theorem d_Mo_addMove_20 : decode m_Mo_addMove.2.1 20 = .ok (.iastore, 1) := by decide +kernel
theorem d_Mo_addMove_21 : decode m_Mo_addMove.2.1 21 = .ok (.aload_n 0, 1) := by decide +kernel
theorem d_Mo_addMove_22 : decode m_Mo_addMove.2.1 22 = .ok (.dup, 1) := by decide +kernel
theorem d_Mo_addMove_23 : decode m_Mo_addMove.2.1 23 = .ok (.getfield 178, 3) := by decide +kernel
theorem d_Mo_addMove_26 : decode m_Mo_addMove.2.1 26 = .ok (.iconst 1, 1) := by decide +kernel
theorem d_Mo_addMove_27 : decode m_Mo_addMove.2.1 27 = .ok (.iadd, 1) := by decide +kernel
theorem d_Mo_addMove_28 : decode m_Mo_addMove.2.1 28 = .ok (.putfield 178, 3) := by decide +kernel
theorem d_Mo_addMove_31 : decode m_Mo_addMove.2.1 31 = .ok (.return_, 1) := by decide +kernel
theorem d_Mo_third_0 : decode m_Mo_third.2.1 0 = .ok (.iload_n 0, 1) := by decide +kernel
theorem d_Mo_third_1 : decode m_Mo_third.2.1 1 = .ok (.ifCond .ne 7, 3) := by decide +kernel
theorem d_Mo_third_4 : decode m_Mo_third.2.1 4 = .ok (.iconst 1, 1) := by decide +kernel
theorem d_Mo_third_5 : decode m_Mo_third.2.1 5 = .ok (.goto 14, 3) := by decide +kernel
theorem d_Mo_third_8 : decode m_Mo_third.2.1 8 = .ok (.iload_n 0, 1) := by decide +kernel
theorem d_Mo_third_9 : decode m_Mo_third.2.1 9 = .ok (.iconst 1, 1) := by decide +kernel
theorem d_Mo_third_10 : decode m_Mo_third.2.1 10 = .ok (.if_icmp .ne 7, 3) := by decide +kernel
theorem d_Mo_third_13 : decode m_Mo_third.2.1 13 = .ok (.iconst 3, 1) := by decide +kernel
theorem d_Mo_third_14 : decode m_Mo_third.2.1 14 = .ok (.goto 5, 3) := by decide +kernel
theorem d_Mo_third_17 : decode m_Mo_third.2.1 17 = .ok (.bipush 9, 2) := by decide +kernel
theorem d_Mo_third_19 : decode m_Mo_third.2.1 19 = .ok (.ireturn, 1) := by decide +kernel
theorem d_Mo_isTurn_0 : decode m_Mo_isTurn.2.1 0 = .ok (.iconst 1, 1) := by decide +kernel
theorem d_Mo_isTurn_1 : decode m_Mo_isTurn.2.1 1 = .ok (.istore 4, 2) := by decide +kernel
theorem d_Mo_isTurn_3 : decode m_Mo_isTurn.2.1 3 = .ok (.iconst 0, 1) := by decide +kernel
theorem d_Mo_isTurn_4 : decode m_Mo_isTurn.2.1 4 = .ok (.istore 5, 2) := by decide +kernel
theorem d_Mo_isTurn_6 : decode m_Mo_isTurn.2.1 6 = .ok (.iload 5, 2) := by decide +kernel
theorem d_Mo_isTurn_8 : decode m_Mo_isTurn.2.1 8 = .ok (.iconst 3, 1) := by decide +kernel
theorem d_Mo_isTurn_9 : decode m_Mo_isTurn.2.1 9 = .ok (.if_icmp .ge 54, 3) := by decide +kernel
theorem d_Mo_isTurn_12 : decode m_Mo_isTurn.2.1 12 = .ok (.iload 4, 2) := by decide +kernel
theorem d_Mo_isTurn_14 : decode m_Mo_isTurn.2.1 14 = .ok (.ifCond .eq 40, 3) := by decide +kernel
theorem d_Mo_isTurn_17 : decode m_Mo_isTurn.2.1 17 = .ok (.aload_n 0, 1) := by decide +kernel
theorem d_Mo_isTurn_18 : decode m_Mo_isTurn.2.1 18 = .ok (.getfield 52, 3) := by decide +kernel
theorem d_Mo_isTurn_21 : decode m_Mo_isTurn.2.1 21 = .ok (.bipush 9, 2) := by decide +kernel
theorem d_Mo_isTurn_23 : decode m_Mo_isTurn.2.1 23 = .ok (.iload_n 1, 1) := by decide +kernel
theorem d_Mo_isTurn_24 : decode m_Mo_isTurn.2.1 24 = .ok (.imul, 1) := by decide +kernel
theorem d_Mo_isTurn_25 : decode m_Mo_isTurn.2.1 25 = .ok (.iconst 3, 1) := by decide +kernel
theorem d_Mo_isTurn_26 : decode m_Mo_isTurn.2.1 26 = .ok (.iload_n 2, 1) := by decide +kernel
theorem d_Mo_isTurn_27 : decode m_Mo_isTurn.2.1 27 = .ok (.imul, 1) := by decide +kernel
theorem d_Mo_isTurn_28 : decode m_Mo_isTurn.2.1 28 = .ok (.iadd, 1) := by decide +kernel
theorem d_Mo_isTurn_29 : decode m_Mo_isTurn.2.1 29 = .ok (.iload 5, 2) := by decide +kernel
theorem d_Mo_isTurn_31 : decode m_Mo_isTurn.2.1 31 = .ok (.iadd, 1) := by decide +kernel
theorem d_Mo_isTurn_32 : decode m_Mo_isTurn.2.1 32 = .ok (.iaload, 1) := by decide +kernel
theorem d_Mo_isTurn_33 : decode m_Mo_isTurn.2.1 33 = .ok (.bipush 7, 2) := by decide +kernel
theorem d_Mo_isTurn_35 : decode m_Mo_isTurn.2.1 35 = .ok (.if_icmp .ne 15, 3) := by decide +kernel
theorem d_Mo_isTurn_38 : decode m_Mo_isTurn.2.1 38 = .ok (.iload_n 3, 1) := by decide +kernel
theorem d_Mo_isTurn_39 : decode m_Mo_isTurn.2.1 39 = .ok (.iload 5, 2) := by decide +kernel
theorem d_Mo_isTurn_41 : decode m_Mo_isTurn.2.1 41 = .ok (.invokestatic 181, 3) := by decide +kernel
theorem d_Mo_isTurn_44 : decode m_Mo_isTurn.2.1 44 = .ok (.idiv, 1) := by decide +kernel
theorem d_Mo_isTurn_45 : decode m_Mo_isTurn.2.1 45 = .ok (.iconst 3, 1) := by decide +kernel
theorem d_Mo_isTurn_46 : decode m_Mo_isTurn.2.1 46 = .ok (.irem, 1) := by decide +kernel
theorem d_Mo_isTurn_47 : decode m_Mo_isTurn.2.1 47 = .ok (.ifCond .ne 7, 3) := by decide +kernel
theorem d_Mo_isTurn_50 : decode m_Mo_isTurn.2.1 50 = .ok (.iconst 1, 1) := by decide +kernel
theorem d_Mo_isTurn_51 : decode m_Mo_isTurn.2.1 51 = .ok (.goto 4, 3) := by decide +kernel
theorem d_Mo_isTurn_54 : decode m_Mo_isTurn.2.1 54 = .ok (.iconst 0, 1) := by decide +kernel
theorem d_Mo_isTurn_55 : decode m_Mo_isTurn.2.1 55 = .ok (.istore 4, 2) := by decide +kernel
theorem d_Mo_isTurn_57 : decode m_Mo_isTurn.2.1 57 = .ok (.iinc 5 1, 3) := by decide +kernel
theorem d_Mo_isTurn_60 : decode m_Mo_isTurn.2.1 60 = .ok (.goto (-54), 3) := by decide +kernel
theorem d_Mo_isTurn_63 : decode m_Mo_isTurn.2.1 63 = .ok (.iload 4, 2) := by decide +kernel
theorem d_Mo_isTurn_65 : decode m_Mo_isTurn.2.1 65 = .ok (.ireturn, 1) := by decide +kernel
theorem d_Mo_addBegins_0 : decode m_Mo_addBegins.2.1 0 = .ok (.iload_n 3, 1) := by decide +kernel
theorem d_Mo_addBegins_1 : decode m_Mo_addBegins.2.1 1 = .ok (.iconst 2, 1) := by decide +kernel
theorem d_Mo_addBegins_2 : decode m_Mo_addBegins.2.1 2 = .ok (.if_icmp .ge 11, 3) := by decide +kernel
theorem d_Mo_addBegins_5 : decode m_Mo_addBegins.2.1 5 = .ok (.aload_n 0, 1) := by decide +kernel
theorem d_Mo_addBegins_6 : decode m_Mo_addBegins.2.1 6 = .ok (.iconst 1, 1) := by decide +kernel
theorem d_Mo_addBegins_7 : decode m_Mo_addBegins.2.1 7 = .ok (.iload_n 2, 1) := by decide +kernel
theorem d_Mo_addBegins_8 : decode m_Mo_addBegins.2.1 8 = .ok (.iconst 0, 1) := by decide +kernel
theorem d_Mo_addBegins_9 : decode m_Mo_addBegins.2.1 9 = .ok (.invokevirtual 184, 3) := by decide +kernel
theorem d_Mo_addBegins_12 : decode m_Mo_addBegins.2.1 12 = .ok (.return_, 1) := by decide +kernel
theorem d_Mo_addBegins_13 : decode m_Mo_addBegins.2.1 13 = .ok (.iconst 0, 1) := by decide +kernel
theorem d_Mo_addBegins_14 : decode m_Mo_addBegins.2.1 14 = .ok (.istore 4, 2) := by decide +kernel
theorem d_Mo_addBegins_16 : decode m_Mo_addBegins.2.1 16 = .ok (.iload 4, 2) := by decide +kernel
theorem d_Mo_addBegins_18 : decode m_Mo_addBegins.2.1 18 = .ok (.bipush 27, 2) := by decide +kernel
theorem d_Mo_addBegins_20 : decode m_Mo_addBegins.2.1 20 = .ok (.if_icmp .ge 28, 3) := by decide +kernel
theorem d_Mo_addBegins_23 : decode m_Mo_addBegins.2.1 23 = .ok (.aload_n 0, 1) := by decide +kernel
theorem d_Mo_addBegins_24 : decode m_Mo_addBegins.2.1 24 = .ok (.iload_n 1, 1) := by decide +kernel
theorem d_Mo_addBegins_25 : decode m_Mo_addBegins.2.1 25 = .ok (.iload_n 2, 1) := by decide +kernel
theorem d_Mo_addBegins_26 : decode m_Mo_addBegins.2.1 26 = .ok (.iload 4, 2) := by decide +kernel
theorem d_Mo_addBegins_28 : decode m_Mo_addBegins.2.1 28 = .ok (.invokevirtual 188, 3) := by decide +kernel
theorem d_Mo_addBegins_31 : decode m_Mo_addBegins.2.1 31 = .ok (.ifCond .eq 11, 3) := by decide +kernel
theorem d_Mo_addBegins_34 : decode m_Mo_addBegins.2.1 34 = .ok (.aload_n 0, 1) := by decide +kernel
theorem d_Mo_addBegins_35 : decode m_Mo_addBegins.2.1 35 = .ok (.iconst 1, 1) := by decide +kernel
theorem d_Mo_addBegins_36 : decode m_Mo_addBegins.2.1 36 = .ok (.iload_n 2, 1) := by decide +kernel
theorem d_Mo_addBegins_37 : decode m_Mo_addBegins.2.1 37 = .ok (.iload 4, 2) := by decide +kernel
theorem d_Mo_addBegins_39 : decode m_Mo_addBegins.2.1 39 = .ok (.invokevirtual 184, 3) := by decide +kernel
theorem d_Mo_addBegins_42 : decode m_Mo_addBegins.2.1 42 = .ok (.iinc 4 1, 3) := by decide +kernel
theorem d_Mo_addBegins_45 : decode m_Mo_addBegins.2.1 45 = .ok (.goto (-29), 3) := by decide +kernel
theorem d_Mo_addBegins_48 : decode m_Mo_addBegins.2.1 48 = .ok (.return_, 1) := by decide +kernel
theorem d_Mo_findMoves_0 : decode m_Mo_findMoves.2.1 0 = .ok (.aload_n 0, 1) := by decide +kernel
theorem d_Mo_findMoves_1 : decode m_Mo_findMoves.2.1 1 = .ok (.iconst 0, 1) := by decide +kernel
theorem d_Mo_findMoves_2 : decode m_Mo_findMoves.2.1 2 = .ok (.putfield 178, 3) := by decide +kernel
theorem d_Mo_findMoves_5 : decode m_Mo_findMoves.2.1 5 = .ok (.aload_n 0, 1) := by decide +kernel
theorem d_Mo_findMoves_6 : decode m_Mo_findMoves.2.1 6 = .ok (.iload_n 1, 1) := by decide +kernel
theorem d_Mo_findMoves_7 : decode m_Mo_findMoves.2.1 7 = .ok (.iconst 0, 1) := by decide +kernel
theorem d_Mo_findMoves_8 : decode m_Mo_findMoves.2.1 8 = .ok (.invokevirtual 191, 3) := by decide +kernel
theorem d_Mo_findMoves_11 : decode m_Mo_findMoves.2.1 11 = .ok (.istore_n 2, 1) := by decide +kernel
theorem d_Mo_findMoves_12 : decode m_Mo_findMoves.2.1 12 = .ok (.aload_n 0, 1) := by decide +kernel
theorem d_Mo_findMoves_13 : decode m_Mo_findMoves.2.1 13 = .ok (.iload_n 1, 1) := by decide +kernel
theorem d_Mo_findMoves_14 : decode m_Mo_findMoves.2.1 14 = .ok (.iconst 1, 1) := by decide +kernel
theorem d_Mo_findMoves_15 : decode m_Mo_findMoves.2.1 15 = .ok (.invokevirtual 191, 3) := by decide +kernel
theorem d_Mo_findMoves_18 : decode m_Mo_findMoves.2.1 18 = .ok (.istore_n 3, 1) := by decide +kernel
theorem d_Mo_findMoves_19 : decode m_Mo_findMoves.2.1 19 = .ok (.iload_n 2, 1) := by decide +kernel
theorem d_Mo_findMoves_20 : decode m_Mo_findMoves.2.1 20 = .ok (.iconst 2, 1) := by decide +kernel
theorem d_Mo_findMoves_21 : decode m_Mo_findMoves.2.1 21 = .ok (.if_icmp .lt 12, 3) := by decide +kernel
theorem d_Mo_findMoves_24 : decode m_Mo_findMoves.2.1 24 = .ok (.aload_n 0, 1) := by decide +kernel
theorem d_Mo_findMoves_25 : decode m_Mo_findMoves.2.1 25 = .ok (.iconst 0, 1) := by decide +kernel
theorem d_Mo_findMoves_26 : decode m_Mo_findMoves.2.1 26 = .ok (.iload_n 2, 1) := by decide +kernel
theorem d_Mo_findMoves_27 : decode m_Mo_findMoves.2.1 27 = .ok (.iconst 2, 1) := by decide +kernel
theorem d_Mo_findMoves_28 : decode m_Mo_findMoves.2.1 28 = .ok (.isub, 1) := by decide +kernel
theorem d_Mo_findMoves_29 : decode m_Mo_findMoves.2.1 29 = .ok (.iconst 0, 1) := by decide +kernel
theorem d_Mo_findMoves_30 : decode m_Mo_findMoves.2.1 30 = .ok (.invokevirtual 184, 3) := by decide +kernel
theorem d_Mo_findMoves_33 : decode m_Mo_findMoves.2.1 33 = .ok (.iload_n 3, 1) := by decide +kernel
theorem d_Mo_findMoves_34 : decode m_Mo_findMoves.2.1 34 = .ok (.iconst 2, 1) := by decide +kernel
theorem d_Mo_findMoves_35 : decode m_Mo_findMoves.2.1 35 = .ok (.if_icmp .lt 12, 3) := by decide +kernel
theorem d_Mo_findMoves_38 : decode m_Mo_findMoves.2.1 38 = .ok (.aload_n 0, 1) := by decide +kernel
theorem d_Mo_findMoves_39 : decode m_Mo_findMoves.2.1 39 = .ok (.iconst 0, 1) := by decide +kernel
theorem d_Mo_findMoves_40 : decode m_Mo_findMoves.2.1 40 = .ok (.iload_n 3, 1) := by decide +kernel
theorem d_Mo_findMoves_41 : decode m_Mo_findMoves.2.1 41 = .ok (.iconst 2, 1) := by decide +kernel
theorem d_Mo_findMoves_42 : decode m_Mo_findMoves.2.1 42 = .ok (.isub, 1) := by decide +kernel
theorem d_Mo_findMoves_43 : decode m_Mo_findMoves.2.1 43 = .ok (.iconst 0, 1) := by decide +kernel
theorem d_Mo_findMoves_44 : decode m_Mo_findMoves.2.1 44 = .ok (.invokevirtual 184, 3) := by decide +kernel
theorem d_Mo_findMoves_47 : decode m_Mo_findMoves.2.1 47 = .ok (.iload_n 2, 1) := by decide +kernel
theorem d_Mo_findMoves_48 : decode m_Mo_findMoves.2.1 48 = .ok (.iconst 2, 1) := by decide +kernel
theorem d_Mo_findMoves_49 : decode m_Mo_findMoves.2.1 49 = .ok (.if_icmp .lt 16, 3) := by decide +kernel
theorem d_Mo_findMoves_52 : decode m_Mo_findMoves.2.1 52 = .ok (.iload_n 3, 1) := by decide +kernel
theorem d_Mo_findMoves_53 : decode m_Mo_findMoves.2.1 53 = .ok (.ifCond .lt 12, 3) := by decide +kernel
theorem d_Mo_findMoves_56 : decode m_Mo_findMoves.2.1 56 = .ok (.aload_n 0, 1) := by decide +kernel
theorem d_Mo_findMoves_57 : decode m_Mo_findMoves.2.1 57 = .ok (.iload_n 1, 1) := by decide +kernel
theorem d_Mo_findMoves_58 : decode m_Mo_findMoves.2.1 58 = .ok (.iload_n 2, 1) := by decide +kernel
theorem d_Mo_findMoves_59 : decode m_Mo_findMoves.2.1 59 = .ok (.iconst 2, 1) := by decide +kernel
theorem d_Mo_findMoves_60 : decode m_Mo_findMoves.2.1 60 = .ok (.isub, 1) := by decide +kernel
theorem d_Mo_findMoves_61 : decode m_Mo_findMoves.2.1 61 = .ok (.iload_n 3, 1) := by decide +kernel
theorem d_Mo_findMoves_62 : decode m_Mo_findMoves.2.1 62 = .ok (.invokevirtual 195, 3) := by decide +kernel
theorem d_Mo_findMoves_65 : decode m_Mo_findMoves.2.1 65 = .ok (.iload_n 3, 1) := by decide +kernel
theorem d_Mo_findMoves_66 : decode m_Mo_findMoves.2.1 66 = .ok (.iconst 2, 1) := by decide +kernel
theorem d_Mo_findMoves_67 : decode m_Mo_findMoves.2.1 67 = .ok (.if_icmp .lt 16, 3) := by decide +kernel
theorem d_Mo_findMoves_70 : decode m_Mo_findMoves.2.1 70 = .ok (.iload_n 2, 1) := by decide +kernel
theorem d_Mo_findMoves_71 : decode m_Mo_findMoves.2.1 71 = .ok (.ifCond .lt 12, 3) := by decide +kernel
theorem d_Mo_findMoves_74 : decode m_Mo_findMoves.2.1 74 = .ok (.aload_n 0, 1) := by decide +kernel
theorem d_Mo_findMoves_75 : decode m_Mo_findMoves.2.1 75 = .ok (.iload_n 1, 1) := by decide +kernel
theorem d_Mo_findMoves_76 : decode m_Mo_findMoves.2.1 76 = .ok (.iload_n 3, 1) := by decide +kernel
theorem d_Mo_findMoves_77 : decode m_Mo_findMoves.2.1 77 = .ok (.iconst 2, 1) := by decide +kernel
theorem d_Mo_findMoves_78 : decode m_Mo_findMoves.2.1 78 = .ok (.isub, 1) := by decide +kernel
theorem d_Mo_findMoves_79 : decode m_Mo_findMoves.2.1 79 = .ok (.iload_n 2, 1) := by decide +kernel
theorem d_Mo_findMoves_80 : decode m_Mo_findMoves.2.1 80 = .ok (.invokevirtual 195, 3) := by decide +kernel
theorem d_Mo_findMoves_83 : decode m_Mo_findMoves.2.1 83 = .ok (.return_, 1) := by decide +kernel
theorem d_Mo_layRows_0 : decode m_Mo_layRows.2.1 0 = .ok (.iconst 0, 1) := by decide +kernel
theorem d_Mo_layRows_1 : decode m_Mo_layRows.2.1 1 = .ok (.istore 4, 2) := by decide +kernel
theorem d_Mo_layRows_3 : decode m_Mo_layRows.2.1 3 = .ok (.iload 4, 2) := by decide +kernel
theorem d_Mo_layRows_5 : decode m_Mo_layRows.2.1 5 = .ok (.iconst 2, 1) := by decide +kernel
theorem d_Mo_layRows_6 : decode m_Mo_layRows.2.1 6 = .ok (.if_icmp .ge 134, 3) := by decide +kernel
theorem d_Mo_layRows_9 : decode m_Mo_layRows.2.1 9 = .ok (.iconst 0, 1) := by decide +kernel
theorem d_Mo_layRows_10 : decode m_Mo_layRows.2.1 10 = .ok (.istore 5, 2) := by decide +kernel
theorem d_Mo_layRows_12 : decode m_Mo_layRows.2.1 12 = .ok (.iconst 0, 1) := by decide +kernel
theorem d_Mo_layRows_13 : decode m_Mo_layRows.2.1 13 = .ok (.istore 6, 2) := by decide +kernel
theorem d_Mo_layRows_15 : decode m_Mo_layRows.2.1 15 = .ok (.iload 6, 2) := by decide +kernel
theorem d_Mo_layRows_17 : decode m_Mo_layRows.2.1 17 = .ok (.aload_n 0, 1) := by decide +kernel
theorem d_Mo_layRows_18 : decode m_Mo_layRows.2.1 18 = .ok (.getfield 49, 3) := by decide +kernel
theorem d_Mo_layRows_21 : decode m_Mo_layRows.2.1 21 = .ok (.iconst 2, 1) := by decide +kernel
theorem d_Mo_layRows_22 : decode m_Mo_layRows.2.1 22 = .ok (.iload_n 1, 1) := by decide +kernel
theorem d_Mo_layRows_23 : decode m_Mo_layRows.2.1 23 = .ok (.imul, 1) := by decide +kernel
theorem d_Mo_layRows_24 : decode m_Mo_layRows.2.1 24 = .ok (.iload 4, 2) := by decide +kernel
theorem d_Mo_layRows_26 : decode m_Mo_layRows.2.1 26 = .ok (.iadd, 1) := by decide +kernel
theorem d_Mo_layRows_27 : decode m_Mo_layRows.2.1 27 = .ok (.iaload, 1) := by decide +kernel
theorem d_Mo_layRows_28 : decode m_Mo_layRows.2.1 28 = .ok (.if_icmp .ge 97, 3) := by decide +kernel
theorem d_Mo_layRows_31 : decode m_Mo_layRows.2.1 31 = .ok (.aload_n 0, 1) := by decide +kernel
theorem d_Mo_layRows_32 : decode m_Mo_layRows.2.1 32 = .ok (.getfield 46, 3) := by decide +kernel
theorem d_Mo_layRows_35 : decode m_Mo_layRows.2.1 35 = .ok (.bipush 48, 2) := by decide +kernel
theorem d_Mo_layRows_37 : decode m_Mo_layRows.2.1 37 = .ok (.iload_n 1, 1) := by decide +kernel
theorem d_Mo_layRows_38 : decode m_Mo_layRows.2.1 38 = .ok (.imul, 1) := by decide +kernel
theorem d_Mo_layRows_39 : decode m_Mo_layRows.2.1 39 = .ok (.bipush 24, 2) := by decide +kernel
theorem d_Mo_layRows_41 : decode m_Mo_layRows.2.1 41 = .ok (.iload 4, 2) := by decide +kernel
theorem d_Mo_layRows_43 : decode m_Mo_layRows.2.1 43 = .ok (.imul, 1) := by decide +kernel
theorem d_Mo_layRows_44 : decode m_Mo_layRows.2.1 44 = .ok (.iadd, 1) := by decide +kernel
theorem d_Mo_layRows_45 : decode m_Mo_layRows.2.1 45 = .ok (.iload 6, 2) := by decide +kernel
theorem d_Mo_layRows_47 : decode m_Mo_layRows.2.1 47 = .ok (.iadd, 1) := by decide +kernel
theorem d_Mo_layRows_48 : decode m_Mo_layRows.2.1 48 = .ok (.iaload, 1) := by decide +kernel
theorem d_Mo_layRows_49 : decode m_Mo_layRows.2.1 49 = .ok (.istore 7, 2) := by decide +kernel
theorem d_Mo_layRows_51 : decode m_Mo_layRows.2.1 51 = .ok (.iload 7, 2) := by decide +kernel
theorem d_Mo_layRows_53 : decode m_Mo_layRows.2.1 53 = .ok (.iload_n 2, 1) := by decide +kernel
theorem d_Mo_layRows_54 : decode m_Mo_layRows.2.1 54 = .ok (.iconst 2, 1) := by decide +kernel
theorem d_Mo_layRows_55 : decode m_Mo_layRows.2.1 55 = .ok (.iadd, 1) := by decide +kernel
theorem d_Mo_layRows_56 : decode m_Mo_layRows.2.1 56 = .ok (.if_icmp .ne 7, 3) := by decide +kernel
theorem d_Mo_layRows_59 : decode m_Mo_layRows.2.1 59 = .ok (.iconst 1, 1) := by decide +kernel
theorem d_Mo_layRows_60 : decode m_Mo_layRows.2.1 60 = .ok (.goto 4, 3) := by decide +kernel
theorem d_Mo_layRows_63 : decode m_Mo_layRows.2.1 63 = .ok (.iconst 0, 1) := by decide +kernel
theorem d_Mo_layRows_64 : decode m_Mo_layRows.2.1 64 = .ok (.istore 8, 2) := by decide +kernel
theorem d_Mo_layRows_66 : decode m_Mo_layRows.2.1 66 = .ok (.iload 8, 2) := by decide +kernel
theorem d_Mo_layRows_68 : decode m_Mo_layRows.2.1 68 = .ok (.ifCond .eq 24, 3) := by decide +kernel
theorem d_Mo_layRows_71 : decode m_Mo_layRows.2.1 71 = .ok (.iload_n 3, 1) := by decide +kernel
theorem d_Mo_layRows_72 : decode m_Mo_layRows.2.1 72 = .ok (.ifCond .lt 20, 3) := by decide +kernel
theorem d_Mo_layRows_75 : decode m_Mo_layRows.2.1 75 = .ok (.aload_n 0, 1) := by decide +kernel
theorem d_Mo_layRows_76 : decode m_Mo_layRows.2.1 76 = .ok (.getfield 68, 3) := by decide +kernel
theorem d_Mo_layRows_79 : decode m_Mo_layRows.2.1 79 = .ok (.bipush 48, 2) := by decide +kernel
theorem d_Mo_layRows_81 : decode m_Mo_layRows.2.1 81 = .ok (.iload 4, 2) := by decide +kernel
theorem d_Mo_layRows_83 : decode m_Mo_layRows.2.1 83 = .ok (.imul, 1) := by decide +kernel
theorem d_Mo_layRows_84 : decode m_Mo_layRows.2.1 84 = .ok (.iload 5, 2) := by decide +kernel
theorem d_Mo_layRows_86 : decode m_Mo_layRows.2.1 86 = .ok (.iadd, 1) := by decide +kernel
theorem d_Mo_layRows_87 : decode m_Mo_layRows.2.1 87 = .ok (.iload_n 3, 1) := by decide +kernel
theorem d_Mo_layRows_88 : decode m_Mo_layRows.2.1 88 = .ok (.iastore, 1) := by decide +kernel
theorem d_Mo_layRows_89 : decode m_Mo_layRows.2.1 89 = .ok (.iinc 5 1, 3) := by decide +kernel
theorem d_Mo_layRows_92 : decode m_Mo_layRows.2.1 92 = .ok (.iload 8, 2) := by decide +kernel
theorem d_Mo_layRows_94 : decode m_Mo_layRows.2.1 94 = .ok (.ifCond .eq 7, 3) := by decide +kernel
theorem d_Mo_layRows_97 : decode m_Mo_layRows.2.1 97 = .ok (.iload_n 3, 1) := by decide +kernel
theorem d_Mo_layRows_98 : decode m_Mo_layRows.2.1 98 = .ok (.ifCond .lt 21, 3) := by decide +kernel
theorem d_Mo_layRows_101 : decode m_Mo_layRows.2.1 101 = .ok (.aload_n 0, 1) := by decide +kernel
theorem d_Mo_layRows_102 : decode m_Mo_layRows.2.1 102 = .ok (.getfield 68, 3) := by decide +kernel
theorem d_Mo_layRows_105 : decode m_Mo_layRows.2.1 105 = .ok (.bipush 48, 2) := by decide +kernel
theorem d_Mo_layRows_107 : decode m_Mo_layRows.2.1 107 = .ok (.iload 4, 2) := by decide +kernel
theorem d_Mo_layRows_109 : decode m_Mo_layRows.2.1 109 = .ok (.imul, 1) := by decide +kernel
theorem d_Mo_layRows_110 : decode m_Mo_layRows.2.1 110 = .ok (.iload 5, 2) := by decide +kernel
theorem d_Mo_layRows_112 : decode m_Mo_layRows.2.1 112 = .ok (.iadd, 1) := by decide +kernel
theorem d_Mo_layRows_113 : decode m_Mo_layRows.2.1 113 = .ok (.iload 7, 2) := by decide +kernel
theorem d_Mo_layRows_115 : decode m_Mo_layRows.2.1 115 = .ok (.iastore, 1) := by decide +kernel
theorem d_Mo_layRows_116 : decode m_Mo_layRows.2.1 116 = .ok (.iinc 5 1, 3) := by decide +kernel
theorem d_Mo_layRows_119 : decode m_Mo_layRows.2.1 119 = .ok (.iinc 6 1, 3) := by decide +kernel
theorem d_Mo_layRows_122 : decode m_Mo_layRows.2.1 122 = .ok (.goto (-107), 3) := by decide +kernel
theorem d_Mo_layRows_125 : decode m_Mo_layRows.2.1 125 = .ok (.aload_n 0, 1) := by decide +kernel
theorem d_Mo_layRows_126 : decode m_Mo_layRows.2.1 126 = .ok (.getfield 71, 3) := by decide +kernel
theorem d_Mo_layRows_129 : decode m_Mo_layRows.2.1 129 = .ok (.iload 4, 2) := by decide +kernel
theorem d_Mo_layRows_131 : decode m_Mo_layRows.2.1 131 = .ok (.iload 5, 2) := by decide +kernel
theorem d_Mo_layRows_133 : decode m_Mo_layRows.2.1 133 = .ok (.iastore, 1) := by decide +kernel
theorem d_Mo_layRows_134 : decode m_Mo_layRows.2.1 134 = .ok (.iinc 4 1, 3) := by decide +kernel
theorem d_Mo_layRows_137 : decode m_Mo_layRows.2.1 137 = .ok (.goto (-134), 3) := by decide +kernel
theorem d_Mo_layRows_140 : decode m_Mo_layRows.2.1 140 = .ok (.iconst 0, 1) := by decide +kernel
theorem d_Mo_layRows_141 : decode m_Mo_layRows.2.1 141 = .ok (.istore 4, 2) := by decide +kernel
theorem d_Mo_layRows_143 : decode m_Mo_layRows.2.1 143 = .ok (.iload 4, 2) := by decide +kernel
theorem d_Mo_layRows_145 : decode m_Mo_layRows.2.1 145 = .ok (.bipush 9, 2) := by decide +kernel
theorem d_Mo_layRows_147 : decode m_Mo_layRows.2.1 147 = .ok (.if_icmp .ge 28, 3) := by decide +kernel
theorem d_Mo_layRows_150 : decode m_Mo_layRows.2.1 150 = .ok (.aload_n 0, 1) := by decide +kernel
theorem d_Mo_layRows_151 : decode m_Mo_layRows.2.1 151 = .ok (.getfield 74, 3) := by decide +kernel
theorem d_Mo_layRows_154 : decode m_Mo_layRows.2.1 154 = .ok (.iload 4, 2) := by decide +kernel
theorem d_Mo_layRows_156 : decode m_Mo_layRows.2.1 156 = .ok (.aload_n 0, 1) := by decide +kernel
theorem d_Mo_layRows_157 : decode m_Mo_layRows.2.1 157 = .ok (.getfield 52, 3) := by decide +kernel
theorem d_Mo_layRows_160 : decode m_Mo_layRows.2.1 160 = .ok (.bipush 9, 2) := by decide +kernel
theorem d_Mo_layRows_162 : decode m_Mo_layRows.2.1 162 = .ok (.iload_n 1, 1) := by decide +kernel
theorem d_Mo_layRows_163 : decode m_Mo_layRows.2.1 163 = .ok (.imul, 1) := by decide +kernel
theorem d_Mo_layRows_164 : decode m_Mo_layRows.2.1 164 = .ok (.iload 4, 2) := by decide +kernel
theorem d_Mo_layRows_166 : decode m_Mo_layRows.2.1 166 = .ok (.iadd, 1) := by decide +kernel
theorem d_Mo_layRows_167 : decode m_Mo_layRows.2.1 167 = .ok (.iaload, 1) := by decide +kernel
theorem d_Mo_layRows_168 : decode m_Mo_layRows.2.1 168 = .ok (.iastore, 1) := by decide +kernel
theorem d_Mo_layRows_169 : decode m_Mo_layRows.2.1 169 = .ok (.iinc 4 1, 3) := by decide +kernel
theorem d_Mo_layRows_172 : decode m_Mo_layRows.2.1 172 = .ok (.goto (-29), 3) := by decide +kernel
theorem d_Mo_layRows_175 : decode m_Mo_layRows.2.1 175 = .ok (.return_, 1) := by decide +kernel
theorem d_Mo_letterAhead_0 : decode m_Mo_letterAhead.2.1 0 = .ok (.iconst 0, 1) := by decide +kernel
theorem d_Mo_letterAhead_1 : decode m_Mo_letterAhead.2.1 1 = .ok (.istore 4, 2) := by decide +kernel
theorem d_Mo_letterAhead_3 : decode m_Mo_letterAhead.2.1 3 = .ok (.iload 4, 2) := by decide +kernel
theorem d_Mo_letterAhead_5 : decode m_Mo_letterAhead.2.1 5 = .ok (.iconst 3, 1) := by decide +kernel
theorem d_Mo_letterAhead_6 : decode m_Mo_letterAhead.2.1 6 = .ok (.if_icmp .ge 83, 3) := by decide +kernel
theorem d_Mo_letterAhead_9 : decode m_Mo_letterAhead.2.1 9 = .ok (.bipush 7, 2) := by decide +kernel
theorem d_Mo_letterAhead_11 : decode m_Mo_letterAhead.2.1 11 = .ok (.istore 5, 2) := by decide +kernel
theorem d_Mo_letterAhead_13 : decode m_Mo_letterAhead.2.1 13 = .ok (.iconst 0, 1) := by decide +kernel
theorem d_Mo_letterAhead_14 : decode m_Mo_letterAhead.2.1 14 = .ok (.istore 6, 2) := by decide +kernel
theorem d_Mo_letterAhead_16 : decode m_Mo_letterAhead.2.1 16 = .ok (.iload 6, 2) := by decide +kernel
theorem d_Mo_letterAhead_18 : decode m_Mo_letterAhead.2.1 18 = .ok (.iconst 3, 1) := by decide +kernel
theorem d_Mo_letterAhead_19 : decode m_Mo_letterAhead.2.1 19 = .ok (.if_icmp .ge 51, 3) := by decide +kernel
theorem d_Mo_letterAhead_22 : decode m_Mo_letterAhead.2.1 22 = .ok (.iload 5, 2) := by decide +kernel
theorem d_Mo_letterAhead_24 : decode m_Mo_letterAhead.2.1 24 = .ok (.aload_n 0, 1) := by decide +kernel
theorem d_Mo_letterAhead_25 : decode m_Mo_letterAhead.2.1 25 = .ok (.getfield 16, 3) := by decide +kernel
theorem d_Mo_letterAhead_28 : decode m_Mo_letterAhead.2.1 28 = .ok (.iconst 3, 1) := by decide +kernel
theorem d_Mo_letterAhead_29 : decode m_Mo_letterAhead.2.1 29 = .ok (.iload_n 3, 1) := by decide +kernel
theorem d_Mo_letterAhead_30 : decode m_Mo_letterAhead.2.1 30 = .ok (.imul, 1) := by decide +kernel
theorem d_Mo_letterAhead_31 : decode m_Mo_letterAhead.2.1 31 = .ok (.iload 6, 2) := by decide +kernel
theorem d_Mo_letterAhead_33 : decode m_Mo_letterAhead.2.1 33 = .ok (.iadd, 1) := by decide +kernel
theorem d_Mo_letterAhead_34 : decode m_Mo_letterAhead.2.1 34 = .ok (.iaload, 1) := by decide +kernel
theorem d_Mo_letterAhead_35 : decode m_Mo_letterAhead.2.1 35 = .ok (.iload 4, 2) := by decide +kernel
theorem d_Mo_letterAhead_37 : decode m_Mo_letterAhead.2.1 37 = .ok (.if_icmp .ne 22, 3) := by decide +kernel
theorem d_Mo_letterAhead_40 : decode m_Mo_letterAhead.2.1 40 = .ok (.aload_n 0, 1) := by decide +kernel
theorem d_Mo_letterAhead_41 : decode m_Mo_letterAhead.2.1 41 = .ok (.getfield 52, 3) := by decide +kernel
theorem d_Mo_letterAhead_44 : decode m_Mo_letterAhead.2.1 44 = .ok (.bipush 9, 2) := by decide +kernel
theorem d_Mo_letterAhead_46 : decode m_Mo_letterAhead.2.1 46 = .ok (.iload_n 1, 1) := by decide +kernel
theorem d_Mo_letterAhead_47 : decode m_Mo_letterAhead.2.1 47 = .ok (.imul, 1) := by decide +kernel
theorem d_Mo_letterAhead_48 : decode m_Mo_letterAhead.2.1 48 = .ok (.iconst 3, 1) := by decide +kernel
theorem d_Mo_letterAhead_49 : decode m_Mo_letterAhead.2.1 49 = .ok (.iload_n 2, 1) := by decide +kernel
theorem d_Mo_letterAhead_50 : decode m_Mo_letterAhead.2.1 50 = .ok (.imul, 1) := by decide +kernel
theorem d_Mo_letterAhead_51 : decode m_Mo_letterAhead.2.1 51 = .ok (.iadd, 1) := by decide +kernel
theorem d_Mo_letterAhead_52 : decode m_Mo_letterAhead.2.1 52 = .ok (.iload 6, 2) := by decide +kernel
theorem d_Mo_letterAhead_54 : decode m_Mo_letterAhead.2.1 54 = .ok (.iadd, 1) := by decide +kernel
theorem d_Mo_letterAhead_55 : decode m_Mo_letterAhead.2.1 55 = .ok (.iaload, 1) := by decide +kernel
theorem d_Mo_letterAhead_56 : decode m_Mo_letterAhead.2.1 56 = .ok (.goto 5, 3) := by decide +kernel
theorem d_Mo_letterAhead_59 : decode m_Mo_letterAhead.2.1 59 = .ok (.bipush 7, 2) := by decide +kernel
theorem d_Mo_letterAhead_61 : decode m_Mo_letterAhead.2.1 61 = .ok (.iand, 1) := by decide +kernel
theorem d_Mo_letterAhead_62 : decode m_Mo_letterAhead.2.1 62 = .ok (.istore 5, 2) := by decide +kernel
theorem d_Mo_letterAhead_64 : decode m_Mo_letterAhead.2.1 64 = .ok (.iinc 6 1, 3) := by decide +kernel
theorem d_Mo_letterAhead_67 : decode m_Mo_letterAhead.2.1 67 = .ok (.goto (-51), 3) := by decide +kernel
theorem d_Mo_letterAhead_70 : decode m_Mo_letterAhead.2.1 70 = .ok (.aload_n 0, 1) := by decide +kernel
theorem d_Mo_letterAhead_71 : decode m_Mo_letterAhead.2.1 71 = .ok (.getfield 74, 3) := by decide +kernel
theorem d_Mo_letterAhead_74 : decode m_Mo_letterAhead.2.1 74 = .ok (.iconst 3, 1) := by decide +kernel
theorem d_Mo_letterAhead_75 : decode m_Mo_letterAhead.2.1 75 = .ok (.iload_n 2, 1) := by decide +kernel
theorem d_Mo_letterAhead_76 : decode m_Mo_letterAhead.2.1 76 = .ok (.imul, 1) := by decide +kernel
theorem d_Mo_letterAhead_77 : decode m_Mo_letterAhead.2.1 77 = .ok (.iload 4, 2) := by decide +kernel
theorem d_Mo_letterAhead_79 : decode m_Mo_letterAhead.2.1 79 = .ok (.iadd, 1) := by decide +kernel
theorem d_Mo_letterAhead_80 : decode m_Mo_letterAhead.2.1 80 = .ok (.iload 5, 2) := by decide +kernel
theorem d_Mo_letterAhead_82 : decode m_Mo_letterAhead.2.1 82 = .ok (.iastore, 1) := by decide +kernel
theorem d_Mo_letterAhead_83 : decode m_Mo_letterAhead.2.1 83 = .ok (.iinc 4 1, 3) := by decide +kernel
theorem d_Mo_letterAhead_86 : decode m_Mo_letterAhead.2.1 86 = .ok (.goto (-83), 3) := by decide +kernel
theorem d_Mo_letterAhead_89 : decode m_Mo_letterAhead.2.1 89 = .ok (.return_, 1) := by decide +kernel
theorem d_Mo_variableAhead_0 : decode m_Mo_variableAhead.2.1 0 = .ok (.iconst 0, 1) := by decide +kernel
theorem d_Mo_variableAhead_1 : decode m_Mo_variableAhead.2.1 1 = .ok (.istore 5, 2) := by decide +kernel
theorem d_Mo_variableAhead_3 : decode m_Mo_variableAhead.2.1 3 = .ok (.iload 5, 2) := by decide +kernel
theorem d_Mo_variableAhead_5 : decode m_Mo_variableAhead.2.1 5 = .ok (.iconst 3, 1) := by decide +kernel
theorem d_Mo_variableAhead_6 : decode m_Mo_variableAhead.2.1 6 = .ok (.if_icmp .ge 22, 3) := by decide +kernel
theorem d_Mo_variableAhead_9 : decode m_Mo_variableAhead.2.1 9 = .ok (.aload_n 0, 1) := by decide +kernel
theorem d_Mo_variableAhead_10 : decode m_Mo_variableAhead.2.1 10 = .ok (.getfield 74, 3) := by decide +kernel
theorem d_Mo_variableAhead_13 : decode m_Mo_variableAhead.2.1 13 = .ok (.iconst 3, 1) := by decide +kernel
theorem d_Mo_variableAhead_14 : decode m_Mo_variableAhead.2.1 14 = .ok (.iload_n 2, 1) := by decide +kernel
theorem d_Mo_variableAhead_15 : decode m_Mo_variableAhead.2.1 15 = .ok (.imul, 1) := by decide +kernel
theorem d_Mo_variableAhead_16 : decode m_Mo_variableAhead.2.1 16 = .ok (.iload 5, 2) := by decide +kernel
theorem d_Mo_variableAhead_18 : decode m_Mo_variableAhead.2.1 18 = .ok (.iadd, 1) := by decide +kernel
theorem d_Mo_variableAhead_19 : decode m_Mo_variableAhead.2.1 19 = .ok (.bipush 7, 2) := by decide +kernel
theorem d_Mo_variableAhead_21 : decode m_Mo_variableAhead.2.1 21 = .ok (.iastore, 1) := by decide +kernel
theorem d_Mo_variableAhead_22 : decode m_Mo_variableAhead.2.1 22 = .ok (.iinc 5 1, 3) := by decide +kernel
theorem d_Mo_variableAhead_25 : decode m_Mo_variableAhead.2.1 25 = .ok (.goto (-22), 3) := by decide +kernel
theorem d_Mo_variableAhead_28 : decode m_Mo_variableAhead.2.1 28 = .ok (.iconst 0, 1) := by decide +kernel
theorem d_Mo_variableAhead_29 : decode m_Mo_variableAhead.2.1 29 = .ok (.istore 5, 2) := by decide +kernel
theorem d_Mo_variableAhead_31 : decode m_Mo_variableAhead.2.1 31 = .ok (.iload 5, 2) := by decide +kernel
theorem d_Mo_variableAhead_33 : decode m_Mo_variableAhead.2.1 33 = .ok (.iconst 3, 1) := by decide +kernel
theorem d_Mo_variableAhead_34 : decode m_Mo_variableAhead.2.1 34 = .ok (.if_icmp .ge 80, 3) := by decide +kernel
theorem d_Mo_variableAhead_37 : decode m_Mo_variableAhead.2.1 37 = .ok (.aload_n 0, 1) := by decide +kernel
theorem d_Mo_variableAhead_38 : decode m_Mo_variableAhead.2.1 38 = .ok (.getfield 52, 3) := by decide +kernel
theorem d_Mo_variableAhead_41 : decode m_Mo_variableAhead.2.1 41 = .ok (.bipush 9, 2) := by decide +kernel
theorem d_Mo_variableAhead_43 : decode m_Mo_variableAhead.2.1 43 = .ok (.iload_n 1, 1) := by decide +kernel
theorem d_Mo_variableAhead_44 : decode m_Mo_variableAhead.2.1 44 = .ok (.imul, 1) := by decide +kernel
theorem d_Mo_variableAhead_45 : decode m_Mo_variableAhead.2.1 45 = .ok (.iconst 3, 1) := by decide +kernel
theorem d_Mo_variableAhead_46 : decode m_Mo_variableAhead.2.1 46 = .ok (.iload_n 2, 1) := by decide +kernel
theorem d_Mo_variableAhead_47 : decode m_Mo_variableAhead.2.1 47 = .ok (.imul, 1) := by decide +kernel
theorem d_Mo_variableAhead_48 : decode m_Mo_variableAhead.2.1 48 = .ok (.iadd, 1) := by decide +kernel
theorem d_Mo_variableAhead_49 : decode m_Mo_variableAhead.2.1 49 = .ok (.iload 5, 2) := by decide +kernel
theorem d_Mo_variableAhead_51 : decode m_Mo_variableAhead.2.1 51 = .ok (.iadd, 1) := by decide +kernel
theorem d_Mo_variableAhead_52 : decode m_Mo_variableAhead.2.1 52 = .ok (.iaload, 1) := by decide +kernel
theorem d_Mo_variableAhead_53 : decode m_Mo_variableAhead.2.1 53 = .ok (.istore 6, 2) := by decide +kernel
theorem d_Mo_variableAhead_55 : decode m_Mo_variableAhead.2.1 55 = .ok (.iload 4, 2) := by decide +kernel
theorem d_Mo_variableAhead_57 : decode m_Mo_variableAhead.2.1 57 = .ok (.iload 5, 2) := by decide +kernel
theorem d_Mo_variableAhead_59 : decode m_Mo_variableAhead.2.1 59 = .ok (.invokestatic 181, 3) := by decide +kernel
theorem d_Mo_variableAhead_62 : decode m_Mo_variableAhead.2.1 62 = .ok (.idiv, 1) := by decide +kernel
theorem d_Mo_variableAhead_63 : decode m_Mo_variableAhead.2.1 63 = .ok (.iconst 3, 1) := by decide +kernel
theorem d_Mo_variableAhead_64 : decode m_Mo_variableAhead.2.1 64 = .ok (.irem, 1) := by decide +kernel
theorem d_Mo_variableAhead_65 : decode m_Mo_variableAhead.2.1 65 = .ok (.istore 7, 2) := by decide +kernel
theorem d_Mo_variableAhead_67 : decode m_Mo_variableAhead.2.1 67 = .ok (.iload 6, 2) := by decide +kernel
theorem d_Mo_variableAhead_69 : decode m_Mo_variableAhead.2.1 69 = .ok (.bipush 7, 2) := by decide +kernel
theorem d_Mo_variableAhead_71 : decode m_Mo_variableAhead.2.1 71 = .ok (.if_icmp .eq 37, 3) := by decide +kernel
theorem d_Mo_variableAhead_74 : decode m_Mo_variableAhead.2.1 74 = .ok (.aload_n 0, 1) := by decide +kernel
theorem d_Mo_variableAhead_75 : decode m_Mo_variableAhead.2.1 75 = .ok (.getfield 74, 3) := by decide +kernel
theorem d_Mo_variableAhead_78 : decode m_Mo_variableAhead.2.1 78 = .ok (.iconst 3, 1) := by decide +kernel
theorem d_Mo_variableAhead_79 : decode m_Mo_variableAhead.2.1 79 = .ok (.iload_n 3, 1) := by decide +kernel
theorem d_Mo_variableAhead_80 : decode m_Mo_variableAhead.2.1 80 = .ok (.imul, 1) := by decide +kernel
theorem d_Mo_variableAhead_81 : decode m_Mo_variableAhead.2.1 81 = .ok (.iload 5, 2) := by decide +kernel
theorem d_Mo_variableAhead_83 : decode m_Mo_variableAhead.2.1 83 = .ok (.iadd, 1) := by decide +kernel
theorem d_Mo_variableAhead_84 : decode m_Mo_variableAhead.2.1 84 = .ok (.dup2, 1) := by decide +kernel
theorem d_Mo_variableAhead_85 : decode m_Mo_variableAhead.2.1 85 = .ok (.iaload, 1) := by decide +kernel
theorem d_Mo_variableAhead_86 : decode m_Mo_variableAhead.2.1 86 = .ok (.iconst 1, 1) := by decide +kernel
theorem d_Mo_variableAhead_87 : decode m_Mo_variableAhead.2.1 87 = .ok (.iload 7, 2) := by decide +kernel
theorem d_Mo_variableAhead_89 : decode m_Mo_variableAhead.2.1 89 = .ok (.ishl, 1) := by decide +kernel
theorem d_Mo_variableAhead_90 : decode m_Mo_variableAhead.2.1 90 = .ok (.iand, 1) := by decide +kernel
theorem d_Mo_variableAhead_91 : decode m_Mo_variableAhead.2.1 91 = .ok (.iastore, 1) := by decide +kernel
theorem d_Mo_variableAhead_92 : decode m_Mo_variableAhead.2.1 92 = .ok (.aload_n 0, 1) := by decide +kernel
theorem d_Mo_variableAhead_93 : decode m_Mo_variableAhead.2.1 93 = .ok (.getfield 74, 3) := by decide +kernel
theorem d_Mo_variableAhead_96 : decode m_Mo_variableAhead.2.1 96 = .ok (.iconst 3, 1) := by decide +kernel
theorem d_Mo_variableAhead_97 : decode m_Mo_variableAhead.2.1 97 = .ok (.iload_n 2, 1) := by decide +kernel
theorem d_Mo_variableAhead_98 : decode m_Mo_variableAhead.2.1 98 = .ok (.imul, 1) := by decide +kernel
theorem d_Mo_variableAhead_99 : decode m_Mo_variableAhead.2.1 99 = .ok (.iload 7, 2) := by decide +kernel
theorem d_Mo_variableAhead_101 : decode m_Mo_variableAhead.2.1 101 = .ok (.iadd, 1) := by decide +kernel
theorem d_Mo_variableAhead_102 : decode m_Mo_variableAhead.2.1 102 = .ok (.dup2, 1) := by decide +kernel
theorem d_Mo_variableAhead_103 : decode m_Mo_variableAhead.2.1 103 = .ok (.iaload, 1) := by decide +kernel
theorem d_Mo_variableAhead_104 : decode m_Mo_variableAhead.2.1 104 = .ok (.iload 6, 2) := by decide +kernel
theorem d_Mo_variableAhead_106 : decode m_Mo_variableAhead.2.1 106 = .ok (.iand, 1) := by decide +kernel
theorem d_Mo_variableAhead_107 : decode m_Mo_variableAhead.2.1 107 = .ok (.iastore, 1) := by decide +kernel
theorem d_Mo_variableAhead_108 : decode m_Mo_variableAhead.2.1 108 = .ok (.iinc 5 1, 3) := by decide +kernel
theorem d_Mo_variableAhead_111 : decode m_Mo_variableAhead.2.1 111 = .ok (.goto (-80), 3) := by decide +kernel
theorem d_Mo_variableAhead_114 : decode m_Mo_variableAhead.2.1 114 = .ok (.return_, 1) := by decide +kernel
theorem d_Mo_isNothing_0 : decode m_Mo_isNothing.2.1 0 = .ok (.bipush 9, 2) := by decide +kernel
theorem d_Mo_isNothing_2 : decode m_Mo_isNothing.2.1 2 = .ok (.iload_n 1, 1) := by decide +kernel
theorem d_Mo_isNothing_3 : decode m_Mo_isNothing.2.1 3 = .ok (.imul, 1) := by decide +kernel
theorem d_Mo_isNothing_4 : decode m_Mo_isNothing.2.1 4 = .ok (.iconst 3, 1) := by decide +kernel
theorem d_Mo_isNothing_5 : decode m_Mo_isNothing.2.1 5 = .ok (.iload_n 2, 1) := by decide +kernel
theorem d_Mo_isNothing_6 : decode m_Mo_isNothing.2.1 6 = .ok (.imul, 1) := by decide +kernel
theorem d_Mo_isNothing_7 : decode m_Mo_isNothing.2.1 7 = .ok (.iadd, 1) := by decide +kernel
theorem d_Mo_isNothing_8 : decode m_Mo_isNothing.2.1 8 = .ok (.istore_n 3, 1) := by decide +kernel
theorem d_Mo_isNothing_9 : decode m_Mo_isNothing.2.1 9 = .ok (.aload_n 0, 1) := by decide +kernel
theorem d_Mo_isNothing_10 : decode m_Mo_isNothing.2.1 10 = .ok (.getfield 52, 3) := by decide +kernel
theorem d_Mo_isNothing_13 : decode m_Mo_isNothing.2.1 13 = .ok (.iload_n 3, 1) := by decide +kernel
theorem d_Mo_isNothing_14 : decode m_Mo_isNothing.2.1 14 = .ok (.iaload, 1) := by decide +kernel
theorem d_Mo_isNothing_15 : decode m_Mo_isNothing.2.1 15 = .ok (.iconst 0, 1) := by decide +kernel
theorem d_Mo_isNothing_16 : decode m_Mo_isNothing.2.1 16 = .ok (.invokestatic 158, 3) := by decide +kernel
theorem d_Mo_isNothing_19 : decode m_Mo_isNothing.2.1 19 = .ok (.ifCond .eq 37, 3) := by decide +kernel
theorem d_Mo_isNothing_22 : decode m_Mo_isNothing.2.1 22 = .ok (.aload_n 0, 1) := by decide +kernel
theorem d_Mo_isNothing_23 : decode m_Mo_isNothing.2.1 23 = .ok (.getfield 52, 3) := by decide +kernel
theorem d_Mo_isNothing_26 : decode m_Mo_isNothing.2.1 26 = .ok (.iload_n 3, 1) := by decide +kernel
theorem d_Mo_isNothing_27 : decode m_Mo_isNothing.2.1 27 = .ok (.iconst 1, 1) := by decide +kernel
theorem d_Mo_isNothing_28 : decode m_Mo_isNothing.2.1 28 = .ok (.iadd, 1) := by decide +kernel
theorem d_Mo_isNothing_29 : decode m_Mo_isNothing.2.1 29 = .ok (.iaload, 1) := by decide +kernel
theorem d_Mo_isNothing_30 : decode m_Mo_isNothing.2.1 30 = .ok (.iconst 1, 1) := by decide +kernel
theorem d_Mo_isNothing_31 : decode m_Mo_isNothing.2.1 31 = .ok (.invokestatic 158, 3) := by decide +kernel
theorem d_Mo_isNothing_34 : decode m_Mo_isNothing.2.1 34 = .ok (.ifCond .eq 22, 3) := by decide +kernel
theorem d_Mo_isNothing_37 : decode m_Mo_isNothing.2.1 37 = .ok (.aload_n 0, 1) := by decide +kernel
theorem d_Mo_isNothing_38 : decode m_Mo_isNothing.2.1 38 = .ok (.getfield 52, 3) := by decide +kernel
theorem d_Mo_isNothing_41 : decode m_Mo_isNothing.2.1 41 = .ok (.iload_n 3, 1) := by decide +kernel
theorem d_Mo_isNothing_42 : decode m_Mo_isNothing.2.1 42 = .ok (.iconst 2, 1) := by decide +kernel
theorem d_Mo_isNothing_43 : decode m_Mo_isNothing.2.1 43 = .ok (.iadd, 1) := by decide +kernel
theorem d_Mo_isNothing_44 : decode m_Mo_isNothing.2.1 44 = .ok (.iaload, 1) := by decide +kernel
theorem d_Mo_isNothing_45 : decode m_Mo_isNothing.2.1 45 = .ok (.iconst 2, 1) := by decide +kernel
theorem d_Mo_isNothing_46 : decode m_Mo_isNothing.2.1 46 = .ok (.invokestatic 158, 3) := by decide +kernel
theorem d_Mo_isNothing_49 : decode m_Mo_isNothing.2.1 49 = .ok (.ifCond .eq 7, 3) := by decide +kernel
theorem d_Mo_isNothing_52 : decode m_Mo_isNothing.2.1 52 = .ok (.iconst 1, 1) := by decide +kernel
theorem d_Mo_isNothing_53 : decode m_Mo_isNothing.2.1 53 = .ok (.goto 4, 3) := by decide +kernel
theorem d_Mo_isNothing_56 : decode m_Mo_isNothing.2.1 56 = .ok (.iconst 0, 1) := by decide +kernel
theorem d_Mo_isNothing_57 : decode m_Mo_isNothing.2.1 57 = .ok (.ireturn, 1) := by decide +kernel
theorem d_Mo_makeMove_0 : decode m_Mo_makeMove.2.1 0 = .ok (.iload_n 2, 1) := by decide +kernel
theorem d_Mo_makeMove_1 : decode m_Mo_makeMove.2.1 1 = .ok (.bipush 100, 2) := by decide +kernel
theorem d_Mo_makeMove_3 : decode m_Mo_makeMove.2.1 3 = .ok (.idiv, 1) := by decide +kernel
theorem d_Mo_makeMove_4 : decode m_Mo_makeMove.2.1 4 = .ok (.bipush 10, 2) := by decide +kernel
theorem d_Mo_makeMove_6 : decode m_Mo_makeMove.2.1 6 = .ok (.irem, 1) := by decide +kernel
theorem d_Mo_makeMove_7 : decode m_Mo_makeMove.2.1 7 = .ok (.istore_n 3, 1) := by decide +kernel
theorem d_Mo_makeMove_8 : decode m_Mo_makeMove.2.1 8 = .ok (.aload_n 0, 1) := by decide +kernel
theorem d_Mo_makeMove_9 : decode m_Mo_makeMove.2.1 9 = .ok (.iload_n 1, 1) := by decide +kernel
theorem d_Mo_makeMove_10 : decode m_Mo_makeMove.2.1 10 = .ok (.iconst 0, 1) := by decide +kernel
theorem d_Mo_makeMove_11 : decode m_Mo_makeMove.2.1 11 = .ok (.invokevirtual 191, 3) := by decide +kernel
theorem d_Mo_makeMove_14 : decode m_Mo_makeMove.2.1 14 = .ok (.istore 4, 2) := by decide +kernel
theorem d_Mo_makeMove_16 : decode m_Mo_makeMove.2.1 16 = .ok (.iload 4, 2) := by decide +kernel
theorem d_Mo_makeMove_18 : decode m_Mo_makeMove.2.1 18 = .ok (.iload_n 3, 1) := by decide +kernel
theorem d_Mo_makeMove_19 : decode m_Mo_makeMove.2.1 19 = .ok (.iconst 2, 1) := by decide +kernel
theorem d_Mo_makeMove_20 : decode m_Mo_makeMove.2.1 20 = .ok (.iadd, 1) := by decide +kernel
theorem d_Mo_makeMove_21 : decode m_Mo_makeMove.2.1 21 = .ok (.if_icmp .ne 12, 3) := by decide +kernel
theorem d_Mo_makeMove_24 : decode m_Mo_makeMove.2.1 24 = .ok (.aload_n 0, 1) := by decide +kernel
theorem d_Mo_makeMove_25 : decode m_Mo_makeMove.2.1 25 = .ok (.iload_n 1, 1) := by decide +kernel
theorem d_Mo_makeMove_26 : decode m_Mo_makeMove.2.1 26 = .ok (.iconst 1, 1) := by decide +kernel
theorem d_Mo_makeMove_27 : decode m_Mo_makeMove.2.1 27 = .ok (.invokevirtual 191, 3) := by decide +kernel
theorem d_Mo_makeMove_30 : decode m_Mo_makeMove.2.1 30 = .ok (.goto 5, 3) := by decide +kernel
theorem d_Mo_makeMove_33 : decode m_Mo_makeMove.2.1 33 = .ok (.iload 4, 2) := by decide +kernel
theorem d_Mo_makeMove_35 : decode m_Mo_makeMove.2.1 35 = .ok (.istore 5, 2) := by decide +kernel
theorem d_Mo_makeMove_37 : decode m_Mo_makeMove.2.1 37 = .ok (.iload_n 2, 1) := by decide +kernel
theorem d_Mo_makeMove_38 : decode m_Mo_makeMove.2.1 38 = .ok (.sipush 1000, 3) := by decide +kernel
theorem d_Mo_makeMove_41 : decode m_Mo_makeMove.2.1 41 = .ok (.if_icmp .ge 42, 3) := by decide +kernel
theorem d_Mo_makeMove_44 : decode m_Mo_makeMove.2.1 44 = .ok (.aload_n 0, 1) := by decide +kernel
theorem d_Mo_makeMove_45 : decode m_Mo_makeMove.2.1 45 = .ok (.iload_n 1, 1) := by decide +kernel
theorem d_Mo_makeMove_46 : decode m_Mo_makeMove.2.1 46 = .ok (.iload_n 3, 1) := by decide +kernel
theorem d_Mo_makeMove_47 : decode m_Mo_makeMove.2.1 47 = .ok (.bipush (-6), 2) := by decide +kernel
theorem d_Mo_makeMove_49 : decode m_Mo_makeMove.2.1 49 = .ok (.invokevirtual 198, 3) := by decide +kernel
theorem d_Mo_makeMove_52 : decode m_Mo_makeMove.2.1 52 = .ok (.iconst 0, 1) := by decide +kernel
theorem d_Mo_makeMove_53 : decode m_Mo_makeMove.2.1 53 = .ok (.istore 6, 2) := by decide +kernel
theorem d_Mo_makeMove_55 : decode m_Mo_makeMove.2.1 55 = .ok (.iload 6, 2) := by decide +kernel
theorem d_Mo_makeMove_57 : decode m_Mo_makeMove.2.1 57 = .ok (.iconst 3, 1) := by decide +kernel
theorem d_Mo_makeMove_58 : decode m_Mo_makeMove.2.1 58 = .ok (.if_icmp .ge 22, 3) := by decide +kernel
theorem d_Mo_makeMove_61 : decode m_Mo_makeMove.2.1 61 = .ok (.aload_n 0, 1) := by decide +kernel
theorem d_Mo_makeMove_62 : decode m_Mo_makeMove.2.1 62 = .ok (.getfield 74, 3) := by decide +kernel
theorem d_Mo_makeMove_65 : decode m_Mo_makeMove.2.1 65 = .ok (.iconst 3, 1) := by decide +kernel
theorem d_Mo_makeMove_66 : decode m_Mo_makeMove.2.1 66 = .ok (.iload_n 3, 1) := by decide +kernel
theorem d_Mo_makeMove_67 : decode m_Mo_makeMove.2.1 67 = .ok (.imul, 1) := by decide +kernel
theorem d_Mo_makeMove_68 : decode m_Mo_makeMove.2.1 68 = .ok (.iload 6, 2) := by decide +kernel
theorem d_Mo_makeMove_70 : decode m_Mo_makeMove.2.1 70 = .ok (.iadd, 1) := by decide +kernel
theorem d_Mo_makeMove_71 : decode m_Mo_makeMove.2.1 71 = .ok (.bipush 7, 2) := by decide +kernel
theorem d_Mo_makeMove_73 : decode m_Mo_makeMove.2.1 73 = .ok (.iastore, 1) := by decide +kernel
theorem d_Mo_makeMove_74 : decode m_Mo_makeMove.2.1 74 = .ok (.iinc 6 1, 3) := by decide +kernel
theorem d_Mo_makeMove_77 : decode m_Mo_makeMove.2.1 77 = .ok (.goto (-22), 3) := by decide +kernel
theorem d_Mo_makeMove_80 : decode m_Mo_makeMove.2.1 80 = .ok (.goto 42, 3) := by decide +kernel
theorem d_Mo_makeMove_83 : decode m_Mo_makeMove.2.1 83 = .ok (.aload_n 0, 1) := by decide +kernel
theorem d_Mo_makeMove_84 : decode m_Mo_makeMove.2.1 84 = .ok (.iload_n 1, 1) := by decide +kernel
theorem d_Mo_makeMove_85 : decode m_Mo_makeMove.2.1 85 = .ok (.iload_n 3, 1) := by decide +kernel
theorem d_Mo_makeMove_86 : decode m_Mo_makeMove.2.1 86 = .ok (.iload 5, 2) := by decide +kernel
theorem d_Mo_makeMove_88 : decode m_Mo_makeMove.2.1 88 = .ok (.invokevirtual 198, 3) := by decide +kernel
theorem d_Mo_makeMove_91 : decode m_Mo_makeMove.2.1 91 = .ok (.iload 5, 2) := by decide +kernel
theorem d_Mo_makeMove_93 : decode m_Mo_makeMove.2.1 93 = .ok (.iconst 2, 1) := by decide +kernel
theorem d_Mo_makeMove_94 : decode m_Mo_makeMove.2.1 94 = .ok (.if_icmp .ge 14, 3) := by decide +kernel
theorem d_Mo_makeMove_97 : decode m_Mo_makeMove.2.1 97 = .ok (.aload_n 0, 1) := by decide +kernel
theorem d_Mo_makeMove_98 : decode m_Mo_makeMove.2.1 98 = .ok (.iload_n 1, 1) := by decide +kernel
theorem d_Mo_makeMove_99 : decode m_Mo_makeMove.2.1 99 = .ok (.iload_n 3, 1) := by decide +kernel
theorem d_Mo_makeMove_100 : decode m_Mo_makeMove.2.1 100 = .ok (.iload 5, 2) := by decide +kernel
theorem d_Mo_makeMove_102 : decode m_Mo_makeMove.2.1 102 = .ok (.invokevirtual 201, 3) := by decide +kernel
theorem d_Mo_makeMove_105 : decode m_Mo_makeMove.2.1 105 = .ok (.goto 17, 3) := by decide +kernel
theorem d_Mo_makeMove_108 : decode m_Mo_makeMove.2.1 108 = .ok (.aload_n 0, 1) := by decide +kernel
theorem d_Mo_makeMove_109 : decode m_Mo_makeMove.2.1 109 = .ok (.iload_n 1, 1) := by decide +kernel
theorem d_Mo_makeMove_110 : decode m_Mo_makeMove.2.1 110 = .ok (.iload_n 3, 1) := by decide +kernel
theorem d_Mo_makeMove_111 : decode m_Mo_makeMove.2.1 111 = .ok (.iload 5, 2) := by decide +kernel
theorem d_Mo_makeMove_113 : decode m_Mo_makeMove.2.1 113 = .ok (.iconst 2, 1) := by decide +kernel
theorem d_Mo_makeMove_114 : decode m_Mo_makeMove.2.1 114 = .ok (.isub, 1) := by decide +kernel
theorem d_Mo_makeMove_115 : decode m_Mo_makeMove.2.1 115 = .ok (.iload_n 2, 1) := by decide +kernel
theorem d_Mo_makeMove_116 : decode m_Mo_makeMove.2.1 116 = .ok (.bipush 100, 2) := by decide +kernel
theorem d_Mo_makeMove_118 : decode m_Mo_makeMove.2.1 118 = .ok (.irem, 1) := by decide +kernel
theorem d_Mo_makeMove_119 : decode m_Mo_makeMove.2.1 119 = .ok (.invokevirtual 204, 3) := by decide +kernel
theorem d_Mo_makeMove_122 : decode m_Mo_makeMove.2.1 122 = .ok (.iload_n 2, 1) := by decide +kernel
theorem d_Mo_makeMove_123 : decode m_Mo_makeMove.2.1 123 = .ok (.sipush 1000, 3) := by decide +kernel
theorem d_Mo_makeMove_126 : decode m_Mo_makeMove.2.1 126 = .ok (.if_icmp .ge 14, 3) := by decide +kernel
theorem d_Mo_makeMove_129 : decode m_Mo_makeMove.2.1 129 = .ok (.aload_n 0, 1) := by decide +kernel
theorem d_Mo_makeMove_130 : decode m_Mo_makeMove.2.1 130 = .ok (.iload_n 1, 1) := by decide +kernel
theorem d_Mo_makeMove_131 : decode m_Mo_makeMove.2.1 131 = .ok (.iload_n 3, 1) := by decide +kernel
theorem d_Mo_makeMove_132 : decode m_Mo_makeMove.2.1 132 = .ok (.invokevirtual 208, 3) := by decide +kernel
theorem d_Mo_makeMove_135 : decode m_Mo_makeMove.2.1 135 = .ok (.ifCond .ne 5, 3) := by decide +kernel
theorem d_Mo_makeMove_138 : decode m_Mo_makeMove.2.1 138 = .ok (.iconst 0, 1) := by decide +kernel
theorem d_Mo_makeMove_139 : decode m_Mo_makeMove.2.1 139 = .ok (.ireturn, 1) := by decide +kernel
theorem d_Mo_makeMove_140 : decode m_Mo_makeMove.2.1 140 = .ok (.aload_n 0, 1) := by decide +kernel
theorem d_Mo_makeMove_141 : decode m_Mo_makeMove.2.1 141 = .ok (.invokevirtual 211, 3) := by decide +kernel
theorem d_Mo_makeMove_144 : decode m_Mo_makeMove.2.1 144 = .ok (.aload_n 0, 1) := by decide +kernel
theorem d_Mo_makeMove_145 : decode m_Mo_makeMove.2.1 145 = .ok (.invokevirtual 214, 3) := by decide +kernel
theorem d_Mo_makeMove_148 : decode m_Mo_makeMove.2.1 148 = .ok (.ifCond .eq 5, 3) := by decide +kernel
theorem d_Mo_makeMove_151 : decode m_Mo_makeMove.2.1 151 = .ok (.iconst 0, 1) := by decide +kernel
theorem d_Mo_makeMove_152 : decode m_Mo_makeMove.2.1 152 = .ok (.ireturn, 1) := by decide +kernel
theorem d_Mo_makeMove_153 : decode m_Mo_makeMove.2.1 153 = .ok (.aload_n 0, 1) := by decide +kernel
theorem d_Mo_makeMove_154 : decode m_Mo_makeMove.2.1 154 = .ok (.getfield 71, 3) := by decide +kernel
theorem d_Mo_makeMove_157 : decode m_Mo_makeMove.2.1 157 = .ok (.iconst 0, 1) := by decide +kernel
theorem d_Mo_makeMove_158 : decode m_Mo_makeMove.2.1 158 = .ok (.iaload, 1) := by decide +kernel
theorem d_Mo_makeMove_159 : decode m_Mo_makeMove.2.1 159 = .ok (.bipush 24, 2) := by decide +kernel
theorem d_Mo_makeMove_161 : decode m_Mo_makeMove.2.1 161 = .ok (.if_icmp .gt 14, 3) := by decide +kernel
theorem d_Mo_makeMove_164 : decode m_Mo_makeMove.2.1 164 = .ok (.aload_n 0, 1) := by decide +kernel
theorem d_Mo_makeMove_165 : decode m_Mo_makeMove.2.1 165 = .ok (.getfield 71, 3) := by decide +kernel
theorem d_Mo_makeMove_168 : decode m_Mo_makeMove.2.1 168 = .ok (.iconst 1, 1) := by decide +kernel
theorem d_Mo_makeMove_169 : decode m_Mo_makeMove.2.1 169 = .ok (.iaload, 1) := by decide +kernel
theorem d_Mo_makeMove_170 : decode m_Mo_makeMove.2.1 170 = .ok (.bipush 24, 2) := by decide +kernel
theorem d_Mo_makeMove_172 : decode m_Mo_makeMove.2.1 172 = .ok (.if_icmp .le 7, 3) := by decide +kernel
theorem d_Mo_makeMove_175 : decode m_Mo_makeMove.2.1 175 = .ok (.iconst 2, 1) := by decide +kernel
theorem d_Mo_makeMove_176 : decode m_Mo_makeMove.2.1 176 = .ok (.goto 4, 3) := by decide +kernel
theorem d_Mo_makeMove_179 : decode m_Mo_makeMove.2.1 179 = .ok (.iconst 1, 1) := by decide +kernel
theorem d_Mo_makeMove_180 : decode m_Mo_makeMove.2.1 180 = .ok (.ireturn, 1) := by decide +kernel
theorem d_Mo_goOn_0 : decode m_Mo_goOn.2.1 0 = .ok (.aload_n 0, 1) := by decide +kernel
theorem d_Mo_goOn_1 : decode m_Mo_goOn.2.1 1 = .ok (.iload_n 1, 1) := by decide +kernel
theorem d_Mo_goOn_2 : decode m_Mo_goOn.2.1 2 = .ok (.invokevirtual 218, 3) := by decide +kernel
theorem d_Mo_goOn_5 : decode m_Mo_goOn.2.1 5 = .ok (.iconst 0, 1) := by decide +kernel
theorem d_Mo_goOn_6 : decode m_Mo_goOn.2.1 6 = .ok (.istore_n 2, 1) := by decide +kernel
theorem d_Mo_goOn_7 : decode m_Mo_goOn.2.1 7 = .ok (.iload_n 2, 1) := by decide +kernel
theorem d_Mo_goOn_8 : decode m_Mo_goOn.2.1 8 = .ok (.aload_n 0, 1) := by decide +kernel
theorem d_Mo_goOn_9 : decode m_Mo_goOn.2.1 9 = .ok (.getfield 178, 3) := by decide +kernel
theorem d_Mo_goOn_12 : decode m_Mo_goOn.2.1 12 = .ok (.if_icmp .ge 114, 3) := by decide +kernel
theorem d_Mo_goOn_15 : decode m_Mo_goOn.2.1 15 = .ok (.aload_n 0, 1) := by decide +kernel
theorem d_Mo_goOn_16 : decode m_Mo_goOn.2.1 16 = .ok (.iload_n 1, 1) := by decide +kernel
theorem d_Mo_goOn_17 : decode m_Mo_goOn.2.1 17 = .ok (.aload_n 0, 1) := by decide +kernel
theorem d_Mo_goOn_18 : decode m_Mo_goOn.2.1 18 = .ok (.getfield 77, 3) := by decide +kernel
theorem d_Mo_goOn_21 : decode m_Mo_goOn.2.1 21 = .ok (.iload_n 2, 1) := by decide +kernel
theorem d_Mo_goOn_22 : decode m_Mo_goOn.2.1 22 = .ok (.iaload, 1) := by decide +kernel
theorem d_Mo_goOn_23 : decode m_Mo_goOn.2.1 23 = .ok (.invokevirtual 222, 3) := by decide +kernel
theorem d_Mo_goOn_26 : decode m_Mo_goOn.2.1 26 = .ok (.istore_n 3, 1) := by decide +kernel
theorem d_Mo_goOn_27 : decode m_Mo_goOn.2.1 27 = .ok (.iload_n 3, 1) := by decide +kernel
theorem d_Mo_goOn_28 : decode m_Mo_goOn.2.1 28 = .ok (.iconst 1, 1) := by decide +kernel
theorem d_Mo_goOn_29 : decode m_Mo_goOn.2.1 29 = .ok (.if_icmp .ne 14, 3) := by decide +kernel
theorem d_Mo_goOn_32 : decode m_Mo_goOn.2.1 32 = .ok (.aload_n 0, 1) := by decide +kernel
theorem d_Mo_goOn_33 : decode m_Mo_goOn.2.1 33 = .ok (.invokevirtual 225, 3) := by decide +kernel
theorem d_Mo_goOn_36 : decode m_Mo_goOn.2.1 36 = .ok (.ifCond .ge 7, 3) := by decide +kernel
theorem d_Mo_goOn_39 : decode m_Mo_goOn.2.1 39 = .ok (.iconst 1, 1) := by decide +kernel
theorem d_Mo_goOn_40 : decode m_Mo_goOn.2.1 40 = .ok (.goto 4, 3) := by decide +kernel
theorem d_Mo_goOn_43 : decode m_Mo_goOn.2.1 43 = .ok (.iconst 0, 1) := by decide +kernel
theorem d_Mo_goOn_44 : decode m_Mo_goOn.2.1 44 = .ok (.istore 4, 2) := by decide +kernel
theorem d_Mo_goOn_46 : decode m_Mo_goOn.2.1 46 = .ok (.aload_n 0, 1) := by decide +kernel
theorem d_Mo_goOn_47 : decode m_Mo_goOn.2.1 47 = .ok (.getfield 64, 3) := by decide +kernel
theorem d_Mo_goOn_50 : decode m_Mo_goOn.2.1 50 = .ok (.iload_n 1, 1) := by decide +kernel
theorem d_Mo_goOn_51 : decode m_Mo_goOn.2.1 51 = .ok (.aload_n 0, 1) := by decide +kernel
theorem d_Mo_goOn_52 : decode m_Mo_goOn.2.1 52 = .ok (.getfield 64, 3) := by decide +kernel
theorem d_Mo_goOn_55 : decode m_Mo_goOn.2.1 55 = .ok (.iload_n 1, 1) := by decide +kernel
theorem d_Mo_goOn_56 : decode m_Mo_goOn.2.1 56 = .ok (.baload, 1) := by decide +kernel
theorem d_Mo_goOn_57 : decode m_Mo_goOn.2.1 57 = .ok (.ifCond .ne 23, 3) := by decide +kernel
theorem d_Mo_goOn_60 : decode m_Mo_goOn.2.1 60 = .ok (.iload_n 3, 1) := by decide +kernel
theorem d_Mo_goOn_61 : decode m_Mo_goOn.2.1 61 = .ok (.iconst 2, 1) := by decide +kernel
theorem d_Mo_goOn_62 : decode m_Mo_goOn.2.1 62 = .ok (.if_icmp .eq 18, 3) := by decide +kernel
theorem d_Mo_goOn_65 : decode m_Mo_goOn.2.1 65 = .ok (.iload 4, 2) := by decide +kernel
theorem d_Mo_goOn_67 : decode m_Mo_goOn.2.1 67 = .ok (.ifCond .eq 17, 3) := by decide +kernel
theorem d_Mo_goOn_70 : decode m_Mo_goOn.2.1 70 = .ok (.aload_n 0, 1) := by decide +kernel
theorem d_Mo_goOn_71 : decode m_Mo_goOn.2.1 71 = .ok (.getfield 172, 3) := by decide +kernel
theorem d_Mo_goOn_74 : decode m_Mo_goOn.2.1 74 = .ok (.sipush 150, 3) := by decide +kernel
theorem d_Mo_goOn_77 : decode m_Mo_goOn.2.1 77 = .ok (.if_icmp .ne 7, 3) := by decide +kernel
theorem d_Mo_goOn_80 : decode m_Mo_goOn.2.1 80 = .ok (.iconst 1, 1) := by decide +kernel
theorem d_Mo_goOn_81 : decode m_Mo_goOn.2.1 81 = .ok (.goto 4, 3) := by decide +kernel
theorem d_Mo_goOn_84 : decode m_Mo_goOn.2.1 84 = .ok (.iconst 0, 1) := by decide +kernel
theorem d_Mo_goOn_85 : decode m_Mo_goOn.2.1 85 = .ok (.bastore, 1) := by decide +kernel
theorem d_Mo_goOn_86 : decode m_Mo_goOn.2.1 86 = .ok (.iload 4, 2) := by decide +kernel
theorem d_Mo_goOn_88 : decode m_Mo_goOn.2.1 88 = .ok (.ifCond .eq 32, 3) := by decide +kernel
theorem d_Mo_goOn_91 : decode m_Mo_goOn.2.1 91 = .ok (.aload_n 0, 1) := by decide +kernel
theorem d_Mo_goOn_92 : decode m_Mo_goOn.2.1 92 = .ok (.getfield 172, 3) := by decide +kernel
theorem d_Mo_goOn_95 : decode m_Mo_goOn.2.1 95 = .ok (.sipush 150, 3) := by decide +kernel
theorem d_Mo_goOn_98 : decode m_Mo_goOn.2.1 98 = .ok (.if_icmp .ge 22, 3) := by decide +kernel
theorem d_Mo_goOn_101 : decode m_Mo_goOn.2.1 101 = .ok (.aload_n 0, 1) := by decide +kernel
theorem d_Mo_goOn_102 : decode m_Mo_goOn.2.1 102 = .ok (.aload_n 0, 1) := by decide +kernel
theorem d_Mo_goOn_103 : decode m_Mo_goOn.2.1 103 = .ok (.getfield 55, 3) := by decide +kernel
theorem d_Mo_goOn_106 : decode m_Mo_goOn.2.1 106 = .ok (.iload_n 1, 1) := by decide +kernel
theorem d_Mo_goOn_107 : decode m_Mo_goOn.2.1 107 = .ok (.iaload, 1) := by decide +kernel
theorem d_Mo_goOn_108 : decode m_Mo_goOn.2.1 108 = .ok (.iconst 1, 1) := by decide +kernel
theorem d_Mo_goOn_109 : decode m_Mo_goOn.2.1 109 = .ok (.iadd, 1) := by decide +kernel
theorem d_Mo_goOn_110 : decode m_Mo_goOn.2.1 110 = .ok (.iload_n 1, 1) := by decide +kernel
theorem d_Mo_goOn_111 : decode m_Mo_goOn.2.1 111 = .ok (.aload_n 0, 1) := by decide +kernel
theorem d_Mo_goOn_112 : decode m_Mo_goOn.2.1 112 = .ok (.getfield 77, 3) := by decide +kernel
theorem d_Mo_goOn_115 : decode m_Mo_goOn.2.1 115 = .ok (.iload_n 2, 1) := by decide +kernel
theorem d_Mo_goOn_116 : decode m_Mo_goOn.2.1 116 = .ok (.iaload, 1) := by decide +kernel
theorem d_Mo_goOn_117 : decode m_Mo_goOn.2.1 117 = .ok (.invokevirtual 228, 3) := by decide +kernel
theorem d_Mo_goOn_120 : decode m_Mo_goOn.2.1 120 = .ok (.iinc 2 1, 3) := by decide +kernel
theorem d_Mo_goOn_123 : decode m_Mo_goOn.2.1 123 = .ok (.goto (-116), 3) := by decide +kernel
theorem d_Mo_goOn_126 : decode m_Mo_goOn.2.1 126 = .ok (.return_, 1) := by decide +kernel
theorem d_Mo_findNet_0 : decode m_Mo_findNet.2.1 0 = .ok (.aload_n 0, 1) := by decide +kernel
theorem d_Mo_findNet_1 : decode m_Mo_findNet.2.1 1 = .ok (.getfield 137, 3) := by decide +kernel
theorem d_Mo_findNet_4 : decode m_Mo_findNet.2.1 4 = .ok (.ifCond .eq 4, 3) := by decide +kernel
theorem d_Mo_findNet_7 : decode m_Mo_findNet.2.1 7 = .ok (.return_, 1) := by decide +kernel
theorem d_Mo_findNet_8 : decode m_Mo_findNet.2.1 8 = .ok (.aload_n 0, 1) := by decide +kernel
theorem d_Mo_findNet_9 : decode m_Mo_findNet.2.1 9 = .ok (.iconst 1, 1) := by decide +kernel
theorem d_Mo_findNet_10 : decode m_Mo_findNet.2.1 10 = .ok (.putfield 137, 3) := by decide +kernel
theorem d_Mo_findNet_13 : decode m_Mo_findNet.2.1 13 = .ok (.aload_n 0, 1) := by decide +kernel
theorem d_Mo_findNet_14 : decode m_Mo_findNet.2.1 14 = .ok (.invokevirtual 162, 3) := by decide +kernel
theorem d_Mo_findNet_17 : decode m_Mo_findNet.2.1 17 = .ok (.aload_n 0, 1) := by decide +kernel
theorem d_Mo_findNet_18 : decode m_Mo_findNet.2.1 18 = .ok (.iconst 0, 1) := by decide +kernel
theorem d_Mo_findNet_19 : decode m_Mo_findNet.2.1 19 = .ok (.putfield 172, 3) := by decide +kernel
theorem d_Mo_findNet_22 : decode m_Mo_findNet.2.1 22 = .ok (.iconst 0, 1) := by decide +kernel
theorem d_Mo_findNet_23 : decode m_Mo_findNet.2.1 23 = .ok (.istore_n 1, 1) := by decide +kernel
theorem d_Mo_findNet_24 : decode m_Mo_findNet.2.1 24 = .ok (.iload_n 1, 1) := by decide +kernel
theorem d_Mo_findNet_25 : decode m_Mo_findNet.2.1 25 = .ok (.iconst 2, 1) := by decide +kernel
theorem d_Mo_findNet_26 : decode m_Mo_findNet.2.1 26 = .ok (.if_icmp .ge 61, 3) := by decide +kernel
theorem d_Mo_findNet_29 : decode m_Mo_findNet.2.1 29 = .ok (.aload_n 0, 1) := by decide +kernel
theorem d_Mo_findNet_30 : decode m_Mo_findNet.2.1 30 = .ok (.getfield 71, 3) := by decide +kernel
theorem d_Mo_findNet_33 : decode m_Mo_findNet.2.1 33 = .ok (.iload_n 1, 1) := by decide +kernel
theorem d_Mo_findNet_34 : decode m_Mo_findNet.2.1 34 = .ok (.aload_n 0, 1) := by decide +kernel
theorem d_Mo_findNet_35 : decode m_Mo_findNet.2.1 35 = .ok (.getfield 13, 3) := by decide +kernel
theorem d_Mo_findNet_38 : decode m_Mo_findNet.2.1 38 = .ok (.iload_n 1, 1) := by decide +kernel
theorem d_Mo_findNet_39 : decode m_Mo_findNet.2.1 39 = .ok (.iaload, 1) := by decide +kernel
theorem d_Mo_findNet_40 : decode m_Mo_findNet.2.1 40 = .ok (.iastore, 1) := by decide +kernel
theorem d_Mo_findNet_41 : decode m_Mo_findNet.2.1 41 = .ok (.iconst 0, 1) := by decide +kernel
theorem d_Mo_findNet_42 : decode m_Mo_findNet.2.1 42 = .ok (.istore_n 2, 1) := by decide +kernel
theorem d_Mo_findNet_43 : decode m_Mo_findNet.2.1 43 = .ok (.iload_n 2, 1) := by decide +kernel
theorem d_Mo_findNet_44 : decode m_Mo_findNet.2.1 44 = .ok (.aload_n 0, 1) := by decide +kernel
theorem d_Mo_findNet_45 : decode m_Mo_findNet.2.1 45 = .ok (.getfield 13, 3) := by decide +kernel
theorem d_Mo_findNet_48 : decode m_Mo_findNet.2.1 48 = .ok (.iload_n 1, 1) := by decide +kernel
theorem d_Mo_findNet_49 : decode m_Mo_findNet.2.1 49 = .ok (.iaload, 1) := by decide +kernel
theorem d_Mo_findNet_50 : decode m_Mo_findNet.2.1 50 = .ok (.if_icmp .ge 31, 3) := by decide +kernel
theorem d_Mo_findNet_53 : decode m_Mo_findNet.2.1 53 = .ok (.aload_n 0, 1) := by decide +kernel
theorem d_Mo_findNet_54 : decode m_Mo_findNet.2.1 54 = .ok (.getfield 68, 3) := by decide +kernel
theorem d_Mo_findNet_57 : decode m_Mo_findNet.2.1 57 = .ok (.bipush 48, 2) := by decide +kernel
theorem d_Mo_findNet_59 : decode m_Mo_findNet.2.1 59 = .ok (.iload_n 1, 1) := by decide +kernel
theorem d_Mo_findNet_60 : decode m_Mo_findNet.2.1 60 = .ok (.imul, 1) := by decide +kernel
theorem d_Mo_findNet_61 : decode m_Mo_findNet.2.1 61 = .ok (.iload_n 2, 1) := by decide +kernel
theorem d_Mo_findNet_62 : decode m_Mo_findNet.2.1 62 = .ok (.iadd, 1) := by decide +kernel
theorem d_Mo_findNet_63 : decode m_Mo_findNet.2.1 63 = .ok (.aload_n 0, 1) := by decide +kernel
theorem d_Mo_findNet_64 : decode m_Mo_findNet.2.1 64 = .ok (.getfield 7, 3) := by decide +kernel
theorem d_Mo_findNet_67 : decode m_Mo_findNet.2.1 67 = .ok (.bipush 12, 2) := by decide +kernel
theorem d_Mo_findNet_69 : decode m_Mo_findNet.2.1 69 = .ok (.iload_n 1, 1) := by decide +kernel
theorem d_Mo_findNet_70 : decode m_Mo_findNet.2.1 70 = .ok (.imul, 1) := by decide +kernel
theorem d_Mo_findNet_71 : decode m_Mo_findNet.2.1 71 = .ok (.iload_n 2, 1) := by decide +kernel
theorem d_Mo_findNet_72 : decode m_Mo_findNet.2.1 72 = .ok (.iadd, 1) := by decide +kernel
theorem d_Mo_findNet_73 : decode m_Mo_findNet.2.1 73 = .ok (.iaload, 1) := by decide +kernel
theorem d_Mo_findNet_74 : decode m_Mo_findNet.2.1 74 = .ok (.iastore, 1) := by decide +kernel
theorem d_Mo_findNet_75 : decode m_Mo_findNet.2.1 75 = .ok (.iinc 2 1, 3) := by decide +kernel
theorem d_Mo_findNet_78 : decode m_Mo_findNet.2.1 78 = .ok (.goto (-35), 3) := by decide +kernel
theorem d_Mo_findNet_81 : decode m_Mo_findNet.2.1 81 = .ok (.iinc 1 1, 3) := by decide +kernel
theorem d_Mo_findNet_84 : decode m_Mo_findNet.2.1 84 = .ok (.goto (-60), 3) := by decide +kernel
theorem d_Mo_findNet_87 : decode m_Mo_findNet.2.1 87 = .ok (.iconst 0, 1) := by decide +kernel
theorem d_Mo_findNet_88 : decode m_Mo_findNet.2.1 88 = .ok (.istore_n 1, 1) := by decide +kernel
theorem d_Mo_findNet_89 : decode m_Mo_findNet.2.1 89 = .ok (.iload_n 1, 1) := by decide +kernel
theorem d_Mo_findNet_90 : decode m_Mo_findNet.2.1 90 = .ok (.bipush 9, 2) := by decide +kernel
theorem d_Mo_findNet_92 : decode m_Mo_findNet.2.1 92 = .ok (.if_icmp .ge 21, 3) := by decide +kernel
theorem d_Mo_findNet_95 : decode m_Mo_findNet.2.1 95 = .ok (.aload_n 0, 1) := by decide +kernel
theorem d_Mo_findNet_96 : decode m_Mo_findNet.2.1 96 = .ok (.getfield 74, 3) := by decide +kernel
theorem d_Mo_findNet_99 : decode m_Mo_findNet.2.1 99 = .ok (.iload_n 1, 1) := by decide +kernel
theorem d_Mo_findNet_100 : decode m_Mo_findNet.2.1 100 = .ok (.aload_n 0, 1) := by decide +kernel
theorem d_Mo_findNet_101 : decode m_Mo_findNet.2.1 101 = .ok (.getfield 19, 3) := by decide +kernel
theorem d_Mo_findNet_104 : decode m_Mo_findNet.2.1 104 = .ok (.iload_n 1, 1) := by decide +kernel
theorem d_Mo_findNet_105 : decode m_Mo_findNet.2.1 105 = .ok (.iaload, 1) := by decide +kernel
theorem d_Mo_findNet_106 : decode m_Mo_findNet.2.1 106 = .ok (.iastore, 1) := by decide +kernel
theorem d_Mo_findNet_107 : decode m_Mo_findNet.2.1 107 = .ok (.iinc 1 1, 3) := by decide +kernel
theorem d_Mo_findNet_110 : decode m_Mo_findNet.2.1 110 = .ok (.goto (-21), 3) := by decide +kernel
theorem d_Mo_findNet_113 : decode m_Mo_findNet.2.1 113 = .ok (.aload_n 0, 1) := by decide +kernel
theorem d_Mo_findNet_114 : decode m_Mo_findNet.2.1 114 = .ok (.invokevirtual 211, 3) := by decide +kernel
theorem d_Mo_findNet_117 : decode m_Mo_findNet.2.1 117 = .ok (.aload_n 0, 1) := by decide +kernel
theorem d_Mo_findNet_118 : decode m_Mo_findNet.2.1 118 = .ok (.iconst 0, 1) := by decide +kernel
theorem d_Mo_findNet_119 : decode m_Mo_findNet.2.1 119 = .ok (.bipush (-6), 2) := by decide +kernel
theorem d_Mo_findNet_121 : decode m_Mo_findNet.2.1 121 = .ok (.bipush (-6), 2) := by decide +kernel
theorem d_Mo_findNet_123 : decode m_Mo_findNet.2.1 123 = .ok (.invokevirtual 228, 3) := by decide +kernel
theorem d_Mo_findNet_126 : decode m_Mo_findNet.2.1 126 = .ok (.iconst 0, 1) := by decide +kernel
theorem d_Mo_findNet_127 : decode m_Mo_findNet.2.1 127 = .ok (.istore_n 1, 1) := by decide +kernel
theorem d_Mo_findNet_128 : decode m_Mo_findNet.2.1 128 = .ok (.iload_n 1, 1) := by decide +kernel
theorem d_Mo_findNet_129 : decode m_Mo_findNet.2.1 129 = .ok (.aload_n 0, 1) := by decide +kernel
theorem d_Mo_findNet_130 : decode m_Mo_findNet.2.1 130 = .ok (.getfield 172, 3) := by decide +kernel
theorem d_Mo_findNet_133 : decode m_Mo_findNet.2.1 133 = .ok (.if_icmp .ge 22, 3) := by decide +kernel
theorem d_Mo_findNet_136 : decode m_Mo_findNet.2.1 136 = .ok (.aload_n 0, 1) := by decide +kernel
theorem d_Mo_findNet_137 : decode m_Mo_findNet.2.1 137 = .ok (.iload_n 1, 1) := by decide +kernel
theorem d_Mo_findNet_138 : decode m_Mo_findNet.2.1 138 = .ok (.invokevirtual 231, 3) := by decide +kernel
theorem d_Mo_findNet_141 : decode m_Mo_findNet.2.1 141 = .ok (.ifCond .ne 8, 3) := by decide +kernel
theorem d_Mo_findNet_144 : decode m_Mo_findNet.2.1 144 = .ok (.aload_n 0, 1) := by decide +kernel
theorem d_Mo_findNet_145 : decode m_Mo_findNet.2.1 145 = .ok (.iload_n 1, 1) := by decide +kernel
theorem d_Mo_findNet_146 : decode m_Mo_findNet.2.1 146 = .ok (.invokevirtual 234, 3) := by decide +kernel
theorem d_Mo_findNet_149 : decode m_Mo_findNet.2.1 149 = .ok (.iinc 1 1, 3) := by decide +kernel
theorem d_Mo_findNet_152 : decode m_Mo_findNet.2.1 152 = .ok (.goto (-24), 3) := by decide +kernel
theorem d_Mo_findNet_155 : decode m_Mo_findNet.2.1 155 = .ok (.return_, 1) := by decide +kernel
theorem d_Mo_firstEnd_0 : decode m_Mo_firstEnd.2.1 0 = .ok (.iconst 0, 1) := by decide +kernel
theorem d_Mo_firstEnd_1 : decode m_Mo_firstEnd.2.1 1 = .ok (.istore_n 1, 1) := by decide +kernel
theorem d_Mo_firstEnd_2 : decode m_Mo_firstEnd.2.1 2 = .ok (.iload_n 1, 1) := by decide +kernel
theorem d_Mo_firstEnd_3 : decode m_Mo_firstEnd.2.1 3 = .ok (.aload_n 0, 1) := by decide +kernel
theorem d_Mo_firstEnd_4 : decode m_Mo_firstEnd.2.1 4 = .ok (.getfield 172, 3) := by decide +kernel
theorem d_Mo_firstEnd_7 : decode m_Mo_firstEnd.2.1 7 = .ok (.if_icmp .ge 19, 3) := by decide +kernel
theorem d_Mo_firstEnd_10 : decode m_Mo_firstEnd.2.1 10 = .ok (.aload_n 0, 1) := by decide +kernel
theorem d_Mo_firstEnd_11 : decode m_Mo_firstEnd.2.1 11 = .ok (.iload_n 1, 1) := by decide +kernel
theorem d_Mo_firstEnd_12 : decode m_Mo_firstEnd.2.1 12 = .ok (.invokevirtual 231, 3) := by decide +kernel
theorem d_Mo_firstEnd_15 : decode m_Mo_firstEnd.2.1 15 = .ok (.ifCond .eq 5, 3) := by decide +kernel
theorem d_Mo_firstEnd_18 : decode m_Mo_firstEnd.2.1 18 = .ok (.iload_n 1, 1) := by decide +kernel
theorem d_Mo_firstEnd_19 : decode m_Mo_firstEnd.2.1 19 = .ok (.ireturn, 1) := by decide +kernel
theorem d_Mo_firstEnd_20 : decode m_Mo_firstEnd.2.1 20 = .ok (.iinc 1 1, 3) := by decide +kernel
theorem d_Mo_firstEnd_23 : decode m_Mo_firstEnd.2.1 23 = .ok (.goto (-21), 3) := by decide +kernel
theorem d_Mo_firstEnd_26 : decode m_Mo_firstEnd.2.1 26 = .ok (.bipush (-6), 2) := by decide +kernel
theorem d_Mo_firstEnd_28 : decode m_Mo_firstEnd.2.1 28 = .ok (.ireturn, 1) := by decide +kernel
theorem d_Mo_cuts_0 : decode m_Mo_cuts.2.1 0 = .ok (.iconst 0, 1) := by decide +kernel
theorem d_Mo_cuts_1 : decode m_Mo_cuts.2.1 1 = .ok (.istore_n 1, 1) := by decide +kernel
theorem d_Mo_cuts_2 : decode m_Mo_cuts.2.1 2 = .ok (.iconst 0, 1) := by decide +kernel
theorem d_Mo_cuts_3 : decode m_Mo_cuts.2.1 3 = .ok (.istore_n 2, 1) := by decide +kernel
theorem d_Mo_cuts_4 : decode m_Mo_cuts.2.1 4 = .ok (.iload_n 2, 1) := by decide +kernel
theorem d_Mo_cuts_5 : decode m_Mo_cuts.2.1 5 = .ok (.aload_n 0, 1) := by decide +kernel
theorem d_Mo_cuts_6 : decode m_Mo_cuts.2.1 6 = .ok (.getfield 172, 3) := by decide +kernel
theorem d_Mo_cuts_9 : decode m_Mo_cuts.2.1 9 = .ok (.if_icmp .ge 26, 3) := by decide +kernel
theorem d_Mo_cuts_12 : decode m_Mo_cuts.2.1 12 = .ok (.iload_n 1, 1) := by decide +kernel
theorem d_Mo_cuts_13 : decode m_Mo_cuts.2.1 13 = .ok (.aload_n 0, 1) := by decide +kernel
theorem d_Mo_cuts_14 : decode m_Mo_cuts.2.1 14 = .ok (.getfield 64, 3) := by decide +kernel
theorem d_Mo_cuts_17 : decode m_Mo_cuts.2.1 17 = .ok (.iload_n 2, 1) := by decide +kernel
theorem d_Mo_cuts_18 : decode m_Mo_cuts.2.1 18 = .ok (.baload, 1) := by decide +kernel
theorem d_Mo_cuts_19 : decode m_Mo_cuts.2.1 19 = .ok (.ifCond .eq 7, 3) := by decide +kernel
theorem d_Mo_cuts_22 : decode m_Mo_cuts.2.1 22 = .ok (.iconst 1, 1) := by decide +kernel
theorem d_Mo_cuts_23 : decode m_Mo_cuts.2.1 23 = .ok (.goto 4, 3) := by decide +kernel
theorem d_Mo_cuts_26 : decode m_Mo_cuts.2.1 26 = .ok (.iconst 0, 1) := by decide +kernel
theorem d_Mo_cuts_27 : decode m_Mo_cuts.2.1 27 = .ok (.iadd, 1) := by decide +kernel
theorem d_Mo_cuts_28 : decode m_Mo_cuts.2.1 28 = .ok (.istore_n 1, 1) := by decide +kernel
theorem d_Mo_cuts_29 : decode m_Mo_cuts.2.1 29 = .ok (.iinc 2 1, 3) := by decide +kernel
theorem d_Mo_cuts_32 : decode m_Mo_cuts.2.1 32 = .ok (.goto (-28), 3) := by decide +kernel
theorem d_Mo_cuts_35 : decode m_Mo_cuts.2.1 35 = .ok (.iload_n 1, 1) := by decide +kernel
theorem d_Mo_cuts_36 : decode m_Mo_cuts.2.1 36 = .ok (.ireturn, 1) := by decide +kernel
theorem d_Mo_mostOfOne_0 : decode m_Mo_mostOfOne.2.1 0 = .ok (.iconst 0, 1) := by decide +kernel
theorem d_Mo_mostOfOne_1 : decode m_Mo_mostOfOne.2.1 1 = .ok (.istore_n 1, 1) := by decide +kernel
theorem d_Mo_mostOfOne_2 : decode m_Mo_mostOfOne.2.1 2 = .ok (.iconst 0, 1) := by decide +kernel
theorem d_Mo_mostOfOne_3 : decode m_Mo_mostOfOne.2.1 3 = .ok (.istore_n 2, 1) := by decide +kernel
theorem d_Mo_mostOfOne_4 : decode m_Mo_mostOfOne.2.1 4 = .ok (.iload_n 2, 1) := by decide +kernel
theorem d_Mo_mostOfOne_5 : decode m_Mo_mostOfOne.2.1 5 = .ok (.iconst 3, 1) := by decide +kernel
theorem d_Mo_mostOfOne_6 : decode m_Mo_mostOfOne.2.1 6 = .ok (.if_icmp .ge 85, 3) := by decide +kernel
theorem d_Mo_mostOfOne_9 : decode m_Mo_mostOfOne.2.1 9 = .ok (.iconst 0, 1) := by decide +kernel
theorem d_Mo_mostOfOne_10 : decode m_Mo_mostOfOne.2.1 10 = .ok (.istore_n 3, 1) := by decide +kernel
theorem d_Mo_mostOfOne_11 : decode m_Mo_mostOfOne.2.1 11 = .ok (.iconst 0, 1) := by decide +kernel
theorem d_Mo_mostOfOne_12 : decode m_Mo_mostOfOne.2.1 12 = .ok (.istore 4, 2) := by decide +kernel
theorem d_Mo_mostOfOne_14 : decode m_Mo_mostOfOne.2.1 14 = .ok (.iload 4, 2) := by decide +kernel
theorem d_Mo_mostOfOne_16 : decode m_Mo_mostOfOne.2.1 16 = .ok (.iconst 2, 1) := by decide +kernel
theorem d_Mo_mostOfOne_17 : decode m_Mo_mostOfOne.2.1 17 = .ok (.if_icmp .ge 57, 3) := by decide +kernel
theorem d_Mo_mostOfOne_20 : decode m_Mo_mostOfOne.2.1 20 = .ok (.iconst 0, 1) := by decide +kernel
theorem d_Mo_mostOfOne_21 : decode m_Mo_mostOfOne.2.1 21 = .ok (.istore 5, 2) := by decide +kernel
theorem d_Mo_mostOfOne_23 : decode m_Mo_mostOfOne.2.1 23 = .ok (.iload 5, 2) := by decide +kernel
theorem d_Mo_mostOfOne_25 : decode m_Mo_mostOfOne.2.1 25 = .ok (.aload_n 0, 1) := by decide +kernel
theorem d_Mo_mostOfOne_26 : decode m_Mo_mostOfOne.2.1 26 = .ok (.getfield 13, 3) := by decide +kernel
theorem d_Mo_mostOfOne_29 : decode m_Mo_mostOfOne.2.1 29 = .ok (.iload 4, 2) := by decide +kernel
theorem d_Mo_mostOfOne_31 : decode m_Mo_mostOfOne.2.1 31 = .ok (.iaload, 1) := by decide +kernel
theorem d_Mo_mostOfOne_32 : decode m_Mo_mostOfOne.2.1 32 = .ok (.if_icmp .ge 36, 3) := by decide +kernel
theorem d_Mo_mostOfOne_35 : decode m_Mo_mostOfOne.2.1 35 = .ok (.iload_n 3, 1) := by decide +kernel
theorem d_Mo_mostOfOne_36 : decode m_Mo_mostOfOne.2.1 36 = .ok (.aload_n 0, 1) := by decide +kernel
theorem d_Mo_mostOfOne_37 : decode m_Mo_mostOfOne.2.1 37 = .ok (.getfield 7, 3) := by decide +kernel
theorem d_Mo_mostOfOne_40 : decode m_Mo_mostOfOne.2.1 40 = .ok (.bipush 12, 2) := by decide +kernel
theorem d_Mo_mostOfOne_42 : decode m_Mo_mostOfOne.2.1 42 = .ok (.iload 4, 2) := by decide +kernel
theorem d_Mo_mostOfOne_44 : decode m_Mo_mostOfOne.2.1 44 = .ok (.imul, 1) := by decide +kernel
theorem d_Mo_mostOfOne_45 : decode m_Mo_mostOfOne.2.1 45 = .ok (.iload 5, 2) := by decide +kernel
theorem d_Mo_mostOfOne_47 : decode m_Mo_mostOfOne.2.1 47 = .ok (.iadd, 1) := by decide +kernel
theorem d_Mo_mostOfOne_48 : decode m_Mo_mostOfOne.2.1 48 = .ok (.iaload, 1) := by decide +kernel
theorem d_Mo_mostOfOne_49 : decode m_Mo_mostOfOne.2.1 49 = .ok (.iload_n 2, 1) := by decide +kernel
theorem d_Mo_mostOfOne_50 : decode m_Mo_mostOfOne.2.1 50 = .ok (.iconst 2, 1) := by decide +kernel
theorem d_Mo_mostOfOne_51 : decode m_Mo_mostOfOne.2.1 51 = .ok (.iadd, 1) := by decide +kernel
theorem d_Mo_mostOfOne_52 : decode m_Mo_mostOfOne.2.1 52 = .ok (.if_icmp .ne 7, 3) := by decide +kernel
theorem d_Mo_mostOfOne_55 : decode m_Mo_mostOfOne.2.1 55 = .ok (.iconst 1, 1) := by decide +kernel
theorem d_Mo_mostOfOne_56 : decode m_Mo_mostOfOne.2.1 56 = .ok (.goto 4, 3) := by decide +kernel
theorem d_Mo_mostOfOne_59 : decode m_Mo_mostOfOne.2.1 59 = .ok (.iconst 0, 1) := by decide +kernel
theorem d_Mo_mostOfOne_60 : decode m_Mo_mostOfOne.2.1 60 = .ok (.iadd, 1) := by decide +kernel
theorem d_Mo_mostOfOne_61 : decode m_Mo_mostOfOne.2.1 61 = .ok (.istore_n 3, 1) := by decide +kernel
theorem d_Mo_mostOfOne_62 : decode m_Mo_mostOfOne.2.1 62 = .ok (.iinc 5 1, 3) := by decide +kernel
theorem d_Mo_mostOfOne_65 : decode m_Mo_mostOfOne.2.1 65 = .ok (.goto (-42), 3) := by decide +kernel
theorem d_Mo_mostOfOne_68 : decode m_Mo_mostOfOne.2.1 68 = .ok (.iinc 4 1, 3) := by decide +kernel
theorem d_Mo_mostOfOne_71 : decode m_Mo_mostOfOne.2.1 71 = .ok (.goto (-57), 3) := by decide +kernel
theorem d_Mo_mostOfOne_74 : decode m_Mo_mostOfOne.2.1 74 = .ok (.iload_n 3, 1) := by decide +kernel
theorem d_Mo_mostOfOne_75 : decode m_Mo_mostOfOne.2.1 75 = .ok (.iload_n 1, 1) := by decide +kernel
theorem d_Mo_mostOfOne_76 : decode m_Mo_mostOfOne.2.1 76 = .ok (.if_icmp .le 7, 3) := by decide +kernel
theorem d_Mo_mostOfOne_79 : decode m_Mo_mostOfOne.2.1 79 = .ok (.iload_n 3, 1) := by decide +kernel
theorem d_Mo_mostOfOne_80 : decode m_Mo_mostOfOne.2.1 80 = .ok (.goto 4, 3) := by decide +kernel
theorem d_Mo_mostOfOne_83 : decode m_Mo_mostOfOne.2.1 83 = .ok (.iload_n 1, 1) := by decide +kernel
theorem d_Mo_mostOfOne_84 : decode m_Mo_mostOfOne.2.1 84 = .ok (.istore_n 1, 1) := by decide +kernel
theorem d_Mo_mostOfOne_85 : decode m_Mo_mostOfOne.2.1 85 = .ok (.iinc 2 1, 3) := by decide +kernel
theorem d_Mo_mostOfOne_88 : decode m_Mo_mostOfOne.2.1 88 = .ok (.goto (-84), 3) := by decide +kernel
theorem d_Mo_mostOfOne_91 : decode m_Mo_mostOfOne.2.1 91 = .ok (.iload_n 1, 1) := by decide +kernel
theorem d_Mo_mostOfOne_92 : decode m_Mo_mostOfOne.2.1 92 = .ok (.ireturn, 1) := by decide +kernel
theorem d_Mo_net_0 : decode m_Mo_net.2.1 0 = .ok (.iload_n 1, 1) := by decide +kernel
theorem d_Mo_net_1 : decode m_Mo_net.2.1 1 = .ok (.i2l, 1) := by decide +kernel
theorem d_Mo_net_2 : decode m_Mo_net.2.1 2 = .ok (.lconst 0, 1) := by decide +kernel
theorem d_Mo_net_3 : decode m_Mo_net.2.1 3 = .ok (.ldc2_w 237, 3) := by decide +kernel
theorem d_Mo_net_6 : decode m_Mo_net.2.1 6 = .ok (.invokestatic 109, 3) := by decide +kernel
theorem d_Mo_net_9 : decode m_Mo_net.2.1 9 = .ok (.ifCond .ne 6, 3) := by decide +kernel
theorem d_Mo_net_12 : decode m_Mo_net.2.1 12 = .ok (.bipush (-2), 2) := by decide +kernel
theorem d_Mo_net_14 : decode m_Mo_net.2.1 14 = .ok (.ireturn, 1) := by decide +kernel
theorem d_Mo_net_15 : decode m_Mo_net.2.1 15 = .ok (.aload_n 0, 1) := by decide +kernel
theorem d_Mo_net_16 : decode m_Mo_net.2.1 16 = .ok (.invokevirtual 239, 3) := by decide +kernel
theorem d_Mo_net_19 : decode m_Mo_net.2.1 19 = .ok (.iload_n 1, 1) := by decide +kernel
theorem d_Mo_net_20 : decode m_Mo_net.2.1 20 = .ok (.tableswitch 87 0 4 #[36, 41, 65, 70, 82], 36) := by decide +kernel
theorem d_Mo_net_56 : decode m_Mo_net.2.1 56 = .ok (.aload_n 0, 1) := by decide +kernel
theorem d_Mo_net_57 : decode m_Mo_net.2.1 57 = .ok (.getfield 172, 3) := by decide +kernel
theorem d_Mo_net_60 : decode m_Mo_net.2.1 60 = .ok (.ireturn, 1) := by decide +kernel
theorem d_Mo_net_61 : decode m_Mo_net.2.1 61 = .ok (.aload_n 0, 1) := by decide +kernel
theorem d_Mo_net_62 : decode m_Mo_net.2.1 62 = .ok (.invokevirtual 242, 3) := by decide +kernel
theorem d_Mo_net_65 : decode m_Mo_net.2.1 65 = .ok (.ifCond .lt 7, 3) := by decide +kernel
theorem d_Mo_net_68 : decode m_Mo_net.2.1 68 = .ok (.iconst 1, 1) := by decide +kernel
theorem d_Mo_net_69 : decode m_Mo_net.2.1 69 = .ok (.goto 15, 3) := by decide +kernel
theorem d_Mo_net_72 : decode m_Mo_net.2.1 72 = .ok (.aload_n 0, 1) := by decide +kernel
theorem d_Mo_net_73 : decode m_Mo_net.2.1 73 = .ok (.invokevirtual 245, 3) := by decide +kernel
theorem d_Mo_net_76 : decode m_Mo_net.2.1 76 = .ok (.ifCond .ne 7, 3) := by decide +kernel
theorem d_Mo_net_79 : decode m_Mo_net.2.1 79 = .ok (.iconst 0, 1) := by decide +kernel
theorem d_Mo_net_80 : decode m_Mo_net.2.1 80 = .ok (.goto 4, 3) := by decide +kernel
theorem d_Mo_net_83 : decode m_Mo_net.2.1 83 = .ok (.iconst 2, 1) := by decide +kernel
theorem d_Mo_net_84 : decode m_Mo_net.2.1 84 = .ok (.ireturn, 1) := by decide +kernel
theorem d_Mo_net_85 : decode m_Mo_net.2.1 85 = .ok (.aload_n 0, 1) := by decide +kernel
theorem d_Mo_net_86 : decode m_Mo_net.2.1 86 = .ok (.invokevirtual 242, 3) := by decide +kernel
theorem d_Mo_net_89 : decode m_Mo_net.2.1 89 = .ok (.ireturn, 1) := by decide +kernel
theorem d_Mo_net_90 : decode m_Mo_net.2.1 90 = .ok (.aload_n 0, 1) := by decide +kernel
theorem d_Mo_net_91 : decode m_Mo_net.2.1 91 = .ok (.getfield 55, 3) := by decide +kernel
theorem d_Mo_net_94 : decode m_Mo_net.2.1 94 = .ok (.aload_n 0, 1) := by decide +kernel
theorem d_Mo_net_95 : decode m_Mo_net.2.1 95 = .ok (.getfield 172, 3) := by decide +kernel
theorem d_Mo_net_98 : decode m_Mo_net.2.1 98 = .ok (.iconst 1, 1) := by decide +kernel
theorem d_Mo_net_99 : decode m_Mo_net.2.1 99 = .ok (.isub, 1) := by decide +kernel
theorem d_Mo_net_100 : decode m_Mo_net.2.1 100 = .ok (.iaload, 1) := by decide +kernel
theorem d_Mo_net_101 : decode m_Mo_net.2.1 101 = .ok (.ireturn, 1) := by decide +kernel
theorem d_Mo_net_102 : decode m_Mo_net.2.1 102 = .ok (.aload_n 0, 1) := by decide +kernel
theorem d_Mo_net_103 : decode m_Mo_net.2.1 103 = .ok (.invokevirtual 245, 3) := by decide +kernel
theorem d_Mo_net_106 : decode m_Mo_net.2.1 106 = .ok (.ireturn, 1) := by decide +kernel
theorem d_Mo_net_107 : decode m_Mo_net.2.1 107 = .ok (.aload_n 0, 1) := by decide +kernel
theorem d_Mo_net_108 : decode m_Mo_net.2.1 108 = .ok (.invokevirtual 248, 3) := by decide +kernel
theorem d_Mo_net_111 : decode m_Mo_net.2.1 111 = .ok (.ireturn, 1) := by decide +kernel
theorem d_Mo_isNode_0 : decode m_Mo_isNode.2.1 0 = .ok (.aload_n 0, 1) := by decide +kernel
theorem d_Mo_isNode_1 : decode m_Mo_isNode.2.1 1 = .ok (.invokevirtual 239, 3) := by decide +kernel
theorem d_Mo_isNode_4 : decode m_Mo_isNode.2.1 4 = .ok (.iload_n 1, 1) := by decide +kernel
theorem d_Mo_isNode_5 : decode m_Mo_isNode.2.1 5 = .ok (.i2l, 1) := by decide +kernel
theorem d_Mo_isNode_6 : decode m_Mo_isNode.2.1 6 = .ok (.lconst 0, 1) := by decide +kernel
theorem d_Mo_isNode_7 : decode m_Mo_isNode.2.1 7 = .ok (.aload_n 0, 1) := by decide +kernel
theorem d_Mo_isNode_8 : decode m_Mo_isNode.2.1 8 = .ok (.getfield 172, 3) := by decide +kernel
theorem d_Mo_isNode_11 : decode m_Mo_isNode.2.1 11 = .ok (.iconst 1, 1) := by decide +kernel
theorem d_Mo_isNode_12 : decode m_Mo_isNode.2.1 12 = .ok (.isub, 1) := by decide +kernel
theorem d_Mo_isNode_13 : decode m_Mo_isNode.2.1 13 = .ok (.i2l, 1) := by decide +kernel
theorem d_Mo_isNode_14 : decode m_Mo_isNode.2.1 14 = .ok (.invokestatic 109, 3) := by decide +kernel
theorem d_Mo_isNode_17 : decode m_Mo_isNode.2.1 17 = .ok (.ireturn, 1) := by decide +kernel
theorem d_Mo_findLeading_0 : decode m_Mo_findLeading.2.1 0 = .ok (.aload_n 0, 1) := by decide +kernel
theorem d_Mo_findLeading_1 : decode m_Mo_findLeading.2.1 1 = .ok (.iconst 0, 1) := by decide +kernel
theorem d_Mo_findLeading_2 : decode m_Mo_findLeading.2.1 2 = .ok (.putfield 251, 3) := by decide +kernel
theorem d_Mo_findLeading_5 : decode m_Mo_findLeading.2.1 5 = .ok (.aload_n 0, 1) := by decide +kernel
theorem d_Mo_findLeading_6 : decode m_Mo_findLeading.2.1 6 = .ok (.bipush (-6), 2) := by decide +kernel
theorem d_Mo_findLeading_8 : decode m_Mo_findLeading.2.1 8 = .ok (.putfield 254, 3) := by decide +kernel
theorem d_Mo_findLeading_11 : decode m_Mo_findLeading.2.1 11 = .ok (.aload_n 0, 1) := by decide +kernel
theorem d_Mo_findLeading_12 : decode m_Mo_findLeading.2.1 12 = .ok (.bipush (-6), 2) := by decide +kernel
theorem d_Mo_findLeading_14 : decode m_Mo_findLeading.2.1 14 = .ok (.putfield 257, 3) := by decide +kernel
theorem d_Mo_findLeading_17 : decode m_Mo_findLeading.2.1 17 = .ok (.aload_n 0, 1) := by decide +kernel
theorem d_Mo_findLeading_18 : decode m_Mo_findLeading.2.1 18 = .ok (.iconst 0, 1) := by decide +kernel
theorem d_Mo_findLeading_19 : decode m_Mo_findLeading.2.1 19 = .ok (.putfield 178, 3) := by decide +kernel
theorem d_Mo_findLeading_22 : decode m_Mo_findLeading.2.1 22 = .ok (.aload_n 0, 1) := by decide +kernel
theorem d_Mo_findLeading_23 : decode m_Mo_findLeading.2.1 23 = .ok (.iload_n 1, 1) := by decide +kernel
theorem d_Mo_findLeading_24 : decode m_Mo_findLeading.2.1 24 = .ok (.invokevirtual 231, 3) := by decide +kernel
theorem d_Mo_findLeading_27 : decode m_Mo_findLeading.2.1 27 = .ok (.ifCond .ne 8, 3) := by decide +kernel
theorem d_Mo_findLeading_30 : decode m_Mo_findLeading.2.1 30 = .ok (.aload_n 0, 1) := by decide +kernel
theorem d_Mo_findLeading_31 : decode m_Mo_findLeading.2.1 31 = .ok (.iload_n 1, 1) := by decide +kernel
theorem d_Mo_findLeading_32 : decode m_Mo_findLeading.2.1 32 = .ok (.invokevirtual 218, 3) := by decide +kernel
theorem d_Mo_findLeading_35 : decode m_Mo_findLeading.2.1 35 = .ok (.iconst 0, 1) := by decide +kernel
theorem d_Mo_findLeading_36 : decode m_Mo_findLeading.2.1 36 = .ok (.istore_n 3, 1) := by decide +kernel
theorem d_Mo_findLeading_37 : decode m_Mo_findLeading.2.1 37 = .ok (.iload_n 3, 1) := by decide +kernel
theorem d_Mo_findLeading_38 : decode m_Mo_findLeading.2.1 38 = .ok (.aload_n 0, 1) := by decide +kernel
theorem d_Mo_findLeading_39 : decode m_Mo_findLeading.2.1 39 = .ok (.getfield 178, 3) := by decide +kernel
theorem d_Mo_findLeading_42 : decode m_Mo_findLeading.2.1 42 = .ok (.if_icmp .ge 96, 3) := by decide +kernel
theorem d_Mo_findLeading_45 : decode m_Mo_findLeading.2.1 45 = .ok (.aload_n 0, 1) := by decide +kernel
theorem d_Mo_findLeading_46 : decode m_Mo_findLeading.2.1 46 = .ok (.iload_n 1, 1) := by decide +kernel
theorem d_Mo_findLeading_47 : decode m_Mo_findLeading.2.1 47 = .ok (.aload_n 0, 1) := by decide +kernel
theorem d_Mo_findLeading_48 : decode m_Mo_findLeading.2.1 48 = .ok (.getfield 77, 3) := by decide +kernel
theorem d_Mo_findLeading_51 : decode m_Mo_findLeading.2.1 51 = .ok (.iload_n 3, 1) := by decide +kernel
theorem d_Mo_findLeading_52 : decode m_Mo_findLeading.2.1 52 = .ok (.iaload, 1) := by decide +kernel
theorem d_Mo_findLeading_53 : decode m_Mo_findLeading.2.1 53 = .ok (.invokevirtual 222, 3) := by decide +kernel
theorem d_Mo_findLeading_56 : decode m_Mo_findLeading.2.1 56 = .ok (.iconst 1, 1) := by decide +kernel
theorem d_Mo_findLeading_57 : decode m_Mo_findLeading.2.1 57 = .ok (.if_icmp .ne 10, 3) := by decide +kernel
theorem d_Mo_findLeading_60 : decode m_Mo_findLeading.2.1 60 = .ok (.aload_n 0, 1) := by decide +kernel
theorem d_Mo_findLeading_61 : decode m_Mo_findLeading.2.1 61 = .ok (.invokevirtual 225, 3) := by decide +kernel
theorem d_Mo_findLeading_64 : decode m_Mo_findLeading.2.1 64 = .ok (.goto 5, 3) := by decide +kernel
theorem d_Mo_findLeading_67 : decode m_Mo_findLeading.2.1 67 = .ok (.bipush (-6), 2) := by decide +kernel
theorem d_Mo_findLeading_69 : decode m_Mo_findLeading.2.1 69 = .ok (.istore 4, 2) := by decide +kernel
theorem d_Mo_findLeading_71 : decode m_Mo_findLeading.2.1 71 = .ok (.iload 4, 2) := by decide +kernel
theorem d_Mo_findLeading_73 : decode m_Mo_findLeading.2.1 73 = .ok (.ifCond .lt 59, 3) := by decide +kernel
theorem d_Mo_findLeading_76 : decode m_Mo_findLeading.2.1 76 = .ok (.aload_n 0, 1) := by decide +kernel
theorem d_Mo_findLeading_77 : decode m_Mo_findLeading.2.1 77 = .ok (.aload_n 0, 1) := by decide +kernel
theorem d_Mo_findLeading_78 : decode m_Mo_findLeading.2.1 78 = .ok (.getfield 251, 3) := by decide +kernel
theorem d_Mo_findLeading_81 : decode m_Mo_findLeading.2.1 81 = .ok (.iload_n 2, 1) := by decide +kernel
theorem d_Mo_findLeading_82 : decode m_Mo_findLeading.2.1 82 = .ok (.if_icmp .ne 12, 3) := by decide +kernel
theorem d_Mo_findLeading_85 : decode m_Mo_findLeading.2.1 85 = .ok (.aload_n 0, 1) := by decide +kernel
theorem d_Mo_findLeading_86 : decode m_Mo_findLeading.2.1 86 = .ok (.getfield 77, 3) := by decide +kernel
theorem d_Mo_findLeading_89 : decode m_Mo_findLeading.2.1 89 = .ok (.iload_n 3, 1) := by decide +kernel
theorem d_Mo_findLeading_90 : decode m_Mo_findLeading.2.1 90 = .ok (.iaload, 1) := by decide +kernel
theorem d_Mo_findLeading_91 : decode m_Mo_findLeading.2.1 91 = .ok (.goto 7, 3) := by decide +kernel
theorem d_Mo_findLeading_94 : decode m_Mo_findLeading.2.1 94 = .ok (.aload_n 0, 1) := by decide +kernel
theorem d_Mo_findLeading_95 : decode m_Mo_findLeading.2.1 95 = .ok (.getfield 254, 3) := by decide +kernel
theorem d_Mo_findLeading_98 : decode m_Mo_findLeading.2.1 98 = .ok (.putfield 254, 3) := by decide +kernel
theorem d_Mo_findLeading_101 : decode m_Mo_findLeading.2.1 101 = .ok (.aload_n 0, 1) := by decide +kernel
theorem d_Mo_findLeading_102 : decode m_Mo_findLeading.2.1 102 = .ok (.aload_n 0, 1) := by decide +kernel
theorem d_Mo_findLeading_103 : decode m_Mo_findLeading.2.1 103 = .ok (.getfield 251, 3) := by decide +kernel
theorem d_Mo_findLeading_106 : decode m_Mo_findLeading.2.1 106 = .ok (.iload_n 2, 1) := by decide +kernel
theorem d_Mo_findLeading_107 : decode m_Mo_findLeading.2.1 107 = .ok (.if_icmp .ne 8, 3) := by decide +kernel
theorem d_Mo_findLeading_110 : decode m_Mo_findLeading.2.1 110 = .ok (.iload 4, 2) := by decide +kernel
theorem d_Mo_findLeading_112 : decode m_Mo_findLeading.2.1 112 = .ok (.goto 7, 3) := by decide +kernel
theorem d_Mo_findLeading_115 : decode m_Mo_findLeading.2.1 115 = .ok (.aload_n 0, 1) := by decide +kernel
theorem d_Mo_findLeading_116 : decode m_Mo_findLeading.2.1 116 = .ok (.getfield 257, 3) := by decide +kernel
theorem d_Mo_findLeading_119 : decode m_Mo_findLeading.2.1 119 = .ok (.putfield 257, 3) := by decide +kernel
theorem d_Mo_findLeading_122 : decode m_Mo_findLeading.2.1 122 = .ok (.aload_n 0, 1) := by decide +kernel
theorem d_Mo_findLeading_123 : decode m_Mo_findLeading.2.1 123 = .ok (.dup, 1) := by decide +kernel
theorem d_Mo_findLeading_124 : decode m_Mo_findLeading.2.1 124 = .ok (.getfield 251, 3) := by decide +kernel
theorem d_Mo_findLeading_127 : decode m_Mo_findLeading.2.1 127 = .ok (.iconst 1, 1) := by decide +kernel
theorem d_Mo_findLeading_128 : decode m_Mo_findLeading.2.1 128 = .ok (.iadd, 1) := by decide +kernel
theorem d_Mo_findLeading_129 : decode m_Mo_findLeading.2.1 129 = .ok (.putfield 251, 3) := by decide +kernel
theorem d_Mo_findLeading_132 : decode m_Mo_findLeading.2.1 132 = .ok (.iinc 3 1, 3) := by decide +kernel
theorem d_Mo_findLeading_135 : decode m_Mo_findLeading.2.1 135 = .ok (.goto (-98), 3) := by decide +kernel
theorem d_Mo_findLeading_138 : decode m_Mo_findLeading.2.1 138 = .ok (.return_, 1) := by decide +kernel
theorem d_Mo_node_0 : decode m_Mo_node.2.1 0 = .ok (.aload_n 0, 1) := by decide +kernel
theorem d_Mo_node_1 : decode m_Mo_node.2.1 1 = .ok (.iload_n 1, 1) := by decide +kernel
theorem d_Mo_node_2 : decode m_Mo_node.2.1 2 = .ok (.invokevirtual 260, 3) := by decide +kernel
theorem d_Mo_node_5 : decode m_Mo_node.2.1 5 = .ok (.ifCond .ne 5, 3) := by decide +kernel
theorem d_Mo_node_8 : decode m_Mo_node.2.1 8 = .ok (.iconst (-1), 1) := by decide +kernel
theorem d_Mo_node_9 : decode m_Mo_node.2.1 9 = .ok (.ireturn, 1) := by decide +kernel
theorem d_Mo_node_10 : decode m_Mo_node.2.1 10 = .ok (.iload_n 2, 1) := by decide +kernel
theorem d_Mo_node_11 : decode m_Mo_node.2.1 11 = .ok (.tableswitch 100 0 6 #[41, 41, 52, 59, 66, 73, 85], 41) := by decide +kernel
theorem d_Mo_node_52 : decode m_Mo_node.2.1 52 = .ok (.aload_n 0, 1) := by decide +kernel
theorem d_Mo_node_53 : decode m_Mo_node.2.1 53 = .ok (.getfield 49, 3) := by decide +kernel
theorem d_Mo_node_56 : decode m_Mo_node.2.1 56 = .ok (.iconst 2, 1) := by decide +kernel
theorem d_Mo_node_57 : decode m_Mo_node.2.1 57 = .ok (.iload_n 1, 1) := by decide +kernel
theorem d_Mo_node_58 : decode m_Mo_node.2.1 58 = .ok (.imul, 1) := by decide +kernel
theorem d_Mo_node_59 : decode m_Mo_node.2.1 59 = .ok (.iload_n 2, 1) := by decide +kernel
theorem d_Mo_node_60 : decode m_Mo_node.2.1 60 = .ok (.iadd, 1) := by decide +kernel
theorem d_Mo_node_61 : decode m_Mo_node.2.1 61 = .ok (.iaload, 1) := by decide +kernel
theorem d_Mo_node_62 : decode m_Mo_node.2.1 62 = .ok (.ireturn, 1) := by decide +kernel
theorem d_Mo_node_63 : decode m_Mo_node.2.1 63 = .ok (.aload_n 0, 1) := by decide +kernel
theorem d_Mo_node_64 : decode m_Mo_node.2.1 64 = .ok (.getfield 55, 3) := by decide +kernel
theorem d_Mo_node_67 : decode m_Mo_node.2.1 67 = .ok (.iload_n 1, 1) := by decide +kernel
theorem d_Mo_node_68 : decode m_Mo_node.2.1 68 = .ok (.iaload, 1) := by decide +kernel
theorem d_Mo_node_69 : decode m_Mo_node.2.1 69 = .ok (.ireturn, 1) := by decide +kernel
theorem d_Mo_node_70 : decode m_Mo_node.2.1 70 = .ok (.aload_n 0, 1) := by decide +kernel
theorem d_Mo_node_71 : decode m_Mo_node.2.1 71 = .ok (.getfield 58, 3) := by decide +kernel
theorem d_Mo_node_74 : decode m_Mo_node.2.1 74 = .ok (.iload_n 1, 1) := by decide +kernel
theorem d_Mo_node_75 : decode m_Mo_node.2.1 75 = .ok (.iaload, 1) := by decide +kernel
theorem d_Mo_node_76 : decode m_Mo_node.2.1 76 = .ok (.ireturn, 1) := by decide +kernel
theorem d_Mo_node_77 : decode m_Mo_node.2.1 77 = .ok (.aload_n 0, 1) := by decide +kernel
theorem d_Mo_node_78 : decode m_Mo_node.2.1 78 = .ok (.getfield 61, 3) := by decide +kernel
theorem d_Mo_node_81 : decode m_Mo_node.2.1 81 = .ok (.iload_n 1, 1) := by decide +kernel
theorem d_Mo_node_82 : decode m_Mo_node.2.1 82 = .ok (.iaload, 1) := by decide +kernel
theorem d_Mo_node_83 : decode m_Mo_node.2.1 83 = .ok (.ireturn, 1) := by decide +kernel
theorem d_Mo_node_84 : decode m_Mo_node.2.1 84 = .ok (.aload_n 0, 1) := by decide +kernel
theorem d_Mo_node_85 : decode m_Mo_node.2.1 85 = .ok (.iload_n 1, 1) := by decide +kernel
theorem d_Mo_node_86 : decode m_Mo_node.2.1 86 = .ok (.bipush (-6), 2) := by decide +kernel
theorem d_Mo_node_88 : decode m_Mo_node.2.1 88 = .ok (.invokevirtual 263, 3) := by decide +kernel
theorem d_Mo_node_91 : decode m_Mo_node.2.1 91 = .ok (.aload_n 0, 1) := by decide +kernel
theorem d_Mo_node_92 : decode m_Mo_node.2.1 92 = .ok (.getfield 251, 3) := by decide +kernel
theorem d_Mo_node_95 : decode m_Mo_node.2.1 95 = .ok (.ireturn, 1) := by decide +kernel
theorem d_Mo_node_96 : decode m_Mo_node.2.1 96 = .ok (.aload_n 0, 1) := by decide +kernel
theorem d_Mo_node_97 : decode m_Mo_node.2.1 97 = .ok (.getfield 64, 3) := by decide +kernel
theorem d_Mo_node_100 : decode m_Mo_node.2.1 100 = .ok (.iload_n 1, 1) := by decide +kernel
theorem d_Mo_node_101 : decode m_Mo_node.2.1 101 = .ok (.baload, 1) := by decide +kernel
theorem d_Mo_node_102 : decode m_Mo_node.2.1 102 = .ok (.ifCond .eq 7, 3) := by decide +kernel
theorem d_Mo_node_105 : decode m_Mo_node.2.1 105 = .ok (.iconst 1, 1) := by decide +kernel
theorem d_Mo_node_106 : decode m_Mo_node.2.1 106 = .ok (.goto 4, 3) := by decide +kernel
theorem d_Mo_node_109 : decode m_Mo_node.2.1 109 = .ok (.iconst 0, 1) := by decide +kernel
theorem d_Mo_node_110 : decode m_Mo_node.2.1 110 = .ok (.ireturn, 1) := by decide +kernel
theorem d_Mo_node_111 : decode m_Mo_node.2.1 111 = .ok (.bipush (-2), 2) := by decide +kernel
theorem d_Mo_node_113 : decode m_Mo_node.2.1 113 = .ok (.ireturn, 1) := by decide +kernel
theorem d_Mo_symbol_0 : decode m_Mo_symbol.2.1 0 = .ok (.aload_n 0, 1) := by decide +kernel
theorem d_Mo_symbol_1 : decode m_Mo_symbol.2.1 1 = .ok (.iload_n 1, 1) := by decide +kernel
theorem d_Mo_symbol_2 : decode m_Mo_symbol.2.1 2 = .ok (.invokevirtual 260, 3) := by decide +kernel
theorem d_Mo_symbol_5 : decode m_Mo_symbol.2.1 5 = .ok (.ifCond .ne 5, 3) := by decide +kernel
theorem d_Mo_symbol_8 : decode m_Mo_symbol.2.1 8 = .ok (.iconst (-1), 1) := by decide +kernel
theorem d_Mo_symbol_9 : decode m_Mo_symbol.2.1 9 = .ok (.ireturn, 1) := by decide +kernel
theorem d_Mo_symbol_10 : decode m_Mo_symbol.2.1 10 = .ok (.iload_n 2, 1) := by decide +kernel
theorem d_Mo_symbol_11 : decode m_Mo_symbol.2.1 11 = .ok (.i2l, 1) := by decide +kernel
theorem d_Mo_symbol_12 : decode m_Mo_symbol.2.1 12 = .ok (.lconst 0, 1) := by decide +kernel
theorem d_Mo_symbol_13 : decode m_Mo_symbol.2.1 13 = .ok (.lconst 1, 1) := by decide +kernel
theorem d_Mo_symbol_14 : decode m_Mo_symbol.2.1 14 = .ok (.invokestatic 109, 3) := by decide +kernel
theorem d_Mo_symbol_17 : decode m_Mo_symbol.2.1 17 = .ok (.ifCond .ne 6, 3) := by decide +kernel
theorem d_Mo_symbol_20 : decode m_Mo_symbol.2.1 20 = .ok (.bipush (-2), 2) := by decide +kernel
theorem d_Mo_symbol_22 : decode m_Mo_symbol.2.1 22 = .ok (.ireturn, 1) := by decide +kernel
theorem d_Mo_symbol_23 : decode m_Mo_symbol.2.1 23 = .ok (.iload_n 3, 1) := by decide +kernel
theorem d_Mo_symbol_24 : decode m_Mo_symbol.2.1 24 = .ok (.i2l, 1) := by decide +kernel
theorem d_Mo_symbol_25 : decode m_Mo_symbol.2.1 25 = .ok (.lconst 0, 1) := by decide +kernel
theorem d_Mo_symbol_26 : decode m_Mo_symbol.2.1 26 = .ok (.aload_n 0, 1) := by decide +kernel
theorem d_Mo_symbol_27 : decode m_Mo_symbol.2.1 27 = .ok (.getfield 49, 3) := by decide +kernel
theorem d_Mo_symbol_30 : decode m_Mo_symbol.2.1 30 = .ok (.iconst 2, 1) := by decide +kernel
theorem d_Mo_symbol_31 : decode m_Mo_symbol.2.1 31 = .ok (.iload_n 1, 1) := by decide +kernel
theorem d_Mo_symbol_32 : decode m_Mo_symbol.2.1 32 = .ok (.imul, 1) := by decide +kernel
theorem d_Mo_symbol_33 : decode m_Mo_symbol.2.1 33 = .ok (.iload_n 2, 1) := by decide +kernel
theorem d_Mo_symbol_34 : decode m_Mo_symbol.2.1 34 = .ok (.iadd, 1) := by decide +kernel
theorem d_Mo_symbol_35 : decode m_Mo_symbol.2.1 35 = .ok (.iaload, 1) := by decide +kernel
theorem d_Mo_symbol_36 : decode m_Mo_symbol.2.1 36 = .ok (.iconst 1, 1) := by decide +kernel
theorem d_Mo_symbol_37 : decode m_Mo_symbol.2.1 37 = .ok (.isub, 1) := by decide +kernel
theorem d_Mo_symbol_38 : decode m_Mo_symbol.2.1 38 = .ok (.i2l, 1) := by decide +kernel
theorem d_Mo_symbol_39 : decode m_Mo_symbol.2.1 39 = .ok (.invokestatic 109, 3) := by decide +kernel
theorem d_Mo_symbol_42 : decode m_Mo_symbol.2.1 42 = .ok (.ifCond .eq 22, 3) := by decide +kernel
theorem d_Mo_symbol_45 : decode m_Mo_symbol.2.1 45 = .ok (.aload_n 0, 1) := by decide +kernel
theorem d_Mo_symbol_46 : decode m_Mo_symbol.2.1 46 = .ok (.getfield 46, 3) := by decide +kernel
theorem d_Mo_symbol_49 : decode m_Mo_symbol.2.1 49 = .ok (.bipush 48, 2) := by decide +kernel
theorem d_Mo_symbol_51 : decode m_Mo_symbol.2.1 51 = .ok (.iload_n 1, 1) := by decide +kernel
theorem d_Mo_symbol_52 : decode m_Mo_symbol.2.1 52 = .ok (.imul, 1) := by decide +kernel
theorem d_Mo_symbol_53 : decode m_Mo_symbol.2.1 53 = .ok (.bipush 24, 2) := by decide +kernel
theorem d_Mo_symbol_55 : decode m_Mo_symbol.2.1 55 = .ok (.iload_n 2, 1) := by decide +kernel
theorem d_Mo_symbol_56 : decode m_Mo_symbol.2.1 56 = .ok (.imul, 1) := by decide +kernel
theorem d_Mo_symbol_57 : decode m_Mo_symbol.2.1 57 = .ok (.iadd, 1) := by decide +kernel
theorem d_Mo_symbol_58 : decode m_Mo_symbol.2.1 58 = .ok (.iload_n 3, 1) := by decide +kernel
theorem d_Mo_symbol_59 : decode m_Mo_symbol.2.1 59 = .ok (.iadd, 1) := by decide +kernel
theorem d_Mo_symbol_60 : decode m_Mo_symbol.2.1 60 = .ok (.iaload, 1) := by decide +kernel
theorem d_Mo_symbol_61 : decode m_Mo_symbol.2.1 61 = .ok (.goto 5, 3) := by decide +kernel
theorem d_Mo_symbol_64 : decode m_Mo_symbol.2.1 64 = .ok (.bipush (-6), 2) := by decide +kernel
theorem d_Mo_symbol_66 : decode m_Mo_symbol.2.1 66 = .ok (.ireturn, 1) := by decide +kernel
theorem d_Mo_needs_0 : decode m_Mo_needs.2.1 0 = .ok (.aload_n 0, 1) := by decide +kernel
theorem d_Mo_needs_1 : decode m_Mo_needs.2.1 1 = .ok (.iload_n 1, 1) := by decide +kernel
theorem d_Mo_needs_2 : decode m_Mo_needs.2.1 2 = .ok (.invokevirtual 260, 3) := by decide +kernel
theorem d_Mo_needs_5 : decode m_Mo_needs.2.1 5 = .ok (.ifCond .eq 35, 3) := by decide +kernel
theorem d_Mo_needs_8 : decode m_Mo_needs.2.1 8 = .ok (.iload_n 2, 1) := by decide +kernel
theorem d_Mo_needs_9 : decode m_Mo_needs.2.1 9 = .ok (.invokestatic 141, 3) := by decide +kernel
theorem d_Mo_needs_12 : decode m_Mo_needs.2.1 12 = .ok (.ifCond .eq 28, 3) := by decide +kernel
theorem d_Mo_needs_15 : decode m_Mo_needs.2.1 15 = .ok (.iload_n 3, 1) := by decide +kernel
theorem d_Mo_needs_16 : decode m_Mo_needs.2.1 16 = .ok (.invokestatic 141, 3) := by decide +kernel
theorem d_Mo_needs_19 : decode m_Mo_needs.2.1 19 = .ok (.ifCond .eq 21, 3) := by decide +kernel
theorem d_Mo_needs_22 : decode m_Mo_needs.2.1 22 = .ok (.aload_n 0, 1) := by decide +kernel
theorem d_Mo_needs_23 : decode m_Mo_needs.2.1 23 = .ok (.getfield 52, 3) := by decide +kernel
theorem d_Mo_needs_26 : decode m_Mo_needs.2.1 26 = .ok (.bipush 9, 2) := by decide +kernel
theorem d_Mo_needs_28 : decode m_Mo_needs.2.1 28 = .ok (.iload_n 1, 1) := by decide +kernel
theorem d_Mo_needs_29 : decode m_Mo_needs.2.1 29 = .ok (.imul, 1) := by decide +kernel
theorem d_Mo_needs_30 : decode m_Mo_needs.2.1 30 = .ok (.iconst 3, 1) := by decide +kernel
theorem d_Mo_needs_31 : decode m_Mo_needs.2.1 31 = .ok (.iload_n 2, 1) := by decide +kernel
theorem d_Mo_needs_32 : decode m_Mo_needs.2.1 32 = .ok (.imul, 1) := by decide +kernel
theorem d_Mo_needs_33 : decode m_Mo_needs.2.1 33 = .ok (.iadd, 1) := by decide +kernel
theorem d_Mo_needs_34 : decode m_Mo_needs.2.1 34 = .ok (.iload_n 3, 1) := by decide +kernel
theorem d_Mo_needs_35 : decode m_Mo_needs.2.1 35 = .ok (.iadd, 1) := by decide +kernel
theorem d_Mo_needs_36 : decode m_Mo_needs.2.1 36 = .ok (.iaload, 1) := by decide +kernel
theorem d_Mo_needs_37 : decode m_Mo_needs.2.1 37 = .ok (.goto 4, 3) := by decide +kernel
theorem d_Mo_needs_40 : decode m_Mo_needs.2.1 40 = .ok (.iconst (-1), 1) := by decide +kernel
theorem d_Mo_needs_41 : decode m_Mo_needs.2.1 41 = .ok (.ireturn, 1) := by decide +kernel
theorem d_Mo_move_0 : decode m_Mo_move.2.1 0 = .ok (.aload_n 0, 1) := by decide +kernel
theorem d_Mo_move_1 : decode m_Mo_move.2.1 1 = .ok (.iload_n 1, 1) := by decide +kernel
theorem d_Mo_move_2 : decode m_Mo_move.2.1 2 = .ok (.invokevirtual 260, 3) := by decide +kernel
theorem d_Mo_move_5 : decode m_Mo_move.2.1 5 = .ok (.ifCond .ne 5, 3) := by decide +kernel
theorem d_Mo_move_8 : decode m_Mo_move.2.1 8 = .ok (.iconst (-1), 1) := by decide +kernel
theorem d_Mo_move_9 : decode m_Mo_move.2.1 9 = .ok (.ireturn, 1) := by decide +kernel
theorem d_Mo_move_10 : decode m_Mo_move.2.1 10 = .ok (.iload_n 3, 1) := by decide +kernel
theorem d_Mo_move_11 : decode m_Mo_move.2.1 11 = .ok (.i2l, 1) := by decide +kernel
theorem d_Mo_move_12 : decode m_Mo_move.2.1 12 = .ok (.lconst 0, 1) := by decide +kernel
theorem d_Mo_move_13 : decode m_Mo_move.2.1 13 = .ok (.lconst 1, 1) := by decide +kernel
theorem d_Mo_move_14 : decode m_Mo_move.2.1 14 = .ok (.invokestatic 109, 3) := by decide +kernel
theorem d_Mo_move_17 : decode m_Mo_move.2.1 17 = .ok (.ifCond .ne 6, 3) := by decide +kernel
theorem d_Mo_move_20 : decode m_Mo_move.2.1 20 = .ok (.bipush (-2), 2) := by decide +kernel
theorem d_Mo_move_22 : decode m_Mo_move.2.1 22 = .ok (.ireturn, 1) := by decide +kernel
theorem d_Mo_move_23 : decode m_Mo_move.2.1 23 = .ok (.aload_n 0, 1) := by decide +kernel
theorem d_Mo_move_24 : decode m_Mo_move.2.1 24 = .ok (.iload_n 1, 1) := by decide +kernel
theorem d_Mo_move_25 : decode m_Mo_move.2.1 25 = .ok (.iload_n 2, 1) := by decide +kernel
theorem d_Mo_move_26 : decode m_Mo_move.2.1 26 = .ok (.ifCond .ge 8, 3) := by decide +kernel
theorem d_Mo_move_29 : decode m_Mo_move.2.1 29 = .ok (.bipush (-6), 2) := by decide +kernel
theorem d_Mo_move_31 : decode m_Mo_move.2.1 31 = .ok (.goto 4, 3) := by decide +kernel
theorem d_Mo_move_34 : decode m_Mo_move.2.1 34 = .ok (.iload_n 2, 1) := by decide +kernel
theorem d_Mo_move_35 : decode m_Mo_move.2.1 35 = .ok (.invokevirtual 263, 3) := by decide +kernel
theorem d_Mo_move_38 : decode m_Mo_move.2.1 38 = .ok (.iload_n 3, 1) := by decide +kernel
theorem d_Mo_move_39 : decode m_Mo_move.2.1 39 = .ok (.ifCond .ne 10, 3) := by decide +kernel
theorem d_Mo_move_42 : decode m_Mo_move.2.1 42 = .ok (.aload_n 0, 1) := by decide +kernel
theorem d_Mo_move_43 : decode m_Mo_move.2.1 43 = .ok (.getfield 257, 3) := by decide +kernel
theorem d_Mo_move_46 : decode m_Mo_move.2.1 46 = .ok (.goto 7, 3) := by decide +kernel
theorem d_Mo_move_49 : decode m_Mo_move.2.1 49 = .ok (.aload_n 0, 1) := by decide +kernel
theorem d_Mo_move_50 : decode m_Mo_move.2.1 50 = .ok (.getfield 254, 3) := by decide +kernel
theorem d_Mo_move_53 : decode m_Mo_move.2.1 53 = .ok (.ireturn, 1) := by decide +kernel
theorem d_Mo_ahead_0 : decode m_Mo_ahead.2.1 0 = .ok (.aload_n 0, 1) := by decide +kernel
theorem d_Mo_ahead_1 : decode m_Mo_ahead.2.1 1 = .ok (.getfield 83, 3) := by decide +kernel
theorem d_Mo_ahead_4 : decode m_Mo_ahead.2.1 4 = .ok (.iload_n 1, 1) := by decide +kernel
theorem d_Mo_ahead_5 : decode m_Mo_ahead.2.1 5 = .ok (.iaload, 1) := by decide +kernel
theorem d_Mo_ahead_6 : decode m_Mo_ahead.2.1 6 = .ok (.bipush 60, 2) := by decide +kernel
theorem d_Mo_ahead_8 : decode m_Mo_ahead.2.1 8 = .ok (.if_icmp .ne 9, 3) := by decide +kernel
theorem d_Mo_ahead_11 : decode m_Mo_ahead.2.1 11 = .ok (.aload_n 0, 1) := by decide +kernel
theorem d_Mo_ahead_12 : decode m_Mo_ahead.2.1 12 = .ok (.iconst 1, 1) := by decide +kernel
theorem d_Mo_ahead_13 : decode m_Mo_ahead.2.1 13 = .ok (.putfield 267, 3) := by decide +kernel
theorem d_Mo_ahead_16 : decode m_Mo_ahead.2.1 16 = .ok (.return_, 1) := by decide +kernel
theorem d_Mo_ahead_17 : decode m_Mo_ahead.2.1 17 = .ok (.aload_n 0, 1) := by decide +kernel
theorem d_Mo_ahead_18 : decode m_Mo_ahead.2.1 18 = .ok (.getfield 83, 3) := by decide +kernel
theorem d_Mo_ahead_21 : decode m_Mo_ahead.2.1 21 = .ok (.iload_n 1, 1) := by decide +kernel
theorem d_Mo_ahead_22 : decode m_Mo_ahead.2.1 22 = .ok (.iaload, 1) := by decide +kernel
theorem d_Mo_ahead_23 : decode m_Mo_ahead.2.1 23 = .ok (.istore_n 3, 1) := by decide +kernel
theorem d_Mo_ahead_24 : decode m_Mo_ahead.2.1 24 = .ok (.iload_n 3, 1) := by decide +kernel
theorem d_Mo_ahead_25 : decode m_Mo_ahead.2.1 25 = .ok (.ifCond .le 33, 3) := by decide +kernel
theorem d_Mo_ahead_28 : decode m_Mo_ahead.2.1 28 = .ok (.aload_n 0, 1) := by decide +kernel
theorem d_Mo_ahead_29 : decode m_Mo_ahead.2.1 29 = .ok (.getfield 80, 3) := by decide +kernel
theorem d_Mo_ahead_32 : decode m_Mo_ahead.2.1 32 = .ok (.bipush 61, 2) := by decide +kernel
theorem d_Mo_ahead_34 : decode m_Mo_ahead.2.1 34 = .ok (.iload_n 1, 1) := by decide +kernel
theorem d_Mo_ahead_35 : decode m_Mo_ahead.2.1 35 = .ok (.imul, 1) := by decide +kernel
theorem d_Mo_ahead_36 : decode m_Mo_ahead.2.1 36 = .ok (.iload_n 3, 1) := by decide +kernel
theorem d_Mo_ahead_37 : decode m_Mo_ahead.2.1 37 = .ok (.iadd, 1) := by decide +kernel
theorem d_Mo_ahead_38 : decode m_Mo_ahead.2.1 38 = .ok (.aload_n 0, 1) := by decide +kernel
theorem d_Mo_ahead_39 : decode m_Mo_ahead.2.1 39 = .ok (.getfield 80, 3) := by decide +kernel
theorem d_Mo_ahead_42 : decode m_Mo_ahead.2.1 42 = .ok (.bipush 61, 2) := by decide +kernel
theorem d_Mo_ahead_44 : decode m_Mo_ahead.2.1 44 = .ok (.iload_n 1, 1) := by decide +kernel
theorem d_Mo_ahead_45 : decode m_Mo_ahead.2.1 45 = .ok (.imul, 1) := by decide +kernel
theorem d_Mo_ahead_46 : decode m_Mo_ahead.2.1 46 = .ok (.iload_n 3, 1) := by decide +kernel
theorem d_Mo_ahead_47 : decode m_Mo_ahead.2.1 47 = .ok (.iadd, 1) := by decide +kernel
theorem d_Mo_ahead_48 : decode m_Mo_ahead.2.1 48 = .ok (.iconst 1, 1) := by decide +kernel
theorem d_Mo_ahead_49 : decode m_Mo_ahead.2.1 49 = .ok (.isub, 1) := by decide +kernel
theorem d_Mo_ahead_50 : decode m_Mo_ahead.2.1 50 = .ok (.iaload, 1) := by decide +kernel
theorem d_Mo_ahead_51 : decode m_Mo_ahead.2.1 51 = .ok (.iastore, 1) := by decide +kernel
theorem d_Mo_ahead_52 : decode m_Mo_ahead.2.1 52 = .ok (.iinc 3 (-1), 3) := by decide +kernel
theorem d_Mo_ahead_55 : decode m_Mo_ahead.2.1 55 = .ok (.goto (-31), 3) := by decide +kernel
theorem d_Mo_ahead_58 : decode m_Mo_ahead.2.1 58 = .ok (.aload_n 0, 1) := by decide +kernel
theorem d_Mo_ahead_59 : decode m_Mo_ahead.2.1 59 = .ok (.getfield 80, 3) := by decide +kernel
theorem d_Mo_ahead_62 : decode m_Mo_ahead.2.1 62 = .ok (.bipush 61, 2) := by decide +kernel
theorem d_Mo_ahead_64 : decode m_Mo_ahead.2.1 64 = .ok (.iload_n 1, 1) := by decide +kernel
theorem d_Mo_ahead_65 : decode m_Mo_ahead.2.1 65 = .ok (.imul, 1) := by decide +kernel
theorem d_Mo_ahead_66 : decode m_Mo_ahead.2.1 66 = .ok (.iload_n 2, 1) := by decide +kernel
theorem d_Mo_ahead_67 : decode m_Mo_ahead.2.1 67 = .ok (.iastore, 1) := by decide +kernel
theorem d_Mo_ahead_68 : decode m_Mo_ahead.2.1 68 = .ok (.aload_n 0, 1) := by decide +kernel
theorem d_Mo_ahead_69 : decode m_Mo_ahead.2.1 69 = .ok (.getfield 83, 3) := by decide +kernel
theorem d_Mo_ahead_72 : decode m_Mo_ahead.2.1 72 = .ok (.iload_n 1, 1) := by decide +kernel
theorem d_Mo_ahead_73 : decode m_Mo_ahead.2.1 73 = .ok (.dup2, 1) := by decide +kernel
theorem d_Mo_ahead_74 : decode m_Mo_ahead.2.1 74 = .ok (.iaload, 1) := by decide +kernel
theorem d_Mo_ahead_75 : decode m_Mo_ahead.2.1 75 = .ok (.iconst 1, 1) := by decide +kernel
theorem d_Mo_ahead_76 : decode m_Mo_ahead.2.1 76 = .ok (.iadd, 1) := by decide +kernel
theorem d_Mo_ahead_77 : decode m_Mo_ahead.2.1 77 = .ok (.iastore, 1) := by decide +kernel
theorem d_Mo_ahead_78 : decode m_Mo_ahead.2.1 78 = .ok (.return_, 1) := by decide +kernel
theorem d_Mo_undoMove_0 : decode m_Mo_undoMove.2.1 0 = .ok (.aload_n 0, 1) := by decide +kernel
theorem d_Mo_undoMove_1 : decode m_Mo_undoMove.2.1 1 = .ok (.getfield 58, 3) := by decide +kernel
theorem d_Mo_undoMove_4 : decode m_Mo_undoMove.2.1 4 = .ok (.iload_n 1, 1) := by decide +kernel
theorem d_Mo_undoMove_5 : decode m_Mo_undoMove.2.1 5 = .ok (.iaload, 1) := by decide +kernel
theorem d_Mo_undoMove_6 : decode m_Mo_undoMove.2.1 6 = .ok (.istore_n 2, 1) := by decide +kernel
theorem d_Mo_undoMove_7 : decode m_Mo_undoMove.2.1 7 = .ok (.aload_n 0, 1) := by decide +kernel
theorem d_Mo_undoMove_8 : decode m_Mo_undoMove.2.1 8 = .ok (.getfield 61, 3) := by decide +kernel
theorem d_Mo_undoMove_11 : decode m_Mo_undoMove.2.1 11 = .ok (.iload_n 1, 1) := by decide +kernel
theorem d_Mo_undoMove_12 : decode m_Mo_undoMove.2.1 12 = .ok (.iaload, 1) := by decide +kernel
theorem d_Mo_undoMove_13 : decode m_Mo_undoMove.2.1 13 = .ok (.bipush 100, 2) := by decide +kernel
theorem d_Mo_undoMove_15 : decode m_Mo_undoMove.2.1 15 = .ok (.idiv, 1) := by decide +kernel
theorem d_Mo_undoMove_16 : decode m_Mo_undoMove.2.1 16 = .ok (.bipush 10, 2) := by decide +kernel
theorem d_Mo_undoMove_18 : decode m_Mo_undoMove.2.1 18 = .ok (.irem, 1) := by decide +kernel
theorem d_Mo_undoMove_19 : decode m_Mo_undoMove.2.1 19 = .ok (.istore_n 3, 1) := by decide +kernel
theorem d_Mo_undoMove_20 : decode m_Mo_undoMove.2.1 20 = .ok (.aload_n 0, 1) := by decide +kernel
theorem d_Mo_undoMove_21 : decode m_Mo_undoMove.2.1 21 = .ok (.iload_n 2, 1) := by decide +kernel
theorem d_Mo_undoMove_22 : decode m_Mo_undoMove.2.1 22 = .ok (.iconst 0, 1) := by decide +kernel
theorem d_Mo_undoMove_23 : decode m_Mo_undoMove.2.1 23 = .ok (.invokevirtual 191, 3) := by decide +kernel
theorem d_Mo_undoMove_26 : decode m_Mo_undoMove.2.1 26 = .ok (.istore 4, 2) := by decide +kernel
theorem d_Mo_undoMove_28 : decode m_Mo_undoMove.2.1 28 = .ok (.iload 4, 2) := by decide +kernel
theorem d_Mo_undoMove_30 : decode m_Mo_undoMove.2.1 30 = .ok (.iload_n 3, 1) := by decide +kernel
theorem d_Mo_undoMove_31 : decode m_Mo_undoMove.2.1 31 = .ok (.iconst 2, 1) := by decide +kernel
theorem d_Mo_undoMove_32 : decode m_Mo_undoMove.2.1 32 = .ok (.iadd, 1) := by decide +kernel
