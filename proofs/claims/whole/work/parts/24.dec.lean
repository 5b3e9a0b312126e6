/-! the instructions, read off the bytes (4) -/
theorem d_Mo_undoMove_33 : decode m_Mo_undoMove.2.1 33 = .ok (.if_icmp .ne 12, 3) := by decide +kernel
theorem d_Mo_undoMove_36 : decode m_Mo_undoMove.2.1 36 = .ok (.aload_n 0, 1) := by decide +kernel
theorem d_Mo_undoMove_37 : decode m_Mo_undoMove.2.1 37 = .ok (.iload_n 2, 1) := by decide +kernel
theorem d_Mo_undoMove_38 : decode m_Mo_undoMove.2.1 38 = .ok (.iconst 1, 1) := by decide +kernel
theorem d_Mo_undoMove_39 : decode m_Mo_undoMove.2.1 39 = .ok (.invokevirtual 191, 3) := by decide +kernel
theorem d_Mo_undoMove_42 : decode m_Mo_undoMove.2.1 42 = .ok (.goto 5, 3) := by decide +kernel
theorem d_Mo_undoMove_45 : decode m_Mo_undoMove.2.1 45 = .ok (.iload 4, 2) := by decide +kernel
theorem d_Mo_undoMove_47 : decode m_Mo_undoMove.2.1 47 = .ok (.istore 5, 2) := by decide +kernel
theorem d_Mo_undoMove_49 : decode m_Mo_undoMove.2.1 49 = .ok (.aload_n 0, 1) := by decide +kernel
theorem d_Mo_undoMove_50 : decode m_Mo_undoMove.2.1 50 = .ok (.getfield 61, 3) := by decide +kernel
theorem d_Mo_undoMove_53 : decode m_Mo_undoMove.2.1 53 = .ok (.iload_n 1, 1) := by decide +kernel
theorem d_Mo_undoMove_54 : decode m_Mo_undoMove.2.1 54 = .ok (.iaload, 1) := by decide +kernel
theorem d_Mo_undoMove_55 : decode m_Mo_undoMove.2.1 55 = .ok (.sipush 1000, 3) := by decide +kernel
theorem d_Mo_undoMove_58 : decode m_Mo_undoMove.2.1 58 = .ok (.if_icmp .ge 13, 3) := by decide +kernel
theorem d_Mo_undoMove_61 : decode m_Mo_undoMove.2.1 61 = .ok (.aload_n 0, 1) := by decide +kernel
theorem d_Mo_undoMove_62 : decode m_Mo_undoMove.2.1 62 = .ok (.getfield 83, 3) := by decide +kernel
theorem d_Mo_undoMove_65 : decode m_Mo_undoMove.2.1 65 = .ok (.iload_n 3, 1) := by decide +kernel
theorem d_Mo_undoMove_66 : decode m_Mo_undoMove.2.1 66 = .ok (.iconst 0, 1) := by decide +kernel
theorem d_Mo_undoMove_67 : decode m_Mo_undoMove.2.1 67 = .ok (.iastore, 1) := by decide +kernel
theorem d_Mo_undoMove_68 : decode m_Mo_undoMove.2.1 68 = .ok (.goto 63, 3) := by decide +kernel
theorem d_Mo_undoMove_71 : decode m_Mo_undoMove.2.1 71 = .ok (.iload 5, 2) := by decide +kernel
theorem d_Mo_undoMove_73 : decode m_Mo_undoMove.2.1 73 = .ok (.iconst 2, 1) := by decide +kernel
theorem d_Mo_undoMove_74 : decode m_Mo_undoMove.2.1 74 = .ok (.if_icmp .ge 13, 3) := by decide +kernel
theorem d_Mo_undoMove_77 : decode m_Mo_undoMove.2.1 77 = .ok (.aload_n 0, 1) := by decide +kernel
theorem d_Mo_undoMove_78 : decode m_Mo_undoMove.2.1 78 = .ok (.iload_n 3, 1) := by decide +kernel
theorem d_Mo_undoMove_79 : decode m_Mo_undoMove.2.1 79 = .ok (.iload 5, 2) := by decide +kernel
theorem d_Mo_undoMove_81 : decode m_Mo_undoMove.2.1 81 = .ok (.invokevirtual 270, 3) := by decide +kernel
theorem d_Mo_undoMove_84 : decode m_Mo_undoMove.2.1 84 = .ok (.goto 47, 3) := by decide +kernel
theorem d_Mo_undoMove_87 : decode m_Mo_undoMove.2.1 87 = .ok (.aload_n 0, 1) := by decide +kernel
theorem d_Mo_undoMove_88 : decode m_Mo_undoMove.2.1 88 = .ok (.getfield 83, 3) := by decide +kernel
theorem d_Mo_undoMove_91 : decode m_Mo_undoMove.2.1 91 = .ok (.iload 5, 2) := by decide +kernel
theorem d_Mo_undoMove_93 : decode m_Mo_undoMove.2.1 93 = .ok (.iconst 2, 1) := by decide +kernel
theorem d_Mo_undoMove_94 : decode m_Mo_undoMove.2.1 94 = .ok (.isub, 1) := by decide +kernel
theorem d_Mo_undoMove_95 : decode m_Mo_undoMove.2.1 95 = .ok (.iaload, 1) := by decide +kernel
theorem d_Mo_undoMove_96 : decode m_Mo_undoMove.2.1 96 = .ok (.iconst 1, 1) := by decide +kernel
theorem d_Mo_undoMove_97 : decode m_Mo_undoMove.2.1 97 = .ok (.isub, 1) := by decide +kernel
theorem d_Mo_undoMove_98 : decode m_Mo_undoMove.2.1 98 = .ok (.istore 6, 2) := by decide +kernel
theorem d_Mo_undoMove_100 : decode m_Mo_undoMove.2.1 100 = .ok (.iload 6, 2) := by decide +kernel
theorem d_Mo_undoMove_102 : decode m_Mo_undoMove.2.1 102 = .ok (.ifCond .lt 29, 3) := by decide +kernel
theorem d_Mo_undoMove_105 : decode m_Mo_undoMove.2.1 105 = .ok (.aload_n 0, 1) := by decide +kernel
theorem d_Mo_undoMove_106 : decode m_Mo_undoMove.2.1 106 = .ok (.iload_n 3, 1) := by decide +kernel
theorem d_Mo_undoMove_107 : decode m_Mo_undoMove.2.1 107 = .ok (.aload_n 0, 1) := by decide +kernel
theorem d_Mo_undoMove_108 : decode m_Mo_undoMove.2.1 108 = .ok (.getfield 80, 3) := by decide +kernel
theorem d_Mo_undoMove_111 : decode m_Mo_undoMove.2.1 111 = .ok (.bipush 61, 2) := by decide +kernel
theorem d_Mo_undoMove_113 : decode m_Mo_undoMove.2.1 113 = .ok (.iload 5, 2) := by decide +kernel
theorem d_Mo_undoMove_115 : decode m_Mo_undoMove.2.1 115 = .ok (.iconst 2, 1) := by decide +kernel
theorem d_Mo_undoMove_116 : decode m_Mo_undoMove.2.1 116 = .ok (.isub, 1) := by decide +kernel
theorem d_Mo_undoMove_117 : decode m_Mo_undoMove.2.1 117 = .ok (.imul, 1) := by decide +kernel
theorem d_Mo_undoMove_118 : decode m_Mo_undoMove.2.1 118 = .ok (.iload 6, 2) := by decide +kernel
theorem d_Mo_undoMove_120 : decode m_Mo_undoMove.2.1 120 = .ok (.iadd, 1) := by decide +kernel
theorem d_Mo_undoMove_121 : decode m_Mo_undoMove.2.1 121 = .ok (.iaload, 1) := by decide +kernel
theorem d_Mo_undoMove_122 : decode m_Mo_undoMove.2.1 122 = .ok (.invokevirtual 270, 3) := by decide +kernel
theorem d_Mo_undoMove_125 : decode m_Mo_undoMove.2.1 125 = .ok (.iinc 6 (-1), 3) := by decide +kernel
theorem d_Mo_undoMove_128 : decode m_Mo_undoMove.2.1 128 = .ok (.goto (-28), 3) := by decide +kernel
theorem d_Mo_undoMove_131 : decode m_Mo_undoMove.2.1 131 = .ok (.return_, 1) := by decide +kernel
theorem d_Mo_isAnswered_0 : decode m_Mo_isAnswered.2.1 0 = .ok (.aload_n 0, 1) := by decide +kernel
theorem d_Mo_isAnswered_1 : decode m_Mo_isAnswered.2.1 1 = .ok (.invokevirtual 239, 3) := by decide +kernel
theorem d_Mo_isAnswered_4 : decode m_Mo_isAnswered.2.1 4 = .ok (.aload_n 0, 1) := by decide +kernel
theorem d_Mo_isAnswered_5 : decode m_Mo_isAnswered.2.1 5 = .ok (.invokevirtual 242, 3) := by decide +kernel
theorem d_Mo_isAnswered_8 : decode m_Mo_isAnswered.2.1 8 = .ok (.istore_n 1, 1) := by decide +kernel
theorem d_Mo_isAnswered_9 : decode m_Mo_isAnswered.2.1 9 = .ok (.iload_n 1, 1) := by decide +kernel
theorem d_Mo_isAnswered_10 : decode m_Mo_isAnswered.2.1 10 = .ok (.ifCond .ge 5, 3) := by decide +kernel
theorem d_Mo_isAnswered_13 : decode m_Mo_isAnswered.2.1 13 = .ok (.iconst 0, 1) := by decide +kernel
theorem d_Mo_isAnswered_14 : decode m_Mo_isAnswered.2.1 14 = .ok (.ireturn, 1) := by decide +kernel
theorem d_Mo_isAnswered_15 : decode m_Mo_isAnswered.2.1 15 = .ok (.aload_n 0, 1) := by decide +kernel
theorem d_Mo_isAnswered_16 : decode m_Mo_isAnswered.2.1 16 = .ok (.iconst 0, 1) := by decide +kernel
theorem d_Mo_isAnswered_17 : decode m_Mo_isAnswered.2.1 17 = .ok (.putfield 267, 3) := by decide +kernel
theorem d_Mo_isAnswered_20 : decode m_Mo_isAnswered.2.1 20 = .ok (.iconst 0, 1) := by decide +kernel
theorem d_Mo_isAnswered_21 : decode m_Mo_isAnswered.2.1 21 = .ok (.istore_n 2, 1) := by decide +kernel
theorem d_Mo_isAnswered_22 : decode m_Mo_isAnswered.2.1 22 = .ok (.iload_n 2, 1) := by decide +kernel
theorem d_Mo_isAnswered_23 : decode m_Mo_isAnswered.2.1 23 = .ok (.iconst 3, 1) := by decide +kernel
theorem d_Mo_isAnswered_24 : decode m_Mo_isAnswered.2.1 24 = .ok (.if_icmp .ge 81, 3) := by decide +kernel
theorem d_Mo_isAnswered_27 : decode m_Mo_isAnswered.2.1 27 = .ok (.aload_n 0, 1) := by decide +kernel
theorem d_Mo_isAnswered_28 : decode m_Mo_isAnswered.2.1 28 = .ok (.aload_n 0, 1) := by decide +kernel
theorem d_Mo_isAnswered_29 : decode m_Mo_isAnswered.2.1 29 = .ok (.getfield 52, 3) := by decide +kernel
theorem d_Mo_isAnswered_32 : decode m_Mo_isAnswered.2.1 32 = .ok (.bipush 9, 2) := by decide +kernel
theorem d_Mo_isAnswered_34 : decode m_Mo_isAnswered.2.1 34 = .ok (.iload_n 1, 1) := by decide +kernel
theorem d_Mo_isAnswered_35 : decode m_Mo_isAnswered.2.1 35 = .ok (.imul, 1) := by decide +kernel
theorem d_Mo_isAnswered_36 : decode m_Mo_isAnswered.2.1 36 = .ok (.iconst 3, 1) := by decide +kernel
theorem d_Mo_isAnswered_37 : decode m_Mo_isAnswered.2.1 37 = .ok (.iload_n 2, 1) := by decide +kernel
theorem d_Mo_isAnswered_38 : decode m_Mo_isAnswered.2.1 38 = .ok (.imul, 1) := by decide +kernel
theorem d_Mo_isAnswered_39 : decode m_Mo_isAnswered.2.1 39 = .ok (.iadd, 1) := by decide +kernel
theorem d_Mo_isAnswered_40 : decode m_Mo_isAnswered.2.1 40 = .ok (.invokevirtual 165, 3) := by decide +kernel
theorem d_Mo_isAnswered_43 : decode m_Mo_isAnswered.2.1 43 = .ok (.istore_n 3, 1) := by decide +kernel
theorem d_Mo_isAnswered_44 : decode m_Mo_isAnswered.2.1 44 = .ok (.aload_n 0, 1) := by decide +kernel
theorem d_Mo_isAnswered_45 : decode m_Mo_isAnswered.2.1 45 = .ok (.getfield 83, 3) := by decide +kernel
theorem d_Mo_isAnswered_48 : decode m_Mo_isAnswered.2.1 48 = .ok (.iload_n 2, 1) := by decide +kernel
theorem d_Mo_isAnswered_49 : decode m_Mo_isAnswered.2.1 49 = .ok (.aload_n 0, 1) := by decide +kernel
theorem d_Mo_isAnswered_50 : decode m_Mo_isAnswered.2.1 50 = .ok (.getfield 43, 3) := by decide +kernel
theorem d_Mo_isAnswered_53 : decode m_Mo_isAnswered.2.1 53 = .ok (.iload_n 3, 1) := by decide +kernel
theorem d_Mo_isAnswered_54 : decode m_Mo_isAnswered.2.1 54 = .ok (.iaload, 1) := by decide +kernel
theorem d_Mo_isAnswered_55 : decode m_Mo_isAnswered.2.1 55 = .ok (.iastore, 1) := by decide +kernel
theorem d_Mo_isAnswered_56 : decode m_Mo_isAnswered.2.1 56 = .ok (.iconst 0, 1) := by decide +kernel
theorem d_Mo_isAnswered_57 : decode m_Mo_isAnswered.2.1 57 = .ok (.istore 4, 2) := by decide +kernel
theorem d_Mo_isAnswered_59 : decode m_Mo_isAnswered.2.1 59 = .ok (.iload 4, 2) := by decide +kernel
theorem d_Mo_isAnswered_61 : decode m_Mo_isAnswered.2.1 61 = .ok (.aload_n 0, 1) := by decide +kernel
theorem d_Mo_isAnswered_62 : decode m_Mo_isAnswered.2.1 62 = .ok (.getfield 43, 3) := by decide +kernel
theorem d_Mo_isAnswered_65 : decode m_Mo_isAnswered.2.1 65 = .ok (.iload_n 3, 1) := by decide +kernel
theorem d_Mo_isAnswered_66 : decode m_Mo_isAnswered.2.1 66 = .ok (.iaload, 1) := by decide +kernel
theorem d_Mo_isAnswered_67 : decode m_Mo_isAnswered.2.1 67 = .ok (.if_icmp .ge 32, 3) := by decide +kernel
theorem d_Mo_isAnswered_70 : decode m_Mo_isAnswered.2.1 70 = .ok (.aload_n 0, 1) := by decide +kernel
theorem d_Mo_isAnswered_71 : decode m_Mo_isAnswered.2.1 71 = .ok (.getfield 80, 3) := by decide +kernel
theorem d_Mo_isAnswered_74 : decode m_Mo_isAnswered.2.1 74 = .ok (.bipush 61, 2) := by decide +kernel
theorem d_Mo_isAnswered_76 : decode m_Mo_isAnswered.2.1 76 = .ok (.iload_n 2, 1) := by decide +kernel
theorem d_Mo_isAnswered_77 : decode m_Mo_isAnswered.2.1 77 = .ok (.imul, 1) := by decide +kernel
theorem d_Mo_isAnswered_78 : decode m_Mo_isAnswered.2.1 78 = .ok (.iload 4, 2) := by decide +kernel
theorem d_Mo_isAnswered_80 : decode m_Mo_isAnswered.2.1 80 = .ok (.iadd, 1) := by decide +kernel
theorem d_Mo_isAnswered_81 : decode m_Mo_isAnswered.2.1 81 = .ok (.aload_n 0, 1) := by decide +kernel
theorem d_Mo_isAnswered_82 : decode m_Mo_isAnswered.2.1 82 = .ok (.getfield 40, 3) := by decide +kernel
theorem d_Mo_isAnswered_85 : decode m_Mo_isAnswered.2.1 85 = .ok (.iload_n 3, 1) := by decide +kernel
theorem d_Mo_isAnswered_86 : decode m_Mo_isAnswered.2.1 86 = .ok (.iaload, 1) := by decide +kernel
theorem d_Mo_isAnswered_87 : decode m_Mo_isAnswered.2.1 87 = .ok (.iload 4, 2) := by decide +kernel
theorem d_Mo_isAnswered_89 : decode m_Mo_isAnswered.2.1 89 = .ok (.ishr, 1) := by decide +kernel
theorem d_Mo_isAnswered_90 : decode m_Mo_isAnswered.2.1 90 = .ok (.iconst 1, 1) := by decide +kernel
theorem d_Mo_isAnswered_91 : decode m_Mo_isAnswered.2.1 91 = .ok (.iand, 1) := by decide +kernel
theorem d_Mo_isAnswered_92 : decode m_Mo_isAnswered.2.1 92 = .ok (.iastore, 1) := by decide +kernel
theorem d_Mo_isAnswered_93 : decode m_Mo_isAnswered.2.1 93 = .ok (.iinc 4 1, 3) := by decide +kernel
theorem d_Mo_isAnswered_96 : decode m_Mo_isAnswered.2.1 96 = .ok (.goto (-37), 3) := by decide +kernel
theorem d_Mo_isAnswered_99 : decode m_Mo_isAnswered.2.1 99 = .ok (.iinc 2 1, 3) := by decide +kernel
theorem d_Mo_isAnswered_102 : decode m_Mo_isAnswered.2.1 102 = .ok (.goto (-80), 3) := by decide +kernel
theorem d_Mo_isAnswered_105 : decode m_Mo_isAnswered.2.1 105 = .ok (.iload_n 1, 1) := by decide +kernel
theorem d_Mo_isAnswered_106 : decode m_Mo_isAnswered.2.1 106 = .ok (.istore_n 2, 1) := by decide +kernel
theorem d_Mo_isAnswered_107 : decode m_Mo_isAnswered.2.1 107 = .ok (.iload_n 2, 1) := by decide +kernel
theorem d_Mo_isAnswered_108 : decode m_Mo_isAnswered.2.1 108 = .ok (.ifCond .le 25, 3) := by decide +kernel
theorem d_Mo_isAnswered_111 : decode m_Mo_isAnswered.2.1 111 = .ok (.aload_n 0, 1) := by decide +kernel
theorem d_Mo_isAnswered_112 : decode m_Mo_isAnswered.2.1 112 = .ok (.getfield 267, 3) := by decide +kernel
theorem d_Mo_isAnswered_115 : decode m_Mo_isAnswered.2.1 115 = .ok (.ifCond .ne 18, 3) := by decide +kernel
theorem d_Mo_isAnswered_118 : decode m_Mo_isAnswered.2.1 118 = .ok (.aload_n 0, 1) := by decide +kernel
theorem d_Mo_isAnswered_119 : decode m_Mo_isAnswered.2.1 119 = .ok (.iload_n 2, 1) := by decide +kernel
theorem d_Mo_isAnswered_120 : decode m_Mo_isAnswered.2.1 120 = .ok (.invokevirtual 273, 3) := by decide +kernel
theorem d_Mo_isAnswered_123 : decode m_Mo_isAnswered.2.1 123 = .ok (.aload_n 0, 1) := by decide +kernel
theorem d_Mo_isAnswered_124 : decode m_Mo_isAnswered.2.1 124 = .ok (.getfield 58, 3) := by decide +kernel
theorem d_Mo_isAnswered_127 : decode m_Mo_isAnswered.2.1 127 = .ok (.iload_n 2, 1) := by decide +kernel
theorem d_Mo_isAnswered_128 : decode m_Mo_isAnswered.2.1 128 = .ok (.iaload, 1) := by decide +kernel
theorem d_Mo_isAnswered_129 : decode m_Mo_isAnswered.2.1 129 = .ok (.istore_n 2, 1) := by decide +kernel
theorem d_Mo_isAnswered_130 : decode m_Mo_isAnswered.2.1 130 = .ok (.goto (-23), 3) := by decide +kernel
theorem d_Mo_isAnswered_133 : decode m_Mo_isAnswered.2.1 133 = .ok (.aload_n 0, 1) := by decide +kernel
theorem d_Mo_isAnswered_134 : decode m_Mo_isAnswered.2.1 134 = .ok (.getfield 267, 3) := by decide +kernel
theorem d_Mo_isAnswered_137 : decode m_Mo_isAnswered.2.1 137 = .ok (.ifCond .ne 7, 3) := by decide +kernel
theorem d_Mo_isAnswered_140 : decode m_Mo_isAnswered.2.1 140 = .ok (.iconst 1, 1) := by decide +kernel
theorem d_Mo_isAnswered_141 : decode m_Mo_isAnswered.2.1 141 = .ok (.goto 4, 3) := by decide +kernel
theorem d_Mo_isAnswered_144 : decode m_Mo_isAnswered.2.1 144 = .ok (.iconst 0, 1) := by decide +kernel
theorem d_Mo_isAnswered_145 : decode m_Mo_isAnswered.2.1 145 = .ok (.ireturn, 1) := by decide +kernel
theorem d_Mo_answer_0 : decode m_Mo_answer.2.1 0 = .ok (.iload_n 1, 1) := by decide +kernel
theorem d_Mo_answer_1 : decode m_Mo_answer.2.1 1 = .ok (.invokestatic 141, 3) := by decide +kernel
theorem d_Mo_answer_4 : decode m_Mo_answer.2.1 4 = .ok (.ifCond .ne 5, 3) := by decide +kernel
theorem d_Mo_answer_7 : decode m_Mo_answer.2.1 7 = .ok (.iconst (-1), 1) := by decide +kernel
theorem d_Mo_answer_8 : decode m_Mo_answer.2.1 8 = .ok (.ireturn, 1) := by decide +kernel
theorem d_Mo_answer_9 : decode m_Mo_answer.2.1 9 = .ok (.aload_n 0, 1) := by decide +kernel
theorem d_Mo_answer_10 : decode m_Mo_answer.2.1 10 = .ok (.invokevirtual 276, 3) := by decide +kernel
theorem d_Mo_answer_13 : decode m_Mo_answer.2.1 13 = .ok (.ifCond .ne 6, 3) := by decide +kernel
theorem d_Mo_answer_16 : decode m_Mo_answer.2.1 16 = .ok (.bipush (-3), 2) := by decide +kernel
theorem d_Mo_answer_18 : decode m_Mo_answer.2.1 18 = .ok (.ireturn, 1) := by decide +kernel
theorem d_Mo_answer_19 : decode m_Mo_answer.2.1 19 = .ok (.iload_n 2, 1) := by decide +kernel
theorem d_Mo_answer_20 : decode m_Mo_answer.2.1 20 = .ok (.iconst (-1), 1) := by decide +kernel
theorem d_Mo_answer_21 : decode m_Mo_answer.2.1 21 = .ok (.if_icmp .ne 12, 3) := by decide +kernel
theorem d_Mo_answer_24 : decode m_Mo_answer.2.1 24 = .ok (.aload_n 0, 1) := by decide +kernel
theorem d_Mo_answer_25 : decode m_Mo_answer.2.1 25 = .ok (.getfield 83, 3) := by decide +kernel
theorem d_Mo_answer_28 : decode m_Mo_answer.2.1 28 = .ok (.iload_n 1, 1) := by decide +kernel
theorem d_Mo_answer_29 : decode m_Mo_answer.2.1 29 = .ok (.iaload, 1) := by decide +kernel
theorem d_Mo_answer_30 : decode m_Mo_answer.2.1 30 = .ok (.goto 37, 3) := by decide +kernel
theorem d_Mo_answer_33 : decode m_Mo_answer.2.1 33 = .ok (.iload_n 2, 1) := by decide +kernel
theorem d_Mo_answer_34 : decode m_Mo_answer.2.1 34 = .ok (.i2l, 1) := by decide +kernel
theorem d_Mo_answer_35 : decode m_Mo_answer.2.1 35 = .ok (.lconst 0, 1) := by decide +kernel
theorem d_Mo_answer_36 : decode m_Mo_answer.2.1 36 = .ok (.aload_n 0, 1) := by decide +kernel
theorem d_Mo_answer_37 : decode m_Mo_answer.2.1 37 = .ok (.getfield 83, 3) := by decide +kernel
theorem d_Mo_answer_40 : decode m_Mo_answer.2.1 40 = .ok (.iload_n 1, 1) := by decide +kernel
theorem d_Mo_answer_41 : decode m_Mo_answer.2.1 41 = .ok (.iaload, 1) := by decide +kernel
theorem d_Mo_answer_42 : decode m_Mo_answer.2.1 42 = .ok (.iconst 1, 1) := by decide +kernel
theorem d_Mo_answer_43 : decode m_Mo_answer.2.1 43 = .ok (.isub, 1) := by decide +kernel
theorem d_Mo_answer_44 : decode m_Mo_answer.2.1 44 = .ok (.i2l, 1) := by decide +kernel
theorem d_Mo_answer_45 : decode m_Mo_answer.2.1 45 = .ok (.invokestatic 109, 3) := by decide +kernel
theorem d_Mo_answer_48 : decode m_Mo_answer.2.1 48 = .ok (.ifCond .eq 17, 3) := by decide +kernel
theorem d_Mo_answer_51 : decode m_Mo_answer.2.1 51 = .ok (.aload_n 0, 1) := by decide +kernel
theorem d_Mo_answer_52 : decode m_Mo_answer.2.1 52 = .ok (.getfield 80, 3) := by decide +kernel
theorem d_Mo_answer_55 : decode m_Mo_answer.2.1 55 = .ok (.bipush 61, 2) := by decide +kernel
theorem d_Mo_answer_57 : decode m_Mo_answer.2.1 57 = .ok (.iload_n 1, 1) := by decide +kernel
theorem d_Mo_answer_58 : decode m_Mo_answer.2.1 58 = .ok (.imul, 1) := by decide +kernel
theorem d_Mo_answer_59 : decode m_Mo_answer.2.1 59 = .ok (.iload_n 2, 1) := by decide +kernel
theorem d_Mo_answer_60 : decode m_Mo_answer.2.1 60 = .ok (.iadd, 1) := by decide +kernel
theorem d_Mo_answer_61 : decode m_Mo_answer.2.1 61 = .ok (.iaload, 1) := by decide +kernel
theorem d_Mo_answer_62 : decode m_Mo_answer.2.1 62 = .ok (.goto 5, 3) := by decide +kernel
theorem d_Mo_answer_65 : decode m_Mo_answer.2.1 65 = .ok (.bipush (-6), 2) := by decide +kernel
theorem d_Mo_answer_67 : decode m_Mo_answer.2.1 67 = .ok (.ireturn, 1) := by decide +kernel
theorem d_Mo_spell_0 : decode m_Mo_spell.2.1 0 = .ok (.iload_n 1, 1) := by decide +kernel
theorem d_Mo_spell_1 : decode m_Mo_spell.2.1 1 = .ok (.invokestatic 141, 3) := by decide +kernel
theorem d_Mo_spell_4 : decode m_Mo_spell.2.1 4 = .ok (.ifCond .eq 13, 3) := by decide +kernel
theorem d_Mo_spell_7 : decode m_Mo_spell.2.1 7 = .ok (.iload_n 2, 1) := by decide +kernel
theorem d_Mo_spell_8 : decode m_Mo_spell.2.1 8 = .ok (.i2l, 1) := by decide +kernel
theorem d_Mo_spell_9 : decode m_Mo_spell.2.1 9 = .ok (.lconst 0, 1) := by decide +kernel
theorem d_Mo_spell_10 : decode m_Mo_spell.2.1 10 = .ok (.lconst 1, 1) := by decide +kernel
theorem d_Mo_spell_11 : decode m_Mo_spell.2.1 11 = .ok (.invokestatic 109, 3) := by decide +kernel
theorem d_Mo_spell_14 : decode m_Mo_spell.2.1 14 = .ok (.ifCond .ne 5, 3) := by decide +kernel
theorem d_Mo_spell_17 : decode m_Mo_spell.2.1 17 = .ok (.iconst (-1), 1) := by decide +kernel
theorem d_Mo_spell_18 : decode m_Mo_spell.2.1 18 = .ok (.ireturn, 1) := by decide +kernel
theorem d_Mo_spell_19 : decode m_Mo_spell.2.1 19 = .ok (.aload_n 0, 1) := by decide +kernel
theorem d_Mo_spell_20 : decode m_Mo_spell.2.1 20 = .ok (.getfield 25, 3) := by decide +kernel
theorem d_Mo_spell_23 : decode m_Mo_spell.2.1 23 = .ok (.iload_n 1, 1) := by decide +kernel
theorem d_Mo_spell_24 : decode m_Mo_spell.2.1 24 = .ok (.iaload, 1) := by decide +kernel
theorem d_Mo_spell_25 : decode m_Mo_spell.2.1 25 = .ok (.bipush 12, 2) := by decide +kernel
theorem d_Mo_spell_27 : decode m_Mo_spell.2.1 27 = .ok (.if_icmp .ne 6, 3) := by decide +kernel
theorem d_Mo_spell_30 : decode m_Mo_spell.2.1 30 = .ok (.bipush (-4), 2) := by decide +kernel
theorem d_Mo_spell_32 : decode m_Mo_spell.2.1 32 = .ok (.ireturn, 1) := by decide +kernel
theorem d_Mo_spell_33 : decode m_Mo_spell.2.1 33 = .ok (.aload_n 0, 1) := by decide +kernel
theorem d_Mo_spell_34 : decode m_Mo_spell.2.1 34 = .ok (.getfield 22, 3) := by decide +kernel
theorem d_Mo_spell_37 : decode m_Mo_spell.2.1 37 = .ok (.bipush 12, 2) := by decide +kernel
theorem d_Mo_spell_39 : decode m_Mo_spell.2.1 39 = .ok (.iload_n 1, 1) := by decide +kernel
theorem d_Mo_spell_40 : decode m_Mo_spell.2.1 40 = .ok (.imul, 1) := by decide +kernel
theorem d_Mo_spell_41 : decode m_Mo_spell.2.1 41 = .ok (.aload_n 0, 1) := by decide +kernel
theorem d_Mo_spell_42 : decode m_Mo_spell.2.1 42 = .ok (.getfield 25, 3) := by decide +kernel
theorem d_Mo_spell_45 : decode m_Mo_spell.2.1 45 = .ok (.iload_n 1, 1) := by decide +kernel
theorem d_Mo_spell_46 : decode m_Mo_spell.2.1 46 = .ok (.iaload, 1) := by decide +kernel
theorem d_Mo_spell_47 : decode m_Mo_spell.2.1 47 = .ok (.iadd, 1) := by decide +kernel
theorem d_Mo_spell_48 : decode m_Mo_spell.2.1 48 = .ok (.iload_n 2, 1) := by decide +kernel
theorem d_Mo_spell_49 : decode m_Mo_spell.2.1 49 = .ok (.iastore, 1) := by decide +kernel
theorem d_Mo_spell_50 : decode m_Mo_spell.2.1 50 = .ok (.aload_n 0, 1) := by decide +kernel
theorem d_Mo_spell_51 : decode m_Mo_spell.2.1 51 = .ok (.getfield 25, 3) := by decide +kernel
theorem d_Mo_spell_54 : decode m_Mo_spell.2.1 54 = .ok (.iload_n 1, 1) := by decide +kernel
theorem d_Mo_spell_55 : decode m_Mo_spell.2.1 55 = .ok (.dup2, 1) := by decide +kernel
theorem d_Mo_spell_56 : decode m_Mo_spell.2.1 56 = .ok (.iaload, 1) := by decide +kernel
theorem d_Mo_spell_57 : decode m_Mo_spell.2.1 57 = .ok (.iconst 1, 1) := by decide +kernel
theorem d_Mo_spell_58 : decode m_Mo_spell.2.1 58 = .ok (.iadd, 1) := by decide +kernel
theorem d_Mo_spell_59 : decode m_Mo_spell.2.1 59 = .ok (.iastore, 1) := by decide +kernel
theorem d_Mo_spell_60 : decode m_Mo_spell.2.1 60 = .ok (.aload_n 0, 1) := by decide +kernel
theorem d_Mo_spell_61 : decode m_Mo_spell.2.1 61 = .ok (.getfield 25, 3) := by decide +kernel
theorem d_Mo_spell_64 : decode m_Mo_spell.2.1 64 = .ok (.iload_n 1, 1) := by decide +kernel
theorem d_Mo_spell_65 : decode m_Mo_spell.2.1 65 = .ok (.iaload, 1) := by decide +kernel
theorem d_Mo_spell_66 : decode m_Mo_spell.2.1 66 = .ok (.ireturn, 1) := by decide +kernel
theorem d_Mo_clear_0 : decode m_Mo_clear.2.1 0 = .ok (.iload_n 1, 1) := by decide +kernel
theorem d_Mo_clear_1 : decode m_Mo_clear.2.1 1 = .ok (.invokestatic 141, 3) := by decide +kernel
theorem d_Mo_clear_4 : decode m_Mo_clear.2.1 4 = .ok (.ifCond .ne 5, 3) := by decide +kernel
theorem d_Mo_clear_7 : decode m_Mo_clear.2.1 7 = .ok (.iconst (-1), 1) := by decide +kernel
theorem d_Mo_clear_8 : decode m_Mo_clear.2.1 8 = .ok (.ireturn, 1) := by decide +kernel
theorem d_Mo_clear_9 : decode m_Mo_clear.2.1 9 = .ok (.aload_n 0, 1) := by decide +kernel
theorem d_Mo_clear_10 : decode m_Mo_clear.2.1 10 = .ok (.getfield 25, 3) := by decide +kernel
theorem d_Mo_clear_13 : decode m_Mo_clear.2.1 13 = .ok (.iload_n 1, 1) := by decide +kernel
theorem d_Mo_clear_14 : decode m_Mo_clear.2.1 14 = .ok (.iaload, 1) := by decide +kernel
theorem d_Mo_clear_15 : decode m_Mo_clear.2.1 15 = .ok (.istore_n 2, 1) := by decide +kernel
theorem d_Mo_clear_16 : decode m_Mo_clear.2.1 16 = .ok (.aload_n 0, 1) := by decide +kernel
theorem d_Mo_clear_17 : decode m_Mo_clear.2.1 17 = .ok (.getfield 25, 3) := by decide +kernel
theorem d_Mo_clear_20 : decode m_Mo_clear.2.1 20 = .ok (.iload_n 1, 1) := by decide +kernel
theorem d_Mo_clear_21 : decode m_Mo_clear.2.1 21 = .ok (.iconst 0, 1) := by decide +kernel
theorem d_Mo_clear_22 : decode m_Mo_clear.2.1 22 = .ok (.iastore, 1) := by decide +kernel
theorem d_Mo_clear_23 : decode m_Mo_clear.2.1 23 = .ok (.iload_n 2, 1) := by decide +kernel
theorem d_Mo_clear_24 : decode m_Mo_clear.2.1 24 = .ok (.ireturn, 1) := by decide +kernel
theorem d_Mo_take_0 : decode m_Mo_take.2.1 0 = .ok (.aload_n 0, 1) := by decide +kernel
theorem d_Mo_take_1 : decode m_Mo_take.2.1 1 = .ok (.invokevirtual 276, 3) := by decide +kernel
theorem d_Mo_take_4 : decode m_Mo_take.2.1 4 = .ok (.ifCond .ne 6, 3) := by decide +kernel
theorem d_Mo_take_7 : decode m_Mo_take.2.1 7 = .ok (.bipush (-3), 2) := by decide +kernel
theorem d_Mo_take_9 : decode m_Mo_take.2.1 9 = .ok (.ireturn, 1) := by decide +kernel
theorem d_Mo_take_10 : decode m_Mo_take.2.1 10 = .ok (.aload_n 0, 1) := by decide +kernel
theorem d_Mo_take_11 : decode m_Mo_take.2.1 11 = .ok (.getfield 83, 3) := by decide +kernel
theorem d_Mo_take_14 : decode m_Mo_take.2.1 14 = .ok (.iconst 0, 1) := by decide +kernel
theorem d_Mo_take_15 : decode m_Mo_take.2.1 15 = .ok (.iaload, 1) := by decide +kernel
theorem d_Mo_take_16 : decode m_Mo_take.2.1 16 = .ok (.bipush 12, 2) := by decide +kernel
theorem d_Mo_take_18 : decode m_Mo_take.2.1 18 = .ok (.if_icmp .gt 25, 3) := by decide +kernel
theorem d_Mo_take_21 : decode m_Mo_take.2.1 21 = .ok (.aload_n 0, 1) := by decide +kernel
theorem d_Mo_take_22 : decode m_Mo_take.2.1 22 = .ok (.getfield 83, 3) := by decide +kernel
theorem d_Mo_take_25 : decode m_Mo_take.2.1 25 = .ok (.iconst 1, 1) := by decide +kernel
theorem d_Mo_take_26 : decode m_Mo_take.2.1 26 = .ok (.iaload, 1) := by decide +kernel
theorem d_Mo_take_27 : decode m_Mo_take.2.1 27 = .ok (.bipush 12, 2) := by decide +kernel
theorem d_Mo_take_29 : decode m_Mo_take.2.1 29 = .ok (.if_icmp .gt 14, 3) := by decide +kernel
theorem d_Mo_take_32 : decode m_Mo_take.2.1 32 = .ok (.aload_n 0, 1) := by decide +kernel
theorem d_Mo_take_33 : decode m_Mo_take.2.1 33 = .ok (.getfield 83, 3) := by decide +kernel
theorem d_Mo_take_36 : decode m_Mo_take.2.1 36 = .ok (.iconst 2, 1) := by decide +kernel
theorem d_Mo_take_37 : decode m_Mo_take.2.1 37 = .ok (.iaload, 1) := by decide +kernel
theorem d_Mo_take_38 : decode m_Mo_take.2.1 38 = .ok (.bipush 12, 2) := by decide +kernel
theorem d_Mo_take_40 : decode m_Mo_take.2.1 40 = .ok (.if_icmp .le 6, 3) := by decide +kernel
theorem d_Mo_take_43 : decode m_Mo_take.2.1 43 = .ok (.bipush (-4), 2) := by decide +kernel
theorem d_Mo_take_45 : decode m_Mo_take.2.1 45 = .ok (.ireturn, 1) := by decide +kernel
theorem d_Mo_take_46 : decode m_Mo_take.2.1 46 = .ok (.iconst 0, 1) := by decide +kernel
theorem d_Mo_take_47 : decode m_Mo_take.2.1 47 = .ok (.istore_n 1, 1) := by decide +kernel
theorem d_Mo_take_48 : decode m_Mo_take.2.1 48 = .ok (.iload_n 1, 1) := by decide +kernel
theorem d_Mo_take_49 : decode m_Mo_take.2.1 49 = .ok (.iconst 3, 1) := by decide +kernel
theorem d_Mo_take_50 : decode m_Mo_take.2.1 50 = .ok (.if_icmp .ge 61, 3) := by decide +kernel
theorem d_Mo_take_53 : decode m_Mo_take.2.1 53 = .ok (.aload_n 0, 1) := by decide +kernel
theorem d_Mo_take_54 : decode m_Mo_take.2.1 54 = .ok (.getfield 25, 3) := by decide +kernel
theorem d_Mo_take_57 : decode m_Mo_take.2.1 57 = .ok (.iload_n 1, 1) := by decide +kernel
theorem d_Mo_take_58 : decode m_Mo_take.2.1 58 = .ok (.aload_n 0, 1) := by decide +kernel
theorem d_Mo_take_59 : decode m_Mo_take.2.1 59 = .ok (.getfield 83, 3) := by decide +kernel
theorem d_Mo_take_62 : decode m_Mo_take.2.1 62 = .ok (.iload_n 1, 1) := by decide +kernel
theorem d_Mo_take_63 : decode m_Mo_take.2.1 63 = .ok (.iaload, 1) := by decide +kernel
theorem d_Mo_take_64 : decode m_Mo_take.2.1 64 = .ok (.iastore, 1) := by decide +kernel
theorem d_Mo_take_65 : decode m_Mo_take.2.1 65 = .ok (.iconst 0, 1) := by decide +kernel
theorem d_Mo_take_66 : decode m_Mo_take.2.1 66 = .ok (.istore_n 2, 1) := by decide +kernel
theorem d_Mo_take_67 : decode m_Mo_take.2.1 67 = .ok (.iload_n 2, 1) := by decide +kernel
theorem d_Mo_take_68 : decode m_Mo_take.2.1 68 = .ok (.aload_n 0, 1) := by decide +kernel
theorem d_Mo_take_69 : decode m_Mo_take.2.1 69 = .ok (.getfield 83, 3) := by decide +kernel
theorem d_Mo_take_72 : decode m_Mo_take.2.1 72 = .ok (.iload_n 1, 1) := by decide +kernel
theorem d_Mo_take_73 : decode m_Mo_take.2.1 73 = .ok (.iaload, 1) := by decide +kernel
theorem d_Mo_take_74 : decode m_Mo_take.2.1 74 = .ok (.if_icmp .ge 31, 3) := by decide +kernel
theorem d_Mo_take_77 : decode m_Mo_take.2.1 77 = .ok (.aload_n 0, 1) := by decide +kernel
theorem d_Mo_take_78 : decode m_Mo_take.2.1 78 = .ok (.getfield 22, 3) := by decide +kernel
theorem d_Mo_take_81 : decode m_Mo_take.2.1 81 = .ok (.bipush 12, 2) := by decide +kernel
theorem d_Mo_take_83 : decode m_Mo_take.2.1 83 = .ok (.iload_n 1, 1) := by decide +kernel
theorem d_Mo_take_84 : decode m_Mo_take.2.1 84 = .ok (.imul, 1) := by decide +kernel
theorem d_Mo_take_85 : decode m_Mo_take.2.1 85 = .ok (.iload_n 2, 1) := by decide +kernel
theorem d_Mo_take_86 : decode m_Mo_take.2.1 86 = .ok (.iadd, 1) := by decide +kernel
theorem d_Mo_take_87 : decode m_Mo_take.2.1 87 = .ok (.aload_n 0, 1) := by decide +kernel
theorem d_Mo_take_88 : decode m_Mo_take.2.1 88 = .ok (.getfield 80, 3) := by decide +kernel
theorem d_Mo_take_91 : decode m_Mo_take.2.1 91 = .ok (.bipush 61, 2) := by decide +kernel
theorem d_Mo_take_93 : decode m_Mo_take.2.1 93 = .ok (.iload_n 1, 1) := by decide +kernel
theorem d_Mo_take_94 : decode m_Mo_take.2.1 94 = .ok (.imul, 1) := by decide +kernel
theorem d_Mo_take_95 : decode m_Mo_take.2.1 95 = .ok (.iload_n 2, 1) := by decide +kernel
theorem d_Mo_take_96 : decode m_Mo_take.2.1 96 = .ok (.iadd, 1) := by decide +kernel
theorem d_Mo_take_97 : decode m_Mo_take.2.1 97 = .ok (.iaload, 1) := by decide +kernel
theorem d_Mo_take_98 : decode m_Mo_take.2.1 98 = .ok (.iastore, 1) := by decide +kernel
theorem d_Mo_take_99 : decode m_Mo_take.2.1 99 = .ok (.iinc 2 1, 3) := by decide +kernel
theorem d_Mo_take_102 : decode m_Mo_take.2.1 102 = .ok (.goto (-35), 3) := by decide +kernel
theorem d_Mo_take_105 : decode m_Mo_take.2.1 105 = .ok (.iinc 1 1, 3) := by decide +kernel
theorem d_Mo_take_108 : decode m_Mo_take.2.1 108 = .ok (.goto (-60), 3) := by decide +kernel
theorem d_Mo_take_111 : decode m_Mo_take.2.1 111 = .ok (.aload_n 0, 1) := by decide +kernel
theorem d_Mo_take_112 : decode m_Mo_take.2.1 112 = .ok (.getfield 83, 3) := by decide +kernel
theorem d_Mo_take_115 : decode m_Mo_take.2.1 115 = .ok (.iconst 0, 1) := by decide +kernel
theorem d_Mo_take_116 : decode m_Mo_take.2.1 116 = .ok (.iaload, 1) := by decide +kernel
theorem d_Mo_take_117 : decode m_Mo_take.2.1 117 = .ok (.aload_n 0, 1) := by decide +kernel
theorem d_Mo_take_118 : decode m_Mo_take.2.1 118 = .ok (.getfield 83, 3) := by decide +kernel
theorem d_Mo_take_121 : decode m_Mo_take.2.1 121 = .ok (.iconst 1, 1) := by decide +kernel
theorem d_Mo_take_122 : decode m_Mo_take.2.1 122 = .ok (.iaload, 1) := by decide +kernel
theorem d_Mo_take_123 : decode m_Mo_take.2.1 123 = .ok (.iadd, 1) := by decide +kernel
theorem d_Mo_take_124 : decode m_Mo_take.2.1 124 = .ok (.aload_n 0, 1) := by decide +kernel
theorem d_Mo_take_125 : decode m_Mo_take.2.1 125 = .ok (.getfield 83, 3) := by decide +kernel
theorem d_Mo_take_128 : decode m_Mo_take.2.1 128 = .ok (.iconst 2, 1) := by decide +kernel
theorem d_Mo_take_129 : decode m_Mo_take.2.1 129 = .ok (.iaload, 1) := by decide +kernel
theorem d_Mo_take_130 : decode m_Mo_take.2.1 130 = .ok (.iadd, 1) := by decide +kernel
theorem d_Mo_take_131 : decode m_Mo_take.2.1 131 = .ok (.ireturn, 1) := by decide +kernel
theorem d_Mo_addWhole_0 : decode m_Mo_addWhole.2.1 0 = .ok (.aload_n 0, 1) := by decide +kernel
theorem d_Mo_addWhole_1 : decode m_Mo_addWhole.2.1 1 = .ok (.getfield 92, 3) := by decide +kernel
theorem d_Mo_addWhole_4 : decode m_Mo_addWhole.2.1 4 = .ok (.sipush 144, 3) := by decide +kernel
theorem d_Mo_addWhole_7 : decode m_Mo_addWhole.2.1 7 = .ok (.iload_n 1, 1) := by decide +kernel
theorem d_Mo_addWhole_8 : decode m_Mo_addWhole.2.1 8 = .ok (.imul, 1) := by decide +kernel
theorem d_Mo_addWhole_9 : decode m_Mo_addWhole.2.1 9 = .ok (.aload_n 0, 1) := by decide +kernel
theorem d_Mo_addWhole_10 : decode m_Mo_addWhole.2.1 10 = .ok (.getfield 95, 3) := by decide +kernel
theorem d_Mo_addWhole_13 : decode m_Mo_addWhole.2.1 13 = .ok (.iload_n 1, 1) := by decide +kernel
theorem d_Mo_addWhole_14 : decode m_Mo_addWhole.2.1 14 = .ok (.iaload, 1) := by decide +kernel
theorem d_Mo_addWhole_15 : decode m_Mo_addWhole.2.1 15 = .ok (.iadd, 1) := by decide +kernel
theorem d_Mo_addWhole_16 : decode m_Mo_addWhole.2.1 16 = .ok (.iload_n 2, 1) := by decide +kernel
theorem d_Mo_addWhole_17 : decode m_Mo_addWhole.2.1 17 = .ok (.iastore, 1) := by decide +kernel
theorem d_Mo_addWhole_18 : decode m_Mo_addWhole.2.1 18 = .ok (.aload_n 0, 1) := by decide +kernel
theorem d_Mo_addWhole_19 : decode m_Mo_addWhole.2.1 19 = .ok (.getfield 95, 3) := by decide +kernel
theorem d_Mo_addWhole_22 : decode m_Mo_addWhole.2.1 22 = .ok (.iload_n 1, 1) := by decide +kernel
theorem d_Mo_addWhole_23 : decode m_Mo_addWhole.2.1 23 = .ok (.dup2, 1) := by decide +kernel
theorem d_Mo_addWhole_24 : decode m_Mo_addWhole.2.1 24 = .ok (.iaload, 1) := by decide +kernel
theorem d_Mo_addWhole_25 : decode m_Mo_addWhole.2.1 25 = .ok (.iconst 1, 1) := by decide +kernel
theorem d_Mo_addWhole_26 : decode m_Mo_addWhole.2.1 26 = .ok (.iadd, 1) := by decide +kernel
theorem d_Mo_addWhole_27 : decode m_Mo_addWhole.2.1 27 = .ok (.iastore, 1) := by decide +kernel
theorem d_Mo_addWhole_28 : decode m_Mo_addWhole.2.1 28 = .ok (.return_, 1) := by decide +kernel
theorem d_Mo_layWhole_0 : decode m_Mo_layWhole.2.1 0 = .ok (.aload_n 0, 1) := by decide +kernel
theorem d_Mo_layWhole_1 : decode m_Mo_layWhole.2.1 1 = .ok (.getfield 95, 3) := by decide +kernel
theorem d_Mo_layWhole_4 : decode m_Mo_layWhole.2.1 4 = .ok (.iload_n 1, 1) := by decide +kernel
theorem d_Mo_layWhole_5 : decode m_Mo_layWhole.2.1 5 = .ok (.iconst 0, 1) := by decide +kernel
theorem d_Mo_layWhole_6 : decode m_Mo_layWhole.2.1 6 = .ok (.iastore, 1) := by decide +kernel
theorem d_Mo_layWhole_7 : decode m_Mo_layWhole.2.1 7 = .ok (.iconst 0, 1) := by decide +kernel
theorem d_Mo_layWhole_8 : decode m_Mo_layWhole.2.1 8 = .ok (.istore_n 2, 1) := by decide +kernel
theorem d_Mo_layWhole_9 : decode m_Mo_layWhole.2.1 9 = .ok (.iload_n 2, 1) := by decide +kernel
theorem d_Mo_layWhole_10 : decode m_Mo_layWhole.2.1 10 = .ok (.aload_n 0, 1) := by decide +kernel
theorem d_Mo_layWhole_11 : decode m_Mo_layWhole.2.1 11 = .ok (.getfield 13, 3) := by decide +kernel
theorem d_Mo_layWhole_14 : decode m_Mo_layWhole.2.1 14 = .ok (.iload_n 1, 1) := by decide +kernel
theorem d_Mo_layWhole_15 : decode m_Mo_layWhole.2.1 15 = .ok (.iaload, 1) := by decide +kernel
theorem d_Mo_layWhole_16 : decode m_Mo_layWhole.2.1 16 = .ok (.if_icmp .ge 78, 3) := by decide +kernel
theorem d_Mo_layWhole_19 : decode m_Mo_layWhole.2.1 19 = .ok (.aload_n 0, 1) := by decide +kernel
theorem d_Mo_layWhole_20 : decode m_Mo_layWhole.2.1 20 = .ok (.getfield 7, 3) := by decide +kernel
theorem d_Mo_layWhole_23 : decode m_Mo_layWhole.2.1 23 = .ok (.bipush 12, 2) := by decide +kernel
theorem d_Mo_layWhole_25 : decode m_Mo_layWhole.2.1 25 = .ok (.iload_n 1, 1) := by decide +kernel
theorem d_Mo_layWhole_26 : decode m_Mo_layWhole.2.1 26 = .ok (.imul, 1) := by decide +kernel
theorem d_Mo_layWhole_27 : decode m_Mo_layWhole.2.1 27 = .ok (.iload_n 2, 1) := by decide +kernel
theorem d_Mo_layWhole_28 : decode m_Mo_layWhole.2.1 28 = .ok (.iadd, 1) := by decide +kernel
theorem d_Mo_layWhole_29 : decode m_Mo_layWhole.2.1 29 = .ok (.iaload, 1) := by decide +kernel
theorem d_Mo_layWhole_30 : decode m_Mo_layWhole.2.1 30 = .ok (.istore_n 3, 1) := by decide +kernel
theorem d_Mo_layWhole_31 : decode m_Mo_layWhole.2.1 31 = .ok (.iload_n 3, 1) := by decide +kernel
theorem d_Mo_layWhole_32 : decode m_Mo_layWhole.2.1 32 = .ok (.iconst 2, 1) := by decide +kernel
theorem d_Mo_layWhole_33 : decode m_Mo_layWhole.2.1 33 = .ok (.if_icmp .ge 9, 3) := by decide +kernel
theorem d_Mo_layWhole_36 : decode m_Mo_layWhole.2.1 36 = .ok (.aload_n 0, 1) := by decide +kernel
theorem d_Mo_layWhole_37 : decode m_Mo_layWhole.2.1 37 = .ok (.iload_n 1, 1) := by decide +kernel
theorem d_Mo_layWhole_38 : decode m_Mo_layWhole.2.1 38 = .ok (.iload_n 3, 1) := by decide +kernel
theorem d_Mo_layWhole_39 : decode m_Mo_layWhole.2.1 39 = .ok (.invokevirtual 279, 3) := by decide +kernel
theorem d_Mo_layWhole_42 : decode m_Mo_layWhole.2.1 42 = .ok (.iconst 0, 1) := by decide +kernel
theorem d_Mo_layWhole_43 : decode m_Mo_layWhole.2.1 43 = .ok (.istore 4, 2) := by decide +kernel
theorem d_Mo_layWhole_45 : decode m_Mo_layWhole.2.1 45 = .ok (.iload_n 3, 1) := by decide +kernel
theorem d_Mo_layWhole_46 : decode m_Mo_layWhole.2.1 46 = .ok (.iconst 2, 1) := by decide +kernel
theorem d_Mo_layWhole_47 : decode m_Mo_layWhole.2.1 47 = .ok (.if_icmp .lt 41, 3) := by decide +kernel
theorem d_Mo_layWhole_50 : decode m_Mo_layWhole.2.1 50 = .ok (.iload 4, 2) := by decide +kernel
theorem d_Mo_layWhole_52 : decode m_Mo_layWhole.2.1 52 = .ok (.aload_n 0, 1) := by decide +kernel
theorem d_Mo_layWhole_53 : decode m_Mo_layWhole.2.1 53 = .ok (.getfield 89, 3) := by decide +kernel
theorem d_Mo_layWhole_56 : decode m_Mo_layWhole.2.1 56 = .ok (.iload_n 3, 1) := by decide +kernel
theorem d_Mo_layWhole_57 : decode m_Mo_layWhole.2.1 57 = .ok (.iconst 2, 1) := by decide +kernel
theorem d_Mo_layWhole_58 : decode m_Mo_layWhole.2.1 58 = .ok (.isub, 1) := by decide +kernel
theorem d_Mo_layWhole_59 : decode m_Mo_layWhole.2.1 59 = .ok (.iaload, 1) := by decide +kernel
theorem d_Mo_layWhole_60 : decode m_Mo_layWhole.2.1 60 = .ok (.if_icmp .ge 28, 3) := by decide +kernel
theorem d_Mo_layWhole_63 : decode m_Mo_layWhole.2.1 63 = .ok (.aload_n 0, 1) := by decide +kernel
theorem d_Mo_layWhole_64 : decode m_Mo_layWhole.2.1 64 = .ok (.iload_n 1, 1) := by decide +kernel
theorem d_Mo_layWhole_65 : decode m_Mo_layWhole.2.1 65 = .ok (.aload_n 0, 1) := by decide +kernel
theorem d_Mo_layWhole_66 : decode m_Mo_layWhole.2.1 66 = .ok (.getfield 86, 3) := by decide +kernel
theorem d_Mo_layWhole_69 : decode m_Mo_layWhole.2.1 69 = .ok (.bipush 12, 2) := by decide +kernel
theorem d_Mo_layWhole_71 : decode m_Mo_layWhole.2.1 71 = .ok (.iload_n 3, 1) := by decide +kernel
theorem d_Mo_layWhole_72 : decode m_Mo_layWhole.2.1 72 = .ok (.iconst 2, 1) := by decide +kernel
theorem d_Mo_layWhole_73 : decode m_Mo_layWhole.2.1 73 = .ok (.isub, 1) := by decide +kernel
theorem d_Mo_layWhole_74 : decode m_Mo_layWhole.2.1 74 = .ok (.imul, 1) := by decide +kernel
theorem d_Mo_layWhole_75 : decode m_Mo_layWhole.2.1 75 = .ok (.iload 4, 2) := by decide +kernel
theorem d_Mo_layWhole_77 : decode m_Mo_layWhole.2.1 77 = .ok (.iadd, 1) := by decide +kernel
theorem d_Mo_layWhole_78 : decode m_Mo_layWhole.2.1 78 = .ok (.iaload, 1) := by decide +kernel
theorem d_Mo_layWhole_79 : decode m_Mo_layWhole.2.1 79 = .ok (.invokevirtual 279, 3) := by decide +kernel
theorem d_Mo_layWhole_82 : decode m_Mo_layWhole.2.1 82 = .ok (.iinc 4 1, 3) := by decide +kernel
theorem d_Mo_layWhole_85 : decode m_Mo_layWhole.2.1 85 = .ok (.goto (-40), 3) := by decide +kernel
theorem d_Mo_layWhole_88 : decode m_Mo_layWhole.2.1 88 = .ok (.iinc 2 1, 3) := by decide +kernel
theorem d_Mo_layWhole_91 : decode m_Mo_layWhole.2.1 91 = .ok (.goto (-82), 3) := by decide +kernel
theorem d_Mo_layWhole_94 : decode m_Mo_layWhole.2.1 94 = .ok (.return_, 1) := by decide +kernel
theorem d_Mo_isOne_0 : decode m_Mo_isOne.2.1 0 = .ok (.aload_n 0, 1) := by decide +kernel
theorem d_Mo_isOne_1 : decode m_Mo_isOne.2.1 1 = .ok (.iconst 0, 1) := by decide +kernel
theorem d_Mo_isOne_2 : decode m_Mo_isOne.2.1 2 = .ok (.invokevirtual 282, 3) := by decide +kernel
theorem d_Mo_isOne_5 : decode m_Mo_isOne.2.1 5 = .ok (.aload_n 0, 1) := by decide +kernel
theorem d_Mo_isOne_6 : decode m_Mo_isOne.2.1 6 = .ok (.iconst 1, 1) := by decide +kernel
theorem d_Mo_isOne_7 : decode m_Mo_isOne.2.1 7 = .ok (.invokevirtual 282, 3) := by decide +kernel
theorem d_Mo_isOne_10 : decode m_Mo_isOne.2.1 10 = .ok (.aload_n 0, 1) := by decide +kernel
theorem d_Mo_isOne_11 : decode m_Mo_isOne.2.1 11 = .ok (.getfield 95, 3) := by decide +kernel
theorem d_Mo_isOne_14 : decode m_Mo_isOne.2.1 14 = .ok (.iconst 0, 1) := by decide +kernel
theorem d_Mo_isOne_15 : decode m_Mo_isOne.2.1 15 = .ok (.iaload, 1) := by decide +kernel
theorem d_Mo_isOne_16 : decode m_Mo_isOne.2.1 16 = .ok (.aload_n 0, 1) := by decide +kernel
theorem d_Mo_isOne_17 : decode m_Mo_isOne.2.1 17 = .ok (.getfield 95, 3) := by decide +kernel
theorem d_Mo_isOne_20 : decode m_Mo_isOne.2.1 20 = .ok (.iconst 1, 1) := by decide +kernel
theorem d_Mo_isOne_21 : decode m_Mo_isOne.2.1 21 = .ok (.iaload, 1) := by decide +kernel
theorem d_Mo_isOne_22 : decode m_Mo_isOne.2.1 22 = .ok (.if_icmp .ne 7, 3) := by decide +kernel
theorem d_Mo_isOne_25 : decode m_Mo_isOne.2.1 25 = .ok (.iconst 1, 1) := by decide +kernel
theorem d_Mo_isOne_26 : decode m_Mo_isOne.2.1 26 = .ok (.goto 4, 3) := by decide +kernel
theorem d_Mo_isOne_29 : decode m_Mo_isOne.2.1 29 = .ok (.iconst 0, 1) := by decide +kernel
theorem d_Mo_isOne_30 : decode m_Mo_isOne.2.1 30 = .ok (.istore_n 1, 1) := by decide +kernel
theorem d_Mo_isOne_31 : decode m_Mo_isOne.2.1 31 = .ok (.iconst 0, 1) := by decide +kernel
theorem d_Mo_isOne_32 : decode m_Mo_isOne.2.1 32 = .ok (.istore_n 2, 1) := by decide +kernel
theorem d_Mo_isOne_33 : decode m_Mo_isOne.2.1 33 = .ok (.iload_n 2, 1) := by decide +kernel
theorem d_Mo_isOne_34 : decode m_Mo_isOne.2.1 34 = .ok (.aload_n 0, 1) := by decide +kernel
theorem d_Mo_isOne_35 : decode m_Mo_isOne.2.1 35 = .ok (.getfield 95, 3) := by decide +kernel
theorem d_Mo_isOne_38 : decode m_Mo_isOne.2.1 38 = .ok (.iconst 0, 1) := by decide +kernel
theorem d_Mo_isOne_39 : decode m_Mo_isOne.2.1 39 = .ok (.iaload, 1) := by decide +kernel
theorem d_Mo_isOne_40 : decode m_Mo_isOne.2.1 40 = .ok (.if_icmp .ge 38, 3) := by decide +kernel
theorem d_Mo_isOne_43 : decode m_Mo_isOne.2.1 43 = .ok (.iload_n 1, 1) := by decide +kernel
theorem d_Mo_isOne_44 : decode m_Mo_isOne.2.1 44 = .ok (.ifCond .eq 34, 3) := by decide +kernel
theorem d_Mo_isOne_47 : decode m_Mo_isOne.2.1 47 = .ok (.aload_n 0, 1) := by decide +kernel
theorem d_Mo_isOne_48 : decode m_Mo_isOne.2.1 48 = .ok (.getfield 92, 3) := by decide +kernel
theorem d_Mo_isOne_51 : decode m_Mo_isOne.2.1 51 = .ok (.iload_n 2, 1) := by decide +kernel
theorem d_Mo_isOne_52 : decode m_Mo_isOne.2.1 52 = .ok (.iaload, 1) := by decide +kernel
theorem d_Mo_isOne_53 : decode m_Mo_isOne.2.1 53 = .ok (.aload_n 0, 1) := by decide +kernel
theorem d_Mo_isOne_54 : decode m_Mo_isOne.2.1 54 = .ok (.getfield 92, 3) := by decide +kernel
theorem d_Mo_isOne_57 : decode m_Mo_isOne.2.1 57 = .ok (.sipush 144, 3) := by decide +kernel
theorem d_Mo_isOne_60 : decode m_Mo_isOne.2.1 60 = .ok (.iload_n 2, 1) := by decide +kernel
theorem d_Mo_isOne_61 : decode m_Mo_isOne.2.1 61 = .ok (.iadd, 1) := by decide +kernel
theorem d_Mo_isOne_62 : decode m_Mo_isOne.2.1 62 = .ok (.iaload, 1) := by decide +kernel
theorem d_Mo_isOne_63 : decode m_Mo_isOne.2.1 63 = .ok (.if_icmp .ne 7, 3) := by decide +kernel
theorem d_Mo_isOne_66 : decode m_Mo_isOne.2.1 66 = .ok (.iconst 1, 1) := by decide +kernel
theorem d_Mo_isOne_67 : decode m_Mo_isOne.2.1 67 = .ok (.goto 4, 3) := by decide +kernel
theorem d_Mo_isOne_70 : decode m_Mo_isOne.2.1 70 = .ok (.iconst 0, 1) := by decide +kernel
theorem d_Mo_isOne_71 : decode m_Mo_isOne.2.1 71 = .ok (.istore_n 1, 1) := by decide +kernel
theorem d_Mo_isOne_72 : decode m_Mo_isOne.2.1 72 = .ok (.iinc 2 1, 3) := by decide +kernel
theorem d_Mo_isOne_75 : decode m_Mo_isOne.2.1 75 = .ok (.goto (-42), 3) := by decide +kernel
theorem d_Mo_isOne_78 : decode m_Mo_isOne.2.1 78 = .ok (.iload_n 1, 1) := by decide +kernel
theorem d_Mo_isOne_79 : decode m_Mo_isOne.2.1 79 = .ok (.ireturn, 1) := by decide +kernel
theorem d_Mo_isNeeded_0 : decode m_Mo_isNeeded.2.1 0 = .ok (.iconst 1, 1) := by decide +kernel
theorem d_Mo_isNeeded_1 : decode m_Mo_isNeeded.2.1 1 = .ok (.istore_n 2, 1) := by decide +kernel
theorem d_Mo_isNeeded_2 : decode m_Mo_isNeeded.2.1 2 = .ok (.iconst 0, 1) := by decide +kernel
theorem d_Mo_isNeeded_3 : decode m_Mo_isNeeded.2.1 3 = .ok (.istore_n 3, 1) := by decide +kernel
theorem d_Mo_isNeeded_4 : decode m_Mo_isNeeded.2.1 4 = .ok (.iload_n 3, 1) := by decide +kernel
theorem d_Mo_isNeeded_5 : decode m_Mo_isNeeded.2.1 5 = .ok (.iconst 3, 1) := by decide +kernel
theorem d_Mo_isNeeded_6 : decode m_Mo_isNeeded.2.1 6 = .ok (.if_icmp .ge 84, 3) := by decide +kernel
theorem d_Mo_isNeeded_9 : decode m_Mo_isNeeded.2.1 9 = .ok (.iload_n 3, 1) := by decide +kernel
theorem d_Mo_isNeeded_10 : decode m_Mo_isNeeded.2.1 10 = .ok (.istore 4, 2) := by decide +kernel
theorem d_Mo_isNeeded_12 : decode m_Mo_isNeeded.2.1 12 = .ok (.iconst 0, 1) := by decide +kernel
theorem d_Mo_isNeeded_13 : decode m_Mo_isNeeded.2.1 13 = .ok (.istore 5, 2) := by decide +kernel
theorem d_Mo_isNeeded_15 : decode m_Mo_isNeeded.2.1 15 = .ok (.iload 5, 2) := by decide +kernel
theorem d_Mo_isNeeded_17 : decode m_Mo_isNeeded.2.1 17 = .ok (.aload_n 0, 1) := by decide +kernel
theorem d_Mo_isNeeded_18 : decode m_Mo_isNeeded.2.1 18 = .ok (.getfield 89, 3) := by decide +kernel
theorem d_Mo_isNeeded_21 : decode m_Mo_isNeeded.2.1 21 = .ok (.iload_n 1, 1) := by decide +kernel
theorem d_Mo_isNeeded_22 : decode m_Mo_isNeeded.2.1 22 = .ok (.iaload, 1) := by decide +kernel
theorem d_Mo_isNeeded_23 : decode m_Mo_isNeeded.2.1 23 = .ok (.if_icmp .ge 33, 3) := by decide +kernel
theorem d_Mo_isNeeded_26 : decode m_Mo_isNeeded.2.1 26 = .ok (.aload_n 0, 1) := by decide +kernel
theorem d_Mo_isNeeded_27 : decode m_Mo_isNeeded.2.1 27 = .ok (.getfield 16, 3) := by decide +kernel
theorem d_Mo_isNeeded_30 : decode m_Mo_isNeeded.2.1 30 = .ok (.iconst 3, 1) := by decide +kernel
theorem d_Mo_isNeeded_31 : decode m_Mo_isNeeded.2.1 31 = .ok (.aload_n 0, 1) := by decide +kernel
theorem d_Mo_isNeeded_32 : decode m_Mo_isNeeded.2.1 32 = .ok (.getfield 86, 3) := by decide +kernel
theorem d_Mo_isNeeded_35 : decode m_Mo_isNeeded.2.1 35 = .ok (.bipush 12, 2) := by decide +kernel
theorem d_Mo_isNeeded_37 : decode m_Mo_isNeeded.2.1 37 = .ok (.iload_n 1, 1) := by decide +kernel
theorem d_Mo_isNeeded_38 : decode m_Mo_isNeeded.2.1 38 = .ok (.imul, 1) := by decide +kernel
theorem d_Mo_isNeeded_39 : decode m_Mo_isNeeded.2.1 39 = .ok (.iload 5, 2) := by decide +kernel
theorem d_Mo_isNeeded_41 : decode m_Mo_isNeeded.2.1 41 = .ok (.iadd, 1) := by decide +kernel
theorem d_Mo_isNeeded_42 : decode m_Mo_isNeeded.2.1 42 = .ok (.iaload, 1) := by decide +kernel
theorem d_Mo_isNeeded_43 : decode m_Mo_isNeeded.2.1 43 = .ok (.imul, 1) := by decide +kernel
theorem d_Mo_isNeeded_44 : decode m_Mo_isNeeded.2.1 44 = .ok (.iload 4, 2) := by decide +kernel
theorem d_Mo_isNeeded_46 : decode m_Mo_isNeeded.2.1 46 = .ok (.iadd, 1) := by decide +kernel
theorem d_Mo_isNeeded_47 : decode m_Mo_isNeeded.2.1 47 = .ok (.iaload, 1) := by decide +kernel
theorem d_Mo_isNeeded_48 : decode m_Mo_isNeeded.2.1 48 = .ok (.istore 4, 2) := by decide +kernel
theorem d_Mo_isNeeded_50 : decode m_Mo_isNeeded.2.1 50 = .ok (.iinc 5 1, 3) := by decide +kernel
theorem d_Mo_isNeeded_53 : decode m_Mo_isNeeded.2.1 53 = .ok (.goto (-38), 3) := by decide +kernel
theorem d_Mo_isNeeded_56 : decode m_Mo_isNeeded.2.1 56 = .ok (.iload_n 2, 1) := by decide +kernel
theorem d_Mo_isNeeded_57 : decode m_Mo_isNeeded.2.1 57 = .ok (.ifCond .eq 25, 3) := by decide +kernel
theorem d_Mo_isNeeded_60 : decode m_Mo_isNeeded.2.1 60 = .ok (.aload_n 0, 1) := by decide +kernel
theorem d_Mo_isNeeded_61 : decode m_Mo_isNeeded.2.1 61 = .ok (.getfield 19, 3) := by decide +kernel
theorem d_Mo_isNeeded_64 : decode m_Mo_isNeeded.2.1 64 = .ok (.iconst 3, 1) := by decide +kernel
theorem d_Mo_isNeeded_65 : decode m_Mo_isNeeded.2.1 65 = .ok (.iload_n 1, 1) := by decide +kernel
theorem d_Mo_isNeeded_66 : decode m_Mo_isNeeded.2.1 66 = .ok (.imul, 1) := by decide +kernel
theorem d_Mo_isNeeded_67 : decode m_Mo_isNeeded.2.1 67 = .ok (.iload_n 3, 1) := by decide +kernel
theorem d_Mo_isNeeded_68 : decode m_Mo_isNeeded.2.1 68 = .ok (.iadd, 1) := by decide +kernel
theorem d_Mo_isNeeded_69 : decode m_Mo_isNeeded.2.1 69 = .ok (.iaload, 1) := by decide +kernel
theorem d_Mo_isNeeded_70 : decode m_Mo_isNeeded.2.1 70 = .ok (.iload 4, 2) := by decide +kernel
theorem d_Mo_isNeeded_72 : decode m_Mo_isNeeded.2.1 72 = .ok (.invokestatic 158, 3) := by decide +kernel
theorem d_Mo_isNeeded_75 : decode m_Mo_isNeeded.2.1 75 = .ok (.ifCond .eq 7, 3) := by decide +kernel
theorem d_Mo_isNeeded_78 : decode m_Mo_isNeeded.2.1 78 = .ok (.iconst 1, 1) := by decide +kernel
theorem d_Mo_isNeeded_79 : decode m_Mo_isNeeded.2.1 79 = .ok (.goto 4, 3) := by decide +kernel
theorem d_Mo_isNeeded_82 : decode m_Mo_isNeeded.2.1 82 = .ok (.iconst 0, 1) := by decide +kernel
theorem d_Mo_isNeeded_83 : decode m_Mo_isNeeded.2.1 83 = .ok (.istore_n 2, 1) := by decide +kernel
theorem d_Mo_isNeeded_84 : decode m_Mo_isNeeded.2.1 84 = .ok (.iinc 3 1, 3) := by decide +kernel
theorem d_Mo_isNeeded_87 : decode m_Mo_isNeeded.2.1 87 = .ok (.goto (-83), 3) := by decide +kernel
theorem d_Mo_isNeeded_90 : decode m_Mo_isNeeded.2.1 90 = .ok (.iload_n 2, 1) := by decide +kernel
theorem d_Mo_isNeeded_91 : decode m_Mo_isNeeded.2.1 91 = .ok (.ireturn, 1) := by decide +kernel
theorem d_Mo_fits_0 : decode m_Mo_fits.2.1 0 = .ok (.iconst 0, 1) := by decide +kernel
theorem d_Mo_fits_1 : decode m_Mo_fits.2.1 1 = .ok (.istore_n 1, 1) := by decide +kernel
theorem d_Mo_fits_2 : decode m_Mo_fits.2.1 2 = .ok (.iload_n 1, 1) := by decide +kernel
theorem d_Mo_fits_3 : decode m_Mo_fits.2.1 3 = .ok (.iconst 3, 1) := by decide +kernel
theorem d_Mo_fits_4 : decode m_Mo_fits.2.1 4 = .ok (.if_icmp .ge 61, 3) := by decide +kernel
theorem d_Mo_fits_7 : decode m_Mo_fits.2.1 7 = .ok (.aload_n 0, 1) := by decide +kernel
theorem d_Mo_fits_8 : decode m_Mo_fits.2.1 8 = .ok (.getfield 89, 3) := by decide +kernel
theorem d_Mo_fits_11 : decode m_Mo_fits.2.1 11 = .ok (.iload_n 1, 1) := by decide +kernel
theorem d_Mo_fits_12 : decode m_Mo_fits.2.1 12 = .ok (.aload_n 0, 1) := by decide +kernel
theorem d_Mo_fits_13 : decode m_Mo_fits.2.1 13 = .ok (.getfield 25, 3) := by decide +kernel
theorem d_Mo_fits_16 : decode m_Mo_fits.2.1 16 = .ok (.iload_n 1, 1) := by decide +kernel
theorem d_Mo_fits_17 : decode m_Mo_fits.2.1 17 = .ok (.iaload, 1) := by decide +kernel
theorem d_Mo_fits_18 : decode m_Mo_fits.2.1 18 = .ok (.iastore, 1) := by decide +kernel
theorem d_Mo_fits_19 : decode m_Mo_fits.2.1 19 = .ok (.iconst 0, 1) := by decide +kernel
theorem d_Mo_fits_20 : decode m_Mo_fits.2.1 20 = .ok (.istore_n 2, 1) := by decide +kernel
theorem d_Mo_fits_21 : decode m_Mo_fits.2.1 21 = .ok (.iload_n 2, 1) := by decide +kernel
theorem d_Mo_fits_22 : decode m_Mo_fits.2.1 22 = .ok (.aload_n 0, 1) := by decide +kernel
theorem d_Mo_fits_23 : decode m_Mo_fits.2.1 23 = .ok (.getfield 25, 3) := by decide +kernel
theorem d_Mo_fits_26 : decode m_Mo_fits.2.1 26 = .ok (.iload_n 1, 1) := by decide +kernel
theorem d_Mo_fits_27 : decode m_Mo_fits.2.1 27 = .ok (.iaload, 1) := by decide +kernel
theorem d_Mo_fits_28 : decode m_Mo_fits.2.1 28 = .ok (.if_icmp .ge 31, 3) := by decide +kernel
theorem d_Mo_fits_31 : decode m_Mo_fits.2.1 31 = .ok (.aload_n 0, 1) := by decide +kernel
theorem d_Mo_fits_32 : decode m_Mo_fits.2.1 32 = .ok (.getfield 86, 3) := by decide +kernel
theorem d_Mo_fits_35 : decode m_Mo_fits.2.1 35 = .ok (.bipush 12, 2) := by decide +kernel
theorem d_Mo_fits_37 : decode m_Mo_fits.2.1 37 = .ok (.iload_n 1, 1) := by decide +kernel
theorem d_Mo_fits_38 : decode m_Mo_fits.2.1 38 = .ok (.imul, 1) := by decide +kernel
theorem d_Mo_fits_39 : decode m_Mo_fits.2.1 39 = .ok (.iload_n 2, 1) := by decide +kernel
theorem d_Mo_fits_40 : decode m_Mo_fits.2.1 40 = .ok (.iadd, 1) := by decide +kernel
theorem d_Mo_fits_41 : decode m_Mo_fits.2.1 41 = .ok (.aload_n 0, 1) := by decide +kernel
theorem d_Mo_fits_42 : decode m_Mo_fits.2.1 42 = .ok (.getfield 22, 3) := by decide +kernel
theorem d_Mo_fits_45 : decode m_Mo_fits.2.1 45 = .ok (.bipush 12, 2) := by decide +kernel
theorem d_Mo_fits_47 : decode m_Mo_fits.2.1 47 = .ok (.iload_n 1, 1) := by decide +kernel
theorem d_Mo_fits_48 : decode m_Mo_fits.2.1 48 = .ok (.imul, 1) := by decide +kernel
theorem d_Mo_fits_49 : decode m_Mo_fits.2.1 49 = .ok (.iload_n 2, 1) := by decide +kernel
theorem d_Mo_fits_50 : decode m_Mo_fits.2.1 50 = .ok (.iadd, 1) := by decide +kernel
theorem d_Mo_fits_51 : decode m_Mo_fits.2.1 51 = .ok (.iaload, 1) := by decide +kernel
theorem d_Mo_fits_52 : decode m_Mo_fits.2.1 52 = .ok (.iastore, 1) := by decide +kernel
theorem d_Mo_fits_53 : decode m_Mo_fits.2.1 53 = .ok (.iinc 2 1, 3) := by decide +kernel
theorem d_Mo_fits_56 : decode m_Mo_fits.2.1 56 = .ok (.goto (-35), 3) := by decide +kernel
theorem d_Mo_fits_59 : decode m_Mo_fits.2.1 59 = .ok (.iinc 1 1, 3) := by decide +kernel
theorem d_Mo_fits_62 : decode m_Mo_fits.2.1 62 = .ok (.goto (-60), 3) := by decide +kernel
theorem d_Mo_fits_65 : decode m_Mo_fits.2.1 65 = .ok (.aload_n 0, 1) := by decide +kernel
theorem d_Mo_fits_66 : decode m_Mo_fits.2.1 66 = .ok (.iconst 0, 1) := by decide +kernel
theorem d_Mo_fits_67 : decode m_Mo_fits.2.1 67 = .ok (.invokevirtual 285, 3) := by decide +kernel
theorem d_Mo_fits_70 : decode m_Mo_fits.2.1 70 = .ok (.ifCond .eq 23, 3) := by decide +kernel
theorem d_Mo_fits_73 : decode m_Mo_fits.2.1 73 = .ok (.aload_n 0, 1) := by decide +kernel
theorem d_Mo_fits_74 : decode m_Mo_fits.2.1 74 = .ok (.iconst 1, 1) := by decide +kernel
theorem d_Mo_fits_75 : decode m_Mo_fits.2.1 75 = .ok (.invokevirtual 285, 3) := by decide +kernel
theorem d_Mo_fits_78 : decode m_Mo_fits.2.1 78 = .ok (.ifCond .eq 15, 3) := by decide +kernel
theorem d_Mo_fits_81 : decode m_Mo_fits.2.1 81 = .ok (.aload_n 0, 1) := by decide +kernel
theorem d_Mo_fits_82 : decode m_Mo_fits.2.1 82 = .ok (.iconst 2, 1) := by decide +kernel
theorem d_Mo_fits_83 : decode m_Mo_fits.2.1 83 = .ok (.invokevirtual 285, 3) := by decide +kernel
theorem d_Mo_fits_86 : decode m_Mo_fits.2.1 86 = .ok (.ifCond .eq 7, 3) := by decide +kernel
theorem d_Mo_fits_89 : decode m_Mo_fits.2.1 89 = .ok (.iconst 1, 1) := by decide +kernel
theorem d_Mo_fits_90 : decode m_Mo_fits.2.1 90 = .ok (.goto 4, 3) := by decide +kernel
theorem d_Mo_fits_93 : decode m_Mo_fits.2.1 93 = .ok (.iconst 0, 1) := by decide +kernel
theorem d_Mo_fits_94 : decode m_Mo_fits.2.1 94 = .ok (.istore_n 1, 1) := by decide +kernel
theorem d_Mo_fits_95 : decode m_Mo_fits.2.1 95 = .ok (.aload_n 0, 1) := by decide +kernel
theorem d_Mo_fits_96 : decode m_Mo_fits.2.1 96 = .ok (.invokevirtual 288, 3) := by decide +kernel
theorem d_Mo_fits_99 : decode m_Mo_fits.2.1 99 = .ok (.ifCond .eq 15, 3) := by decide +kernel
theorem d_Mo_fits_102 : decode m_Mo_fits.2.1 102 = .ok (.iload_n 1, 1) := by decide +kernel
theorem d_Mo_fits_103 : decode m_Mo_fits.2.1 103 = .ok (.ifCond .eq 7, 3) := by decide +kernel
theorem d_Mo_fits_106 : decode m_Mo_fits.2.1 106 = .ok (.iconst 0, 1) := by decide +kernel
theorem d_Mo_fits_107 : decode m_Mo_fits.2.1 107 = .ok (.goto 16, 3) := by decide +kernel
theorem d_Mo_fits_110 : decode m_Mo_fits.2.1 110 = .ok (.iconst 1, 1) := by decide +kernel
theorem d_Mo_fits_111 : decode m_Mo_fits.2.1 111 = .ok (.goto 12, 3) := by decide +kernel
theorem d_Mo_fits_114 : decode m_Mo_fits.2.1 114 = .ok (.iload_n 1, 1) := by decide +kernel
theorem d_Mo_fits_115 : decode m_Mo_fits.2.1 115 = .ok (.ifCond .eq 7, 3) := by decide +kernel
theorem d_Mo_fits_118 : decode m_Mo_fits.2.1 118 = .ok (.iconst 2, 1) := by decide +kernel
theorem d_Mo_fits_119 : decode m_Mo_fits.2.1 119 = .ok (.goto 4, 3) := by decide +kernel
theorem d_Mo_fits_122 : decode m_Mo_fits.2.1 122 = .ok (.iconst 3, 1) := by decide +kernel
theorem d_Mo_fits_123 : decode m_Mo_fits.2.1 123 = .ok (.ireturn, 1) := by decide +kernel
theorem d_Mo_timesIn_0 : decode m_Mo_timesIn.2.1 0 = .ok (.iconst 0, 1) := by decide +kernel
theorem d_Mo_timesIn_1 : decode m_Mo_timesIn.2.1 1 = .ok (.istore_n 3, 1) := by decide +kernel
theorem d_Mo_timesIn_2 : decode m_Mo_timesIn.2.1 2 = .ok (.iconst 0, 1) := by decide +kernel
theorem d_Mo_timesIn_3 : decode m_Mo_timesIn.2.1 3 = .ok (.istore 4, 2) := by decide +kernel
theorem d_Mo_timesIn_5 : decode m_Mo_timesIn.2.1 5 = .ok (.iload 4, 2) := by decide +kernel
theorem d_Mo_timesIn_7 : decode m_Mo_timesIn.2.1 7 = .ok (.aload_n 0, 1) := by decide +kernel
theorem d_Mo_timesIn_8 : decode m_Mo_timesIn.2.1 8 = .ok (.getfield 13, 3) := by decide +kernel
theorem d_Mo_timesIn_11 : decode m_Mo_timesIn.2.1 11 = .ok (.iload_n 1, 1) := by decide +kernel
theorem d_Mo_timesIn_12 : decode m_Mo_timesIn.2.1 12 = .ok (.iaload, 1) := by decide +kernel
theorem d_Mo_timesIn_13 : decode m_Mo_timesIn.2.1 13 = .ok (.if_icmp .ge 33, 3) := by decide +kernel
theorem d_Mo_timesIn_16 : decode m_Mo_timesIn.2.1 16 = .ok (.iload_n 3, 1) := by decide +kernel
theorem d_Mo_timesIn_17 : decode m_Mo_timesIn.2.1 17 = .ok (.aload_n 0, 1) := by decide +kernel
theorem d_Mo_timesIn_18 : decode m_Mo_timesIn.2.1 18 = .ok (.getfield 7, 3) := by decide +kernel
theorem d_Mo_timesIn_21 : decode m_Mo_timesIn.2.1 21 = .ok (.bipush 12, 2) := by decide +kernel
theorem d_Mo_timesIn_23 : decode m_Mo_timesIn.2.1 23 = .ok (.iload_n 1, 1) := by decide +kernel
theorem d_Mo_timesIn_24 : decode m_Mo_timesIn.2.1 24 = .ok (.imul, 1) := by decide +kernel
theorem d_Mo_timesIn_25 : decode m_Mo_timesIn.2.1 25 = .ok (.iload 4, 2) := by decide +kernel
theorem d_Mo_timesIn_27 : decode m_Mo_timesIn.2.1 27 = .ok (.iadd, 1) := by decide +kernel
theorem d_Mo_timesIn_28 : decode m_Mo_timesIn.2.1 28 = .ok (.iaload, 1) := by decide +kernel
theorem d_Mo_timesIn_29 : decode m_Mo_timesIn.2.1 29 = .ok (.iload_n 2, 1) := by decide +kernel
theorem d_Mo_timesIn_30 : decode m_Mo_timesIn.2.1 30 = .ok (.if_icmp .ne 7, 3) := by decide +kernel
theorem d_Mo_timesIn_33 : decode m_Mo_timesIn.2.1 33 = .ok (.iconst 1, 1) := by decide +kernel
theorem d_Mo_timesIn_34 : decode m_Mo_timesIn.2.1 34 = .ok (.goto 4, 3) := by decide +kernel
theorem d_Mo_timesIn_37 : decode m_Mo_timesIn.2.1 37 = .ok (.iconst 0, 1) := by decide +kernel
theorem d_Mo_timesIn_38 : decode m_Mo_timesIn.2.1 38 = .ok (.iadd, 1) := by decide +kernel
theorem d_Mo_timesIn_39 : decode m_Mo_timesIn.2.1 39 = .ok (.istore_n 3, 1) := by decide +kernel
theorem d_Mo_timesIn_40 : decode m_Mo_timesIn.2.1 40 = .ok (.iinc 4 1, 3) := by decide +kernel
theorem d_Mo_timesIn_43 : decode m_Mo_timesIn.2.1 43 = .ok (.goto (-38), 3) := by decide +kernel
theorem d_Mo_timesIn_46 : decode m_Mo_timesIn.2.1 46 = .ok (.iload_n 3, 1) := by decide +kernel
theorem d_Mo_timesIn_47 : decode m_Mo_timesIn.2.1 47 = .ok (.ireturn, 1) := by decide +kernel
theorem d_Mo_isLengths_0 : decode m_Mo_isLengths.2.1 0 = .ok (.iconst 0, 1) := by decide +kernel
theorem d_Mo_isLengths_1 : decode m_Mo_isLengths.2.1 1 = .ok (.istore_n 3, 1) := by decide +kernel
theorem d_Mo_isLengths_2 : decode m_Mo_isLengths.2.1 2 = .ok (.iconst 0, 1) := by decide +kernel
theorem d_Mo_isLengths_3 : decode m_Mo_isLengths.2.1 3 = .ok (.istore 4, 2) := by decide +kernel
theorem d_Mo_isLengths_5 : decode m_Mo_isLengths.2.1 5 = .ok (.iload 4, 2) := by decide +kernel
theorem d_Mo_isLengths_7 : decode m_Mo_isLengths.2.1 7 = .ok (.iconst 3, 1) := by decide +kernel
theorem d_Mo_isLengths_8 : decode m_Mo_isLengths.2.1 8 = .ok (.if_icmp .ge 68, 3) := by decide +kernel
theorem d_Mo_isLengths_11 : decode m_Mo_isLengths.2.1 11 = .ok (.iload 4, 2) := by decide +kernel
theorem d_Mo_isLengths_13 : decode m_Mo_isLengths.2.1 13 = .ok (.ifCond .ne 10, 3) := by decide +kernel
theorem d_Mo_isLengths_16 : decode m_Mo_isLengths.2.1 16 = .ok (.iload_n 2, 1) := by decide +kernel
theorem d_Mo_isLengths_17 : decode m_Mo_isLengths.2.1 17 = .ok (.bipush 100, 2) := by decide +kernel
theorem d_Mo_isLengths_19 : decode m_Mo_isLengths.2.1 19 = .ok (.idiv, 1) := by decide +kernel
theorem d_Mo_isLengths_20 : decode m_Mo_isLengths.2.1 20 = .ok (.goto 23, 3) := by decide +kernel
theorem d_Mo_isLengths_23 : decode m_Mo_isLengths.2.1 23 = .ok (.iload 4, 2) := by decide +kernel
theorem d_Mo_isLengths_25 : decode m_Mo_isLengths.2.1 25 = .ok (.iconst 1, 1) := by decide +kernel
theorem d_Mo_isLengths_26 : decode m_Mo_isLengths.2.1 26 = .ok (.if_icmp .ne 13, 3) := by decide +kernel
theorem d_Mo_isLengths_29 : decode m_Mo_isLengths.2.1 29 = .ok (.iload_n 2, 1) := by decide +kernel
theorem d_Mo_isLengths_30 : decode m_Mo_isLengths.2.1 30 = .ok (.bipush 10, 2) := by decide +kernel
theorem d_Mo_isLengths_32 : decode m_Mo_isLengths.2.1 32 = .ok (.idiv, 1) := by decide +kernel
theorem d_Mo_isLengths_33 : decode m_Mo_isLengths.2.1 33 = .ok (.bipush 10, 2) := by decide +kernel
theorem d_Mo_isLengths_35 : decode m_Mo_isLengths.2.1 35 = .ok (.irem, 1) := by decide +kernel
theorem d_Mo_isLengths_36 : decode m_Mo_isLengths.2.1 36 = .ok (.goto 7, 3) := by decide +kernel
theorem d_Mo_isLengths_39 : decode m_Mo_isLengths.2.1 39 = .ok (.iload_n 2, 1) := by decide +kernel
theorem d_Mo_isLengths_40 : decode m_Mo_isLengths.2.1 40 = .ok (.bipush 10, 2) := by decide +kernel
theorem d_Mo_isLengths_42 : decode m_Mo_isLengths.2.1 42 = .ok (.irem, 1) := by decide +kernel
theorem d_Mo_isLengths_43 : decode m_Mo_isLengths.2.1 43 = .ok (.istore 5, 2) := by decide +kernel
theorem d_Mo_isLengths_45 : decode m_Mo_isLengths.2.1 45 = .ok (.iload_n 3, 1) := by decide +kernel
theorem d_Mo_isLengths_46 : decode m_Mo_isLengths.2.1 46 = .ok (.iload 5, 2) := by decide +kernel
theorem d_Mo_isLengths_48 : decode m_Mo_isLengths.2.1 48 = .ok (.aload_n 0, 1) := by decide +kernel
theorem d_Mo_isLengths_49 : decode m_Mo_isLengths.2.1 49 = .ok (.iconst 0, 1) := by decide +kernel
theorem d_Mo_isLengths_50 : decode m_Mo_isLengths.2.1 50 = .ok (.iload 4, 2) := by decide +kernel
theorem d_Mo_isLengths_52 : decode m_Mo_isLengths.2.1 52 = .ok (.iconst 2, 1) := by decide +kernel
theorem d_Mo_isLengths_53 : decode m_Mo_isLengths.2.1 53 = .ok (.iadd, 1) := by decide +kernel
theorem d_Mo_isLengths_54 : decode m_Mo_isLengths.2.1 54 = .ok (.invokevirtual 291, 3) := by decide +kernel
theorem d_Mo_isLengths_57 : decode m_Mo_isLengths.2.1 57 = .ok (.aload_n 0, 1) := by decide +kernel
theorem d_Mo_isLengths_58 : decode m_Mo_isLengths.2.1 58 = .ok (.iconst 1, 1) := by decide +kernel
theorem d_Mo_isLengths_59 : decode m_Mo_isLengths.2.1 59 = .ok (.iload 4, 2) := by decide +kernel
theorem d_Mo_isLengths_61 : decode m_Mo_isLengths.2.1 61 = .ok (.iconst 2, 1) := by decide +kernel
theorem d_Mo_isLengths_62 : decode m_Mo_isLengths.2.1 62 = .ok (.iadd, 1) := by decide +kernel
theorem d_Mo_isLengths_63 : decode m_Mo_isLengths.2.1 63 = .ok (.invokevirtual 291, 3) := by decide +kernel
theorem d_Mo_isLengths_66 : decode m_Mo_isLengths.2.1 66 = .ok (.isub, 1) := by decide +kernel
theorem d_Mo_isLengths_67 : decode m_Mo_isLengths.2.1 67 = .ok (.imul, 1) := by decide +kernel
theorem d_Mo_isLengths_68 : decode m_Mo_isLengths.2.1 68 = .ok (.iadd, 1) := by decide +kernel
theorem d_Mo_isLengths_69 : decode m_Mo_isLengths.2.1 69 = .ok (.istore_n 3, 1) := by decide +kernel
theorem d_Mo_isLengths_70 : decode m_Mo_isLengths.2.1 70 = .ok (.iinc 4 1, 3) := by decide +kernel
theorem d_Mo_isLengths_73 : decode m_Mo_isLengths.2.1 73 = .ok (.goto (-68), 3) := by decide +kernel
theorem d_Mo_isLengths_76 : decode m_Mo_isLengths.2.1 76 = .ok (.aload_n 0, 1) := by decide +kernel
theorem d_Mo_isLengths_77 : decode m_Mo_isLengths.2.1 77 = .ok (.iconst 0, 1) := by decide +kernel
theorem d_Mo_isLengths_78 : decode m_Mo_isLengths.2.1 78 = .ok (.iconst 0, 1) := by decide +kernel
theorem d_Mo_isLengths_79 : decode m_Mo_isLengths.2.1 79 = .ok (.invokevirtual 291, 3) := by decide +kernel
theorem d_Mo_isLengths_82 : decode m_Mo_isLengths.2.1 82 = .ok (.aload_n 0, 1) := by decide +kernel
theorem d_Mo_isLengths_83 : decode m_Mo_isLengths.2.1 83 = .ok (.iconst 1, 1) := by decide +kernel
theorem d_Mo_isLengths_84 : decode m_Mo_isLengths.2.1 84 = .ok (.iconst 0, 1) := by decide +kernel
theorem d_Mo_isLengths_85 : decode m_Mo_isLengths.2.1 85 = .ok (.invokevirtual 291, 3) := by decide +kernel
theorem d_Mo_isLengths_88 : decode m_Mo_isLengths.2.1 88 = .ok (.isub, 1) := by decide +kernel
theorem d_Mo_isLengths_89 : decode m_Mo_isLengths.2.1 89 = .ok (.istore 4, 2) := by decide +kernel
theorem d_Mo_isLengths_91 : decode m_Mo_isLengths.2.1 91 = .ok (.aload_n 0, 1) := by decide +kernel
theorem d_Mo_isLengths_92 : decode m_Mo_isLengths.2.1 92 = .ok (.iconst 0, 1) := by decide +kernel
theorem d_Mo_isLengths_93 : decode m_Mo_isLengths.2.1 93 = .ok (.iconst 1, 1) := by decide +kernel
theorem d_Mo_isLengths_94 : decode m_Mo_isLengths.2.1 94 = .ok (.invokevirtual 291, 3) := by decide +kernel
theorem d_Mo_isLengths_97 : decode m_Mo_isLengths.2.1 97 = .ok (.aload_n 0, 1) := by decide +kernel
theorem d_Mo_isLengths_98 : decode m_Mo_isLengths.2.1 98 = .ok (.iconst 1, 1) := by decide +kernel
theorem d_Mo_isLengths_99 : decode m_Mo_isLengths.2.1 99 = .ok (.iconst 1, 1) := by decide +kernel
theorem d_Mo_isLengths_100 : decode m_Mo_isLengths.2.1 100 = .ok (.invokevirtual 291, 3) := by decide +kernel
theorem d_Mo_isLengths_103 : decode m_Mo_isLengths.2.1 103 = .ok (.isub, 1) := by decide +kernel
theorem d_Mo_isLengths_104 : decode m_Mo_isLengths.2.1 104 = .ok (.istore 5, 2) := by decide +kernel
theorem d_Mo_isLengths_106 : decode m_Mo_isLengths.2.1 106 = .ok (.iload_n 1, 1) := by decide +kernel
theorem d_Mo_isLengths_107 : decode m_Mo_isLengths.2.1 107 = .ok (.ifCond .ne 21, 3) := by decide +kernel
theorem d_Mo_isLengths_110 : decode m_Mo_isLengths.2.1 110 = .ok (.iload 4, 2) := by decide +kernel
theorem d_Mo_isLengths_112 : decode m_Mo_isLengths.2.1 112 = .ok (.iload 5, 2) := by decide +kernel
theorem d_Mo_isLengths_114 : decode m_Mo_isLengths.2.1 114 = .ok (.iadd, 1) := by decide +kernel
theorem d_Mo_isLengths_115 : decode m_Mo_isLengths.2.1 115 = .ok (.iload_n 3, 1) := by decide +kernel
theorem d_Mo_isLengths_116 : decode m_Mo_isLengths.2.1 116 = .ok (.iadd, 1) := by decide +kernel
theorem d_Mo_isLengths_117 : decode m_Mo_isLengths.2.1 117 = .ok (.ifCond .ne 7, 3) := by decide +kernel
theorem d_Mo_isLengths_120 : decode m_Mo_isLengths.2.1 120 = .ok (.iconst 1, 1) := by decide +kernel
theorem d_Mo_isLengths_121 : decode m_Mo_isLengths.2.1 121 = .ok (.goto 49, 3) := by decide +kernel
theorem d_Mo_isLengths_124 : decode m_Mo_isLengths.2.1 124 = .ok (.iconst 0, 1) := by decide +kernel
theorem d_Mo_isLengths_125 : decode m_Mo_isLengths.2.1 125 = .ok (.goto 45, 3) := by decide +kernel
theorem d_Mo_isLengths_128 : decode m_Mo_isLengths.2.1 128 = .ok (.iload_n 1, 1) := by decide +kernel
theorem d_Mo_isLengths_129 : decode m_Mo_isLengths.2.1 129 = .ok (.iconst 1, 1) := by decide +kernel
theorem d_Mo_isLengths_130 : decode m_Mo_isLengths.2.1 130 = .ok (.if_icmp .ne 23, 3) := by decide +kernel
theorem d_Mo_isLengths_133 : decode m_Mo_isLengths.2.1 133 = .ok (.iload 4, 2) := by decide +kernel
theorem d_Mo_isLengths_135 : decode m_Mo_isLengths.2.1 135 = .ok (.iload_n 3, 1) := by decide +kernel
theorem d_Mo_isLengths_136 : decode m_Mo_isLengths.2.1 136 = .ok (.iadd, 1) := by decide +kernel
theorem d_Mo_isLengths_137 : decode m_Mo_isLengths.2.1 137 = .ok (.ifCond .ne 12, 3) := by decide +kernel
theorem d_Mo_isLengths_140 : decode m_Mo_isLengths.2.1 140 = .ok (.iload 5, 2) := by decide +kernel
theorem d_Mo_isLengths_142 : decode m_Mo_isLengths.2.1 142 = .ok (.ifCond .ne 7, 3) := by decide +kernel
theorem d_Mo_isLengths_145 : decode m_Mo_isLengths.2.1 145 = .ok (.iconst 1, 1) := by decide +kernel
theorem d_Mo_isLengths_146 : decode m_Mo_isLengths.2.1 146 = .ok (.goto 24, 3) := by decide +kernel
theorem d_Mo_isLengths_149 : decode m_Mo_isLengths.2.1 149 = .ok (.iconst 0, 1) := by decide +kernel
theorem d_Mo_isLengths_150 : decode m_Mo_isLengths.2.1 150 = .ok (.goto 20, 3) := by decide +kernel
theorem d_Mo_isLengths_153 : decode m_Mo_isLengths.2.1 153 = .ok (.iload 4, 2) := by decide +kernel
theorem d_Mo_isLengths_155 : decode m_Mo_isLengths.2.1 155 = .ok (.ifCond .ne 14, 3) := by decide +kernel
theorem d_Mo_isLengths_158 : decode m_Mo_isLengths.2.1 158 = .ok (.iload 5, 2) := by decide +kernel
theorem d_Mo_isLengths_160 : decode m_Mo_isLengths.2.1 160 = .ok (.iload_n 3, 1) := by decide +kernel
theorem d_Mo_isLengths_161 : decode m_Mo_isLengths.2.1 161 = .ok (.iadd, 1) := by decide +kernel
theorem d_Mo_isLengths_162 : decode m_Mo_isLengths.2.1 162 = .ok (.ifCond .ne 7, 3) := by decide +kernel
theorem d_Mo_isLengths_165 : decode m_Mo_isLengths.2.1 165 = .ok (.iconst 1, 1) := by decide +kernel
theorem d_Mo_isLengths_166 : decode m_Mo_isLengths.2.1 166 = .ok (.goto 4, 3) := by decide +kernel
theorem d_Mo_isLengths_169 : decode m_Mo_isLengths.2.1 169 = .ok (.iconst 0, 1) := by decide +kernel
theorem d_Mo_isLengths_170 : decode m_Mo_isLengths.2.1 170 = .ok (.ireturn, 1) := by decide +kernel
theorem d_Mo_lengths_0 : decode m_Mo_lengths.2.1 0 = .ok (.iload_n 1, 1) := by decide +kernel
theorem d_Mo_lengths_1 : decode m_Mo_lengths.2.1 1 = .ok (.i2l, 1) := by decide +kernel
theorem d_Mo_lengths_2 : decode m_Mo_lengths.2.1 2 = .ok (.lconst 0, 1) := by decide +kernel
theorem d_Mo_lengths_3 : decode m_Mo_lengths.2.1 3 = .ok (.ldc2_w 107, 3) := by decide +kernel
theorem d_Mo_lengths_6 : decode m_Mo_lengths.2.1 6 = .ok (.invokestatic 109, 3) := by decide +kernel
theorem d_Mo_lengths_9 : decode m_Mo_lengths.2.1 9 = .ok (.ifCond .ne 6, 3) := by decide +kernel
theorem d_Mo_lengths_12 : decode m_Mo_lengths.2.1 12 = .ok (.bipush (-2), 2) := by decide +kernel
theorem d_Mo_lengths_14 : decode m_Mo_lengths.2.1 14 = .ok (.ireturn, 1) := by decide +kernel
theorem d_Mo_lengths_15 : decode m_Mo_lengths.2.1 15 = .ok (.iconst 0, 1) := by decide +kernel
theorem d_Mo_lengths_16 : decode m_Mo_lengths.2.1 16 = .ok (.istore_n 3, 1) := by decide +kernel
theorem d_Mo_lengths_17 : decode m_Mo_lengths.2.1 17 = .ok (.iconst 0, 1) := by decide +kernel
theorem d_Mo_lengths_18 : decode m_Mo_lengths.2.1 18 = .ok (.istore 4, 2) := by decide +kernel
theorem d_Mo_lengths_20 : decode m_Mo_lengths.2.1 20 = .ok (.iload 4, 2) := by decide +kernel
theorem d_Mo_lengths_22 : decode m_Mo_lengths.2.1 22 = .ok (.sipush 1000, 3) := by decide +kernel
theorem d_Mo_lengths_25 : decode m_Mo_lengths.2.1 25 = .ok (.if_icmp .ge 30, 3) := by decide +kernel
theorem d_Mo_lengths_28 : decode m_Mo_lengths.2.1 28 = .ok (.aload_n 0, 1) := by decide +kernel
theorem d_Mo_lengths_29 : decode m_Mo_lengths.2.1 29 = .ok (.iload_n 1, 1) := by decide +kernel
theorem d_Mo_lengths_30 : decode m_Mo_lengths.2.1 30 = .ok (.iload 4, 2) := by decide +kernel
theorem d_Mo_lengths_32 : decode m_Mo_lengths.2.1 32 = .ok (.invokevirtual 294, 3) := by decide +kernel
theorem d_Mo_lengths_35 : decode m_Mo_lengths.2.1 35 = .ok (.ifCond .eq 14, 3) := by decide +kernel
theorem d_Mo_lengths_38 : decode m_Mo_lengths.2.1 38 = .ok (.iload_n 3, 1) := by decide +kernel
theorem d_Mo_lengths_39 : decode m_Mo_lengths.2.1 39 = .ok (.iload_n 2, 1) := by decide +kernel
theorem d_Mo_lengths_40 : decode m_Mo_lengths.2.1 40 = .ok (.if_icmp .ne 6, 3) := by decide +kernel
theorem d_Mo_lengths_43 : decode m_Mo_lengths.2.1 43 = .ok (.iload 4, 2) := by decide +kernel
theorem d_Mo_lengths_45 : decode m_Mo_lengths.2.1 45 = .ok (.ireturn, 1) := by decide +kernel
theorem d_Mo_lengths_46 : decode m_Mo_lengths.2.1 46 = .ok (.iinc 3 1, 3) := by decide +kernel
theorem d_Mo_lengths_49 : decode m_Mo_lengths.2.1 49 = .ok (.iinc 4 1, 3) := by decide +kernel
theorem d_Mo_lengths_52 : decode m_Mo_lengths.2.1 52 = .ok (.goto (-32), 3) := by decide +kernel
theorem d_Mo_lengths_55 : decode m_Mo_lengths.2.1 55 = .ok (.iload_n 2, 1) := by decide +kernel
theorem d_Mo_lengths_56 : decode m_Mo_lengths.2.1 56 = .ok (.iconst (-1), 1) := by decide +kernel
theorem d_Mo_lengths_57 : decode m_Mo_lengths.2.1 57 = .ok (.if_icmp .ne 7, 3) := by decide +kernel
theorem d_Mo_lengths_60 : decode m_Mo_lengths.2.1 60 = .ok (.iload_n 3, 1) := by decide +kernel
theorem d_Mo_lengths_61 : decode m_Mo_lengths.2.1 61 = .ok (.goto 5, 3) := by decide +kernel
theorem d_Mo_lengths_64 : decode m_Mo_lengths.2.1 64 = .ok (.bipush (-6), 2) := by decide +kernel
theorem d_Mo_lengths_66 : decode m_Mo_lengths.2.1 66 = .ok (.ireturn, 1) := by decide +kernel
theorem d_Mo_tryWord_0 : decode m_Mo_tryWord.2.1 0 = .ok (.iload_n 2, 1) := by decide +kernel
theorem d_Mo_tryWord_1 : decode m_Mo_tryWord.2.1 1 = .ok (.ifCond .ne 7, 3) := by decide +kernel
theorem d_Mo_tryWord_4 : decode m_Mo_tryWord.2.1 4 = .ok (.iconst 0, 1) := by decide +kernel
theorem d_Mo_tryWord_5 : decode m_Mo_tryWord.2.1 5 = .ok (.goto 23, 3) := by decide +kernel
theorem d_Mo_tryWord_8 : decode m_Mo_tryWord.2.1 8 = .ok (.iload_n 2, 1) := by decide +kernel
theorem d_Mo_tryWord_9 : decode m_Mo_tryWord.2.1 9 = .ok (.iconst 3, 1) := by decide +kernel
theorem d_Mo_tryWord_10 : decode m_Mo_tryWord.2.1 10 = .ok (.if_icmp .ge 7, 3) := by decide +kernel
theorem d_Mo_tryWord_13 : decode m_Mo_tryWord.2.1 13 = .ok (.iconst 1, 1) := by decide +kernel
theorem d_Mo_tryWord_14 : decode m_Mo_tryWord.2.1 14 = .ok (.goto 14, 3) := by decide +kernel
theorem d_Mo_tryWord_17 : decode m_Mo_tryWord.2.1 17 = .ok (.iload_n 2, 1) := by decide +kernel
theorem d_Mo_tryWord_18 : decode m_Mo_tryWord.2.1 18 = .ok (.bipush 7, 2) := by decide +kernel
theorem d_Mo_tryWord_20 : decode m_Mo_tryWord.2.1 20 = .ok (.if_icmp .ge 7, 3) := by decide +kernel
theorem d_Mo_tryWord_23 : decode m_Mo_tryWord.2.1 23 = .ok (.iconst 2, 1) := by decide +kernel
theorem d_Mo_tryWord_24 : decode m_Mo_tryWord.2.1 24 = .ok (.goto 4, 3) := by decide +kernel
theorem d_Mo_tryWord_27 : decode m_Mo_tryWord.2.1 27 = .ok (.iconst 3, 1) := by decide +kernel
theorem d_Mo_tryWord_28 : decode m_Mo_tryWord.2.1 28 = .ok (.istore_n 3, 1) := by decide +kernel
theorem d_Mo_tryWord_29 : decode m_Mo_tryWord.2.1 29 = .ok (.iload_n 2, 1) := by decide +kernel
theorem d_Mo_tryWord_30 : decode m_Mo_tryWord.2.1 30 = .ok (.iconst 1, 1) := by decide +kernel
theorem d_Mo_tryWord_31 : decode m_Mo_tryWord.2.1 31 = .ok (.iload_n 3, 1) := by decide +kernel
theorem d_Mo_tryWord_32 : decode m_Mo_tryWord.2.1 32 = .ok (.ishl, 1) := by decide +kernel
theorem d_Mo_tryWord_33 : decode m_Mo_tryWord.2.1 33 = .ok (.isub, 1) := by decide +kernel
theorem d_Mo_tryWord_34 : decode m_Mo_tryWord.2.1 34 = .ok (.iconst 1, 1) := by decide +kernel
theorem d_Mo_tryWord_35 : decode m_Mo_tryWord.2.1 35 = .ok (.iadd, 1) := by decide +kernel
theorem d_Mo_tryWord_36 : decode m_Mo_tryWord.2.1 36 = .ok (.istore 4, 2) := by decide +kernel
theorem d_Mo_tryWord_38 : decode m_Mo_tryWord.2.1 38 = .ok (.aload_n 0, 1) := by decide +kernel
theorem d_Mo_tryWord_39 : decode m_Mo_tryWord.2.1 39 = .ok (.getfield 89, 3) := by decide +kernel
theorem d_Mo_tryWord_42 : decode m_Mo_tryWord.2.1 42 = .ok (.iload_n 1, 1) := by decide +kernel
theorem d_Mo_tryWord_43 : decode m_Mo_tryWord.2.1 43 = .ok (.iload_n 3, 1) := by decide +kernel
theorem d_Mo_tryWord_44 : decode m_Mo_tryWord.2.1 44 = .ok (.iastore, 1) := by decide +kernel
theorem d_Mo_tryWord_45 : decode m_Mo_tryWord.2.1 45 = .ok (.iconst 0, 1) := by decide +kernel
theorem d_Mo_tryWord_46 : decode m_Mo_tryWord.2.1 46 = .ok (.istore 5, 2) := by decide +kernel
theorem d_Mo_tryWord_48 : decode m_Mo_tryWord.2.1 48 = .ok (.iload 5, 2) := by decide +kernel
theorem d_Mo_tryWord_50 : decode m_Mo_tryWord.2.1 50 = .ok (.iload_n 3, 1) := by decide +kernel
theorem d_Mo_tryWord_51 : decode m_Mo_tryWord.2.1 51 = .ok (.if_icmp .ge 32, 3) := by decide +kernel
theorem d_Mo_tryWord_54 : decode m_Mo_tryWord.2.1 54 = .ok (.aload_n 0, 1) := by decide +kernel
theorem d_Mo_tryWord_55 : decode m_Mo_tryWord.2.1 55 = .ok (.getfield 86, 3) := by decide +kernel
theorem d_Mo_tryWord_58 : decode m_Mo_tryWord.2.1 58 = .ok (.bipush 12, 2) := by decide +kernel
theorem d_Mo_tryWord_60 : decode m_Mo_tryWord.2.1 60 = .ok (.iload_n 1, 1) := by decide +kernel
theorem d_Mo_tryWord_61 : decode m_Mo_tryWord.2.1 61 = .ok (.imul, 1) := by decide +kernel
theorem d_Mo_tryWord_62 : decode m_Mo_tryWord.2.1 62 = .ok (.iload 5, 2) := by decide +kernel
theorem d_Mo_tryWord_64 : decode m_Mo_tryWord.2.1 64 = .ok (.iadd, 1) := by decide +kernel
theorem d_Mo_tryWord_65 : decode m_Mo_tryWord.2.1 65 = .ok (.iload 4, 2) := by decide +kernel
theorem d_Mo_tryWord_67 : decode m_Mo_tryWord.2.1 67 = .ok (.iload_n 3, 1) := by decide +kernel
theorem d_Mo_tryWord_68 : decode m_Mo_tryWord.2.1 68 = .ok (.iconst 1, 1) := by decide +kernel
theorem d_Mo_tryWord_69 : decode m_Mo_tryWord.2.1 69 = .ok (.isub, 1) := by decide +kernel
theorem d_Mo_tryWord_70 : decode m_Mo_tryWord.2.1 70 = .ok (.iload 5, 2) := by decide +kernel
theorem d_Mo_tryWord_72 : decode m_Mo_tryWord.2.1 72 = .ok (.isub, 1) := by decide +kernel
theorem d_Mo_tryWord_73 : decode m_Mo_tryWord.2.1 73 = .ok (.ishr, 1) := by decide +kernel
theorem d_Mo_tryWord_74 : decode m_Mo_tryWord.2.1 74 = .ok (.iconst 1, 1) := by decide +kernel
theorem d_Mo_tryWord_75 : decode m_Mo_tryWord.2.1 75 = .ok (.iand, 1) := by decide +kernel
theorem d_Mo_tryWord_76 : decode m_Mo_tryWord.2.1 76 = .ok (.iastore, 1) := by decide +kernel
theorem d_Mo_tryWord_77 : decode m_Mo_tryWord.2.1 77 = .ok (.iinc 5 1, 3) := by decide +kernel
theorem d_Mo_tryWord_80 : decode m_Mo_tryWord.2.1 80 = .ok (.goto (-32), 3) := by decide +kernel
theorem d_Mo_tryWord_83 : decode m_Mo_tryWord.2.1 83 = .ok (.return_, 1) := by decide +kernel
theorem d_Mo_findShortest_0 : decode m_Mo_findShortest.2.1 0 = .ok (.bipush (-6), 2) := by decide +kernel
theorem d_Mo_findShortest_2 : decode m_Mo_findShortest.2.1 2 = .ok (.istore_n 1, 1) := by decide +kernel
theorem d_Mo_findShortest_3 : decode m_Mo_findShortest.2.1 3 = .ok (.iconst 0, 1) := by decide +kernel
theorem d_Mo_findShortest_4 : decode m_Mo_findShortest.2.1 4 = .ok (.istore_n 2, 1) := by decide +kernel
theorem d_Mo_findShortest_5 : decode m_Mo_findShortest.2.1 5 = .ok (.iload_n 2, 1) := by decide +kernel
theorem d_Mo_findShortest_6 : decode m_Mo_findShortest.2.1 6 = .ok (.sipush 3375, 3) := by decide +kernel
theorem d_Mo_findShortest_9 : decode m_Mo_findShortest.2.1 9 = .ok (.if_icmp .ge 137, 3) := by decide +kernel
theorem d_Mo_findShortest_12 : decode m_Mo_findShortest.2.1 12 = .ok (.aload_n 0, 1) := by decide +kernel
theorem d_Mo_findShortest_13 : decode m_Mo_findShortest.2.1 13 = .ok (.iconst 0, 1) := by decide +kernel
theorem d_Mo_findShortest_14 : decode m_Mo_findShortest.2.1 14 = .ok (.iload_n 2, 1) := by decide +kernel
theorem d_Mo_findShortest_15 : decode m_Mo_findShortest.2.1 15 = .ok (.sipush 225, 3) := by decide +kernel
theorem d_Mo_findShortest_18 : decode m_Mo_findShortest.2.1 18 = .ok (.idiv, 1) := by decide +kernel
theorem d_Mo_findShortest_19 : decode m_Mo_findShortest.2.1 19 = .ok (.invokevirtual 297, 3) := by decide +kernel
theorem d_Mo_findShortest_22 : decode m_Mo_findShortest.2.1 22 = .ok (.aload_n 0, 1) := by decide +kernel
theorem d_Mo_findShortest_23 : decode m_Mo_findShortest.2.1 23 = .ok (.iconst 1, 1) := by decide +kernel
theorem d_Mo_findShortest_24 : decode m_Mo_findShortest.2.1 24 = .ok (.iload_n 2, 1) := by decide +kernel
theorem d_Mo_findShortest_25 : decode m_Mo_findShortest.2.1 25 = .ok (.bipush 15, 2) := by decide +kernel
theorem d_Mo_findShortest_27 : decode m_Mo_findShortest.2.1 27 = .ok (.idiv, 1) := by decide +kernel
theorem d_Mo_findShortest_28 : decode m_Mo_findShortest.2.1 28 = .ok (.bipush 15, 2) := by decide +kernel
theorem d_Mo_findShortest_30 : decode m_Mo_findShortest.2.1 30 = .ok (.irem, 1) := by decide +kernel
theorem d_Mo_findShortest_31 : decode m_Mo_findShortest.2.1 31 = .ok (.invokevirtual 297, 3) := by decide +kernel
theorem d_Mo_findShortest_34 : decode m_Mo_findShortest.2.1 34 = .ok (.aload_n 0, 1) := by decide +kernel
theorem d_Mo_findShortest_35 : decode m_Mo_findShortest.2.1 35 = .ok (.iconst 2, 1) := by decide +kernel
theorem d_Mo_findShortest_36 : decode m_Mo_findShortest.2.1 36 = .ok (.iload_n 2, 1) := by decide +kernel
theorem d_Mo_findShortest_37 : decode m_Mo_findShortest.2.1 37 = .ok (.bipush 15, 2) := by decide +kernel
theorem d_Mo_findShortest_39 : decode m_Mo_findShortest.2.1 39 = .ok (.irem, 1) := by decide +kernel
theorem d_Mo_findShortest_40 : decode m_Mo_findShortest.2.1 40 = .ok (.invokevirtual 297, 3) := by decide +kernel
theorem d_Mo_findShortest_43 : decode m_Mo_findShortest.2.1 43 = .ok (.aload_n 0, 1) := by decide +kernel
theorem d_Mo_findShortest_44 : decode m_Mo_findShortest.2.1 44 = .ok (.getfield 89, 3) := by decide +kernel
theorem d_Mo_findShortest_47 : decode m_Mo_findShortest.2.1 47 = .ok (.iconst 0, 1) := by decide +kernel
theorem d_Mo_findShortest_48 : decode m_Mo_findShortest.2.1 48 = .ok (.iaload, 1) := by decide +kernel
theorem d_Mo_findShortest_49 : decode m_Mo_findShortest.2.1 49 = .ok (.aload_n 0, 1) := by decide +kernel
theorem d_Mo_findShortest_50 : decode m_Mo_findShortest.2.1 50 = .ok (.getfield 89, 3) := by decide +kernel
theorem d_Mo_findShortest_53 : decode m_Mo_findShortest.2.1 53 = .ok (.iconst 1, 1) := by decide +kernel
theorem d_Mo_findShortest_54 : decode m_Mo_findShortest.2.1 54 = .ok (.iaload, 1) := by decide +kernel
theorem d_Mo_findShortest_55 : decode m_Mo_findShortest.2.1 55 = .ok (.iadd, 1) := by decide +kernel
theorem d_Mo_findShortest_56 : decode m_Mo_findShortest.2.1 56 = .ok (.aload_n 0, 1) := by decide +kernel
theorem d_Mo_findShortest_57 : decode m_Mo_findShortest.2.1 57 = .ok (.getfield 89, 3) := by decide +kernel
theorem d_Mo_findShortest_60 : decode m_Mo_findShortest.2.1 60 = .ok (.iconst 2, 1) := by decide +kernel
theorem d_Mo_findShortest_61 : decode m_Mo_findShortest.2.1 61 = .ok (.iaload, 1) := by decide +kernel
theorem d_Mo_findShortest_62 : decode m_Mo_findShortest.2.1 62 = .ok (.iadd, 1) := by decide +kernel
theorem d_Mo_findShortest_63 : decode m_Mo_findShortest.2.1 63 = .ok (.istore_n 3, 1) := by decide +kernel
theorem d_Mo_findShortest_64 : decode m_Mo_findShortest.2.1 64 = .ok (.iload_n 1, 1) := by decide +kernel
theorem d_Mo_findShortest_65 : decode m_Mo_findShortest.2.1 65 = .ok (.ifCond .lt 8, 3) := by decide +kernel
theorem d_Mo_findShortest_68 : decode m_Mo_findShortest.2.1 68 = .ok (.iload_n 3, 1) := by decide +kernel
theorem d_Mo_findShortest_69 : decode m_Mo_findShortest.2.1 69 = .ok (.iload_n 1, 1) := by decide +kernel
theorem d_Mo_findShortest_70 : decode m_Mo_findShortest.2.1 70 = .ok (.if_icmp .ge 70, 3) := by decide +kernel
theorem d_Mo_findShortest_73 : decode m_Mo_findShortest.2.1 73 = .ok (.aload_n 0, 1) := by decide +kernel
theorem d_Mo_findShortest_74 : decode m_Mo_findShortest.2.1 74 = .ok (.invokevirtual 288, 3) := by decide +kernel
theorem d_Mo_findShortest_77 : decode m_Mo_findShortest.2.1 77 = .ok (.ifCond .eq 63, 3) := by decide +kernel
theorem d_Mo_findShortest_80 : decode m_Mo_findShortest.2.1 80 = .ok (.aload_n 0, 1) := by decide +kernel
theorem d_Mo_findShortest_81 : decode m_Mo_findShortest.2.1 81 = .ok (.iconst 0, 1) := by decide +kernel
theorem d_Mo_findShortest_82 : decode m_Mo_findShortest.2.1 82 = .ok (.invokevirtual 285, 3) := by decide +kernel
theorem d_Mo_findShortest_85 : decode m_Mo_findShortest.2.1 85 = .ok (.ifCond .eq 55, 3) := by decide +kernel
theorem d_Mo_findShortest_88 : decode m_Mo_findShortest.2.1 88 = .ok (.aload_n 0, 1) := by decide +kernel
theorem d_Mo_findShortest_89 : decode m_Mo_findShortest.2.1 89 = .ok (.iconst 1, 1) := by decide +kernel
theorem d_Mo_findShortest_90 : decode m_Mo_findShortest.2.1 90 = .ok (.invokevirtual 285, 3) := by decide +kernel
theorem d_Mo_findShortest_93 : decode m_Mo_findShortest.2.1 93 = .ok (.ifCond .eq 47, 3) := by decide +kernel
theorem d_Mo_findShortest_96 : decode m_Mo_findShortest.2.1 96 = .ok (.aload_n 0, 1) := by decide +kernel
theorem d_Mo_findShortest_97 : decode m_Mo_findShortest.2.1 97 = .ok (.iconst 2, 1) := by decide +kernel
theorem d_Mo_findShortest_98 : decode m_Mo_findShortest.2.1 98 = .ok (.invokevirtual 285, 3) := by decide +kernel
theorem d_Mo_findShortest_101 : decode m_Mo_findShortest.2.1 101 = .ok (.ifCond .eq 39, 3) := by decide +kernel
theorem d_Mo_findShortest_104 : decode m_Mo_findShortest.2.1 104 = .ok (.iload_n 3, 1) := by decide +kernel
theorem d_Mo_findShortest_105 : decode m_Mo_findShortest.2.1 105 = .ok (.istore_n 1, 1) := by decide +kernel
theorem d_Mo_findShortest_106 : decode m_Mo_findShortest.2.1 106 = .ok (.aload_n 0, 1) := by decide +kernel
theorem d_Mo_findShortest_107 : decode m_Mo_findShortest.2.1 107 = .ok (.getfield 98, 3) := by decide +kernel
theorem d_Mo_findShortest_110 : decode m_Mo_findShortest.2.1 110 = .ok (.iconst 0, 1) := by decide +kernel
theorem d_Mo_findShortest_111 : decode m_Mo_findShortest.2.1 111 = .ok (.iload_n 2, 1) := by decide +kernel
theorem d_Mo_findShortest_112 : decode m_Mo_findShortest.2.1 112 = .ok (.sipush 225, 3) := by decide +kernel
theorem d_Mo_findShortest_115 : decode m_Mo_findShortest.2.1 115 = .ok (.idiv, 1) := by decide +kernel
theorem d_Mo_findShortest_116 : decode m_Mo_findShortest.2.1 116 = .ok (.iastore, 1) := by decide +kernel
theorem d_Mo_findShortest_117 : decode m_Mo_findShortest.2.1 117 = .ok (.aload_n 0, 1) := by decide +kernel
theorem d_Mo_findShortest_118 : decode m_Mo_findShortest.2.1 118 = .ok (.getfield 98, 3) := by decide +kernel
theorem d_Mo_findShortest_121 : decode m_Mo_findShortest.2.1 121 = .ok (.iconst 1, 1) := by decide +kernel
theorem d_Mo_findShortest_122 : decode m_Mo_findShortest.2.1 122 = .ok (.iload_n 2, 1) := by decide +kernel
theorem d_Mo_findShortest_123 : decode m_Mo_findShortest.2.1 123 = .ok (.bipush 15, 2) := by decide +kernel
theorem d_Mo_findShortest_125 : decode m_Mo_findShortest.2.1 125 = .ok (.idiv, 1) := by decide +kernel
theorem d_Mo_findShortest_126 : decode m_Mo_findShortest.2.1 126 = .ok (.bipush 15, 2) := by decide +kernel
theorem d_Mo_findShortest_128 : decode m_Mo_findShortest.2.1 128 = .ok (.irem, 1) := by decide +kernel
theorem d_Mo_findShortest_129 : decode m_Mo_findShortest.2.1 129 = .ok (.iastore, 1) := by decide +kernel
theorem d_Mo_findShortest_130 : decode m_Mo_findShortest.2.1 130 = .ok (.aload_n 0, 1) := by decide +kernel
theorem d_Mo_findShortest_131 : decode m_Mo_findShortest.2.1 131 = .ok (.getfield 98, 3) := by decide +kernel
theorem d_Mo_findShortest_134 : decode m_Mo_findShortest.2.1 134 = .ok (.iconst 2, 1) := by decide +kernel
theorem d_Mo_findShortest_135 : decode m_Mo_findShortest.2.1 135 = .ok (.iload_n 2, 1) := by decide +kernel
theorem d_Mo_findShortest_136 : decode m_Mo_findShortest.2.1 136 = .ok (.bipush 15, 2) := by decide +kernel
theorem d_Mo_findShortest_138 : decode m_Mo_findShortest.2.1 138 = .ok (.irem, 1) := by decide +kernel
theorem d_Mo_findShortest_139 : decode m_Mo_findShortest.2.1 139 = .ok (.iastore, 1) := by decide +kernel
theorem d_Mo_findShortest_140 : decode m_Mo_findShortest.2.1 140 = .ok (.iinc 2 1, 3) := by decide +kernel
theorem d_Mo_findShortest_143 : decode m_Mo_findShortest.2.1 143 = .ok (.goto (-138), 3) := by decide +kernel
theorem d_Mo_findShortest_146 : decode m_Mo_findShortest.2.1 146 = .ok (.iload_n 1, 1) := by decide +kernel
theorem d_Mo_findShortest_147 : decode m_Mo_findShortest.2.1 147 = .ok (.ireturn, 1) := by decide +kernel
theorem d_Mo_shortest_0 : decode m_Mo_shortest.2.1 0 = .ok (.iload_n 1, 1) := by decide +kernel
theorem d_Mo_shortest_1 : decode m_Mo_shortest.2.1 1 = .ok (.i2l, 1) := by decide +kernel
theorem d_Mo_shortest_2 : decode m_Mo_shortest.2.1 2 = .ok (.ldc2_w 300, 3) := by decide +kernel
theorem d_Mo_shortest_5 : decode m_Mo_shortest.2.1 5 = .ok (.ldc2_w 107, 3) := by decide +kernel
theorem d_Mo_shortest_8 : decode m_Mo_shortest.2.1 8 = .ok (.invokestatic 109, 3) := by decide +kernel
theorem d_Mo_shortest_11 : decode m_Mo_shortest.2.1 11 = .ok (.ifCond .ne 5, 3) := by decide +kernel
theorem d_Mo_shortest_14 : decode m_Mo_shortest.2.1 14 = .ok (.iconst (-1), 1) := by decide +kernel
theorem d_Mo_shortest_15 : decode m_Mo_shortest.2.1 15 = .ok (.ireturn, 1) := by decide +kernel
theorem d_Mo_shortest_16 : decode m_Mo_shortest.2.1 16 = .ok (.aload_n 0, 1) := by decide +kernel
theorem d_Mo_shortest_17 : decode m_Mo_shortest.2.1 17 = .ok (.invokevirtual 302, 3) := by decide +kernel
theorem d_Mo_shortest_20 : decode m_Mo_shortest.2.1 20 = .ok (.istore_n 2, 1) := by decide +kernel
theorem d_Mo_shortest_21 : decode m_Mo_shortest.2.1 21 = .ok (.iload_n 2, 1) := by decide +kernel
theorem d_Mo_shortest_22 : decode m_Mo_shortest.2.1 22 = .ok (.ifCond .lt 8, 3) := by decide +kernel
theorem d_Mo_shortest_25 : decode m_Mo_shortest.2.1 25 = .ok (.iload_n 1, 1) := by decide +kernel
theorem d_Mo_shortest_26 : decode m_Mo_shortest.2.1 26 = .ok (.iconst (-1), 1) := by decide +kernel
theorem d_Mo_shortest_27 : decode m_Mo_shortest.2.1 27 = .ok (.if_icmp .ne 5, 3) := by decide +kernel
theorem d_Mo_shortest_30 : decode m_Mo_shortest.2.1 30 = .ok (.iload_n 2, 1) := by decide +kernel
theorem d_Mo_shortest_31 : decode m_Mo_shortest.2.1 31 = .ok (.ireturn, 1) := by decide +kernel
theorem d_Mo_shortest_32 : decode m_Mo_shortest.2.1 32 = .ok (.aload_n 0, 1) := by decide +kernel
theorem d_Mo_shortest_33 : decode m_Mo_shortest.2.1 33 = .ok (.iload_n 1, 1) := by decide +kernel
theorem d_Mo_shortest_34 : decode m_Mo_shortest.2.1 34 = .ok (.aload_n 0, 1) := by decide +kernel
theorem d_Mo_shortest_35 : decode m_Mo_shortest.2.1 35 = .ok (.getfield 98, 3) := by decide +kernel
theorem d_Mo_shortest_38 : decode m_Mo_shortest.2.1 38 = .ok (.iload_n 1, 1) := by decide +kernel
theorem d_Mo_shortest_39 : decode m_Mo_shortest.2.1 39 = .ok (.iaload, 1) := by decide +kernel
theorem d_Mo_shortest_40 : decode m_Mo_shortest.2.1 40 = .ok (.invokevirtual 297, 3) := by decide +kernel
theorem d_Mo_shortest_43 : decode m_Mo_shortest.2.1 43 = .ok (.iconst 0, 1) := by decide +kernel
theorem d_Mo_shortest_44 : decode m_Mo_shortest.2.1 44 = .ok (.istore_n 3, 1) := by decide +kernel
theorem d_Mo_shortest_45 : decode m_Mo_shortest.2.1 45 = .ok (.iconst 0, 1) := by decide +kernel
theorem d_Mo_shortest_46 : decode m_Mo_shortest.2.1 46 = .ok (.istore 4, 2) := by decide +kernel
theorem d_Mo_shortest_48 : decode m_Mo_shortest.2.1 48 = .ok (.iload 4, 2) := by decide +kernel
theorem d_Mo_shortest_50 : decode m_Mo_shortest.2.1 50 = .ok (.aload_n 0, 1) := by decide +kernel
theorem d_Mo_shortest_51 : decode m_Mo_shortest.2.1 51 = .ok (.getfield 89, 3) := by decide +kernel
theorem d_Mo_shortest_54 : decode m_Mo_shortest.2.1 54 = .ok (.iload_n 1, 1) := by decide +kernel
theorem d_Mo_shortest_55 : decode m_Mo_shortest.2.1 55 = .ok (.iaload, 1) := by decide +kernel
theorem d_Mo_shortest_56 : decode m_Mo_shortest.2.1 56 = .ok (.if_icmp .ge 27, 3) := by decide +kernel
theorem d_Mo_shortest_59 : decode m_Mo_shortest.2.1 59 = .ok (.iload_n 3, 1) := by decide +kernel
theorem d_Mo_shortest_60 : decode m_Mo_shortest.2.1 60 = .ok (.aload_n 0, 1) := by decide +kernel
theorem d_Mo_shortest_61 : decode m_Mo_shortest.2.1 61 = .ok (.getfield 86, 3) := by decide +kernel
theorem d_Mo_shortest_64 : decode m_Mo_shortest.2.1 64 = .ok (.bipush 12, 2) := by decide +kernel
theorem d_Mo_shortest_66 : decode m_Mo_shortest.2.1 66 = .ok (.iload_n 1, 1) := by decide +kernel
theorem d_Mo_shortest_67 : decode m_Mo_shortest.2.1 67 = .ok (.imul, 1) := by decide +kernel
theorem d_Mo_shortest_68 : decode m_Mo_shortest.2.1 68 = .ok (.iload 4, 2) := by decide +kernel
theorem d_Mo_shortest_70 : decode m_Mo_shortest.2.1 70 = .ok (.iadd, 1) := by decide +kernel
theorem d_Mo_shortest_71 : decode m_Mo_shortest.2.1 71 = .ok (.iaload, 1) := by decide +kernel
theorem d_Mo_shortest_72 : decode m_Mo_shortest.2.1 72 = .ok (.iload 4, 2) := by decide +kernel
theorem d_Mo_shortest_74 : decode m_Mo_shortest.2.1 74 = .ok (.ishl, 1) := by decide +kernel
theorem d_Mo_shortest_75 : decode m_Mo_shortest.2.1 75 = .ok (.ior, 1) := by decide +kernel
theorem d_Mo_shortest_76 : decode m_Mo_shortest.2.1 76 = .ok (.istore_n 3, 1) := by decide +kernel
theorem d_Mo_shortest_77 : decode m_Mo_shortest.2.1 77 = .ok (.iinc 4 1, 3) := by decide +kernel
theorem d_Mo_shortest_80 : decode m_Mo_shortest.2.1 80 = .ok (.goto (-32), 3) := by decide +kernel
theorem d_Mo_shortest_83 : decode m_Mo_shortest.2.1 83 = .ok (.bipush 100, 2) := by decide +kernel
theorem d_Mo_shortest_85 : decode m_Mo_shortest.2.1 85 = .ok (.aload_n 0, 1) := by decide +kernel
theorem d_Mo_shortest_86 : decode m_Mo_shortest.2.1 86 = .ok (.getfield 89, 3) := by decide +kernel
theorem d_Mo_shortest_89 : decode m_Mo_shortest.2.1 89 = .ok (.iload_n 1, 1) := by decide +kernel
theorem d_Mo_shortest_90 : decode m_Mo_shortest.2.1 90 = .ok (.iaload, 1) := by decide +kernel
theorem d_Mo_shortest_91 : decode m_Mo_shortest.2.1 91 = .ok (.imul, 1) := by decide +kernel
theorem d_Mo_shortest_92 : decode m_Mo_shortest.2.1 92 = .ok (.iload_n 3, 1) := by decide +kernel
theorem d_Mo_shortest_93 : decode m_Mo_shortest.2.1 93 = .ok (.iadd, 1) := by decide +kernel
theorem d_Mo_shortest_94 : decode m_Mo_shortest.2.1 94 = .ok (.ireturn, 1) := by decide +kernel
theorem d_Mo_passRow_0 : decode m_Mo_passRow.2.1 0 = .ok (.iconst 0, 1) := by decide +kernel
theorem d_Mo_passRow_1 : decode m_Mo_passRow.2.1 1 = .ok (.istore_n 3, 1) := by decide +kernel
theorem d_Mo_passRow_2 : decode m_Mo_passRow.2.1 2 = .ok (.iload_n 3, 1) := by decide +kernel
theorem d_Mo_passRow_3 : decode m_Mo_passRow.2.1 3 = .ok (.iload_n 2, 1) := by decide +kernel
theorem d_Mo_passRow_4 : decode m_Mo_passRow.2.1 4 = .ok (.if_icmp .ge 56, 3) := by decide +kernel
theorem d_Mo_passRow_7 : decode m_Mo_passRow.2.1 7 = .ok (.aload_n 1, 1) := by decide +kernel
theorem d_Mo_passRow_8 : decode m_Mo_passRow.2.1 8 = .ok (.iload_n 3, 1) := by decide +kernel
theorem d_Mo_passRow_9 : decode m_Mo_passRow.2.1 9 = .ok (.aload_n 0, 1) := by decide +kernel
theorem d_Mo_passRow_10 : decode m_Mo_passRow.2.1 10 = .ok (.getfield 305, 3) := by decide +kernel
theorem d_Mo_passRow_13 : decode m_Mo_passRow.2.1 13 = .ok (.ifCond .eq 9, 3) := by decide +kernel
theorem d_Mo_passRow_16 : decode m_Mo_passRow.2.1 16 = .ok (.aload_n 1, 1) := by decide +kernel
theorem d_Mo_passRow_17 : decode m_Mo_passRow.2.1 17 = .ok (.iload_n 3, 1) := by decide +kernel
theorem d_Mo_passRow_18 : decode m_Mo_passRow.2.1 18 = .ok (.iaload, 1) := by decide +kernel
theorem d_Mo_passRow_19 : decode m_Mo_passRow.2.1 19 = .ok (.goto 12, 3) := by decide +kernel
theorem d_Mo_passRow_22 : decode m_Mo_passRow.2.1 22 = .ok (.aload_n 0, 1) := by decide +kernel
theorem d_Mo_passRow_23 : decode m_Mo_passRow.2.1 23 = .ok (.getfield 101, 3) := by decide +kernel
theorem d_Mo_passRow_26 : decode m_Mo_passRow.2.1 26 = .ok (.aload_n 0, 1) := by decide +kernel
theorem d_Mo_passRow_27 : decode m_Mo_passRow.2.1 27 = .ok (.getfield 308, 3) := by decide +kernel
theorem d_Mo_passRow_30 : decode m_Mo_passRow.2.1 30 = .ok (.iaload, 1) := by decide +kernel
theorem d_Mo_passRow_31 : decode m_Mo_passRow.2.1 31 = .ok (.iastore, 1) := by decide +kernel
theorem d_Mo_passRow_32 : decode m_Mo_passRow.2.1 32 = .ok (.aload_n 0, 1) := by decide +kernel
theorem d_Mo_passRow_33 : decode m_Mo_passRow.2.1 33 = .ok (.getfield 101, 3) := by decide +kernel
theorem d_Mo_passRow_36 : decode m_Mo_passRow.2.1 36 = .ok (.aload_n 0, 1) := by decide +kernel
theorem d_Mo_passRow_37 : decode m_Mo_passRow.2.1 37 = .ok (.getfield 308, 3) := by decide +kernel
theorem d_Mo_passRow_40 : decode m_Mo_passRow.2.1 40 = .ok (.aload_n 1, 1) := by decide +kernel
theorem d_Mo_passRow_41 : decode m_Mo_passRow.2.1 41 = .ok (.iload_n 3, 1) := by decide +kernel
theorem d_Mo_passRow_42 : decode m_Mo_passRow.2.1 42 = .ok (.iaload, 1) := by decide +kernel
theorem d_Mo_passRow_43 : decode m_Mo_passRow.2.1 43 = .ok (.iastore, 1) := by decide +kernel
theorem d_Mo_passRow_44 : decode m_Mo_passRow.2.1 44 = .ok (.aload_n 0, 1) := by decide +kernel
theorem d_Mo_passRow_45 : decode m_Mo_passRow.2.1 45 = .ok (.dup, 1) := by decide +kernel
theorem d_Mo_passRow_46 : decode m_Mo_passRow.2.1 46 = .ok (.getfield 308, 3) := by decide +kernel
theorem d_Mo_passRow_49 : decode m_Mo_passRow.2.1 49 = .ok (.iconst 1, 1) := by decide +kernel
theorem d_Mo_passRow_50 : decode m_Mo_passRow.2.1 50 = .ok (.iadd, 1) := by decide +kernel
theorem d_Mo_passRow_51 : decode m_Mo_passRow.2.1 51 = .ok (.putfield 308, 3) := by decide +kernel
theorem d_Mo_passRow_54 : decode m_Mo_passRow.2.1 54 = .ok (.iinc 3 1, 3) := by decide +kernel
theorem d_Mo_passRow_57 : decode m_Mo_passRow.2.1 57 = .ok (.goto (-55), 3) := by decide +kernel
theorem d_Mo_passRow_60 : decode m_Mo_passRow.2.1 60 = .ok (.return_, 1) := by decide +kernel
theorem d_Mo_passAll_0 : decode m_Mo_passAll.2.1 0 = .ok (.aload_n 0, 1) := by decide +kernel
theorem d_Mo_passAll_1 : decode m_Mo_passAll.2.1 1 = .ok (.aload_n 0, 1) := by decide +kernel
theorem d_Mo_passAll_2 : decode m_Mo_passAll.2.1 2 = .ok (.getfield 7, 3) := by decide +kernel
theorem d_Mo_passAll_5 : decode m_Mo_passAll.2.1 5 = .ok (.bipush 24, 2) := by decide +kernel
theorem d_Mo_passAll_7 : decode m_Mo_passAll.2.1 7 = .ok (.invokevirtual 311, 3) := by decide +kernel
theorem d_Mo_passAll_10 : decode m_Mo_passAll.2.1 10 = .ok (.aload_n 0, 1) := by decide +kernel
theorem d_Mo_passAll_11 : decode m_Mo_passAll.2.1 11 = .ok (.aload_n 0, 1) := by decide +kernel
theorem d_Mo_passAll_12 : decode m_Mo_passAll.2.1 12 = .ok (.getfield 13, 3) := by decide +kernel
theorem d_Mo_passAll_15 : decode m_Mo_passAll.2.1 15 = .ok (.iconst 2, 1) := by decide +kernel
theorem d_Mo_passAll_16 : decode m_Mo_passAll.2.1 16 = .ok (.invokevirtual 311, 3) := by decide +kernel
theorem d_Mo_passAll_19 : decode m_Mo_passAll.2.1 19 = .ok (.aload_n 0, 1) := by decide +kernel
theorem d_Mo_passAll_20 : decode m_Mo_passAll.2.1 20 = .ok (.aload_n 0, 1) := by decide +kernel
theorem d_Mo_passAll_21 : decode m_Mo_passAll.2.1 21 = .ok (.getfield 16, 3) := by decide +kernel
theorem d_Mo_passAll_24 : decode m_Mo_passAll.2.1 24 = .ok (.bipush 6, 2) := by decide +kernel
theorem d_Mo_passAll_26 : decode m_Mo_passAll.2.1 26 = .ok (.invokevirtual 311, 3) := by decide +kernel
theorem d_Mo_passAll_29 : decode m_Mo_passAll.2.1 29 = .ok (.aload_n 0, 1) := by decide +kernel
theorem d_Mo_passAll_30 : decode m_Mo_passAll.2.1 30 = .ok (.aload_n 0, 1) := by decide +kernel
theorem d_Mo_passAll_31 : decode m_Mo_passAll.2.1 31 = .ok (.getfield 19, 3) := by decide +kernel
theorem d_Mo_passAll_34 : decode m_Mo_passAll.2.1 34 = .ok (.bipush 9, 2) := by decide +kernel
theorem d_Mo_passAll_36 : decode m_Mo_passAll.2.1 36 = .ok (.invokevirtual 311, 3) := by decide +kernel
theorem d_Mo_passAll_39 : decode m_Mo_passAll.2.1 39 = .ok (.aload_n 0, 1) := by decide +kernel
theorem d_Mo_passAll_40 : decode m_Mo_passAll.2.1 40 = .ok (.aload_n 0, 1) := by decide +kernel
theorem d_Mo_passAll_41 : decode m_Mo_passAll.2.1 41 = .ok (.getfield 22, 3) := by decide +kernel
theorem d_Mo_passAll_44 : decode m_Mo_passAll.2.1 44 = .ok (.bipush 36, 2) := by decide +kernel
theorem d_Mo_passAll_46 : decode m_Mo_passAll.2.1 46 = .ok (.invokevirtual 311, 3) := by decide +kernel
theorem d_Mo_passAll_49 : decode m_Mo_passAll.2.1 49 = .ok (.aload_n 0, 1) := by decide +kernel
theorem d_Mo_passAll_50 : decode m_Mo_passAll.2.1 50 = .ok (.aload_n 0, 1) := by decide +kernel
theorem d_Mo_passAll_51 : decode m_Mo_passAll.2.1 51 = .ok (.getfield 25, 3) := by decide +kernel
theorem d_Mo_passAll_54 : decode m_Mo_passAll.2.1 54 = .ok (.iconst 3, 1) := by decide +kernel
theorem d_Mo_passAll_55 : decode m_Mo_passAll.2.1 55 = .ok (.invokevirtual 311, 3) := by decide +kernel
theorem d_Mo_passAll_58 : decode m_Mo_passAll.2.1 58 = .ok (.return_, 1) := by decide +kernel
theorem d_Mo_image_0 : decode m_Mo_image.2.1 0 = .ok (.iload_n 1, 1) := by decide +kernel
theorem d_Mo_image_1 : decode m_Mo_image.2.1 1 = .ok (.i2l, 1) := by decide +kernel
theorem d_Mo_image_2 : decode m_Mo_image.2.1 2 = .ok (.lconst 0, 1) := by decide +kernel
theorem d_Mo_image_3 : decode m_Mo_image.2.1 3 = .ok (.lconst 1, 1) := by decide +kernel
theorem d_Mo_image_4 : decode m_Mo_image.2.1 4 = .ok (.invokestatic 109, 3) := by decide +kernel
theorem d_Mo_image_7 : decode m_Mo_image.2.1 7 = .ok (.ifCond .ne 6, 3) := by decide +kernel
theorem d_Mo_image_10 : decode m_Mo_image.2.1 10 = .ok (.bipush (-2), 2) := by decide +kernel
theorem d_Mo_image_12 : decode m_Mo_image.2.1 12 = .ok (.ireturn, 1) := by decide +kernel
theorem d_Mo_image_13 : decode m_Mo_image.2.1 13 = .ok (.aload_n 0, 1) := by decide +kernel
theorem d_Mo_image_14 : decode m_Mo_image.2.1 14 = .ok (.bipush 90, 2) := by decide +kernel
theorem d_Mo_image_16 : decode m_Mo_image.2.1 16 = .ok (.iload_n 1, 1) := by decide +kernel
theorem d_Mo_image_17 : decode m_Mo_image.2.1 17 = .ok (.imul, 1) := by decide +kernel
theorem d_Mo_image_18 : decode m_Mo_image.2.1 18 = .ok (.putfield 308, 3) := by decide +kernel
theorem d_Mo_image_21 : decode m_Mo_image.2.1 21 = .ok (.aload_n 0, 1) := by decide +kernel
theorem d_Mo_image_22 : decode m_Mo_image.2.1 22 = .ok (.iconst 1, 1) := by decide +kernel
theorem d_Mo_image_23 : decode m_Mo_image.2.1 23 = .ok (.putfield 305, 3) := by decide +kernel
theorem d_Mo_image_26 : decode m_Mo_image.2.1 26 = .ok (.aload_n 0, 1) := by decide +kernel
theorem d_Mo_image_27 : decode m_Mo_image.2.1 27 = .ok (.invokevirtual 315, 3) := by decide +kernel
theorem d_Mo_image_30 : decode m_Mo_image.2.1 30 = .ok (.aload_n 0, 1) := by decide +kernel
theorem d_Mo_image_31 : decode m_Mo_image.2.1 31 = .ok (.getfield 104, 3) := by decide +kernel
theorem d_Mo_image_34 : decode m_Mo_image.2.1 34 = .ok (.iload_n 1, 1) := by decide +kernel
theorem d_Mo_image_35 : decode m_Mo_image.2.1 35 = .ok (.iconst 1, 1) := by decide +kernel
theorem d_Mo_image_36 : decode m_Mo_image.2.1 36 = .ok (.bastore, 1) := by decide +kernel
theorem d_Mo_image_37 : decode m_Mo_image.2.1 37 = .ok (.iconst 1, 1) := by decide +kernel
theorem d_Mo_image_38 : decode m_Mo_image.2.1 38 = .ok (.ireturn, 1) := by decide +kernel
theorem d_Mo_restore_0 : decode m_Mo_restore.2.1 0 = .ok (.iload_n 1, 1) := by decide +kernel
theorem d_Mo_restore_1 : decode m_Mo_restore.2.1 1 = .ok (.i2l, 1) := by decide +kernel
theorem d_Mo_restore_2 : decode m_Mo_restore.2.1 2 = .ok (.lconst 0, 1) := by decide +kernel
theorem d_Mo_restore_3 : decode m_Mo_restore.2.1 3 = .ok (.lconst 1, 1) := by decide +kernel
theorem d_Mo_restore_4 : decode m_Mo_restore.2.1 4 = .ok (.invokestatic 109, 3) := by decide +kernel
theorem d_Mo_restore_7 : decode m_Mo_restore.2.1 7 = .ok (.ifCond .ne 6, 3) := by decide +kernel
theorem d_Mo_restore_10 : decode m_Mo_restore.2.1 10 = .ok (.bipush (-2), 2) := by decide +kernel
theorem d_Mo_restore_12 : decode m_Mo_restore.2.1 12 = .ok (.ireturn, 1) := by decide +kernel
theorem d_Mo_restore_13 : decode m_Mo_restore.2.1 13 = .ok (.aload_n 0, 1) := by decide +kernel
theorem d_Mo_restore_14 : decode m_Mo_restore.2.1 14 = .ok (.getfield 104, 3) := by decide +kernel
theorem d_Mo_restore_17 : decode m_Mo_restore.2.1 17 = .ok (.iload_n 1, 1) := by decide +kernel
theorem d_Mo_restore_18 : decode m_Mo_restore.2.1 18 = .ok (.baload, 1) := by decide +kernel
theorem d_Mo_restore_19 : decode m_Mo_restore.2.1 19 = .ok (.ifCond .ne 6, 3) := by decide +kernel
theorem d_Mo_restore_22 : decode m_Mo_restore.2.1 22 = .ok (.bipush (-3), 2) := by decide +kernel
theorem d_Mo_restore_24 : decode m_Mo_restore.2.1 24 = .ok (.ireturn, 1) := by decide +kernel
theorem d_Mo_restore_25 : decode m_Mo_restore.2.1 25 = .ok (.aload_n 0, 1) := by decide +kernel
theorem d_Mo_restore_26 : decode m_Mo_restore.2.1 26 = .ok (.bipush 90, 2) := by decide +kernel
theorem d_Mo_restore_28 : decode m_Mo_restore.2.1 28 = .ok (.iload_n 1, 1) := by decide +kernel
theorem d_Mo_restore_29 : decode m_Mo_restore.2.1 29 = .ok (.imul, 1) := by decide +kernel
theorem d_Mo_restore_30 : decode m_Mo_restore.2.1 30 = .ok (.putfield 308, 3) := by decide +kernel
theorem d_Mo_restore_33 : decode m_Mo_restore.2.1 33 = .ok (.aload_n 0, 1) := by decide +kernel
theorem d_Mo_restore_34 : decode m_Mo_restore.2.1 34 = .ok (.iconst 0, 1) := by decide +kernel
theorem d_Mo_restore_35 : decode m_Mo_restore.2.1 35 = .ok (.putfield 305, 3) := by decide +kernel
theorem d_Mo_restore_38 : decode m_Mo_restore.2.1 38 = .ok (.aload_n 0, 1) := by decide +kernel
theorem d_Mo_restore_39 : decode m_Mo_restore.2.1 39 = .ok (.invokevirtual 315, 3) := by decide +kernel
theorem d_Mo_restore_42 : decode m_Mo_restore.2.1 42 = .ok (.aload_n 0, 1) := by decide +kernel
theorem d_Mo_restore_43 : decode m_Mo_restore.2.1 43 = .ok (.iconst 0, 1) := by decide +kernel
theorem d_Mo_restore_44 : decode m_Mo_restore.2.1 44 = .ok (.putfield 137, 3) := by decide +kernel
theorem d_Mo_restore_47 : decode m_Mo_restore.2.1 47 = .ok (.iconst 1, 1) := by decide +kernel
theorem d_Mo_restore_48 : decode m_Mo_restore.2.1 48 = .ok (.ireturn, 1) := by decide +kernel
theorem d_Mo_told_0 : decode m_Mo_told.2.1 0 = .ok (.iload_n 1, 1) := by decide +kernel
theorem d_Mo_told_1 : decode m_Mo_told.2.1 1 = .ok (.i2l, 1) := by decide +kernel
theorem d_Mo_told_2 : decode m_Mo_told.2.1 2 = .ok (.ldc2_w 318, 3) := by decide +kernel
theorem d_Mo_told_5 : decode m_Mo_told.2.1 5 = .ok (.ldc2_w 320, 3) := by decide +kernel
theorem d_Mo_told_8 : decode m_Mo_told.2.1 8 = .ok (.invokestatic 109, 3) := by decide +kernel
theorem d_Mo_told_11 : decode m_Mo_told.2.1 11 = .ok (.ifCond .eq 43, 3) := by decide +kernel
theorem d_Mo_told_14 : decode m_Mo_told.2.1 14 = .ok (.iload_n 1, 1) := by decide +kernel
theorem d_Mo_told_15 : decode m_Mo_told.2.1 15 = .ok (.bipush 100, 2) := by decide +kernel
theorem d_Mo_told_17 : decode m_Mo_told.2.1 17 = .ok (.idiv, 1) := by decide +kernel
theorem d_Mo_told_18 : decode m_Mo_told.2.1 18 = .ok (.iconst 1, 1) := by decide +kernel
theorem d_Mo_told_19 : decode m_Mo_told.2.1 19 = .ok (.isub, 1) := by decide +kernel
theorem d_Mo_told_20 : decode m_Mo_told.2.1 20 = .ok (.istore_n 2, 1) := by decide +kernel
theorem d_Mo_told_21 : decode m_Mo_told.2.1 21 = .ok (.iload_n 1, 1) := by decide +kernel
theorem d_Mo_told_22 : decode m_Mo_told.2.1 22 = .ok (.bipush 100, 2) := by decide +kernel
theorem d_Mo_told_24 : decode m_Mo_told.2.1 24 = .ok (.irem, 1) := by decide +kernel
theorem d_Mo_told_25 : decode m_Mo_told.2.1 25 = .ok (.aload_n 0, 1) := by decide +kernel
theorem d_Mo_told_26 : decode m_Mo_told.2.1 26 = .ok (.getfield 25, 3) := by decide +kernel
theorem d_Mo_told_29 : decode m_Mo_told.2.1 29 = .ok (.iload_n 2, 1) := by decide +kernel
theorem d_Mo_told_30 : decode m_Mo_told.2.1 30 = .ok (.iaload, 1) := by decide +kernel
theorem d_Mo_told_31 : decode m_Mo_told.2.1 31 = .ok (.if_icmp .ge 20, 3) := by decide +kernel
theorem d_Mo_told_34 : decode m_Mo_told.2.1 34 = .ok (.aload_n 0, 1) := by decide +kernel
theorem d_Mo_told_35 : decode m_Mo_told.2.1 35 = .ok (.getfield 22, 3) := by decide +kernel
theorem d_Mo_told_38 : decode m_Mo_told.2.1 38 = .ok (.bipush 12, 2) := by decide +kernel
theorem d_Mo_told_40 : decode m_Mo_told.2.1 40 = .ok (.iload_n 2, 1) := by decide +kernel
theorem d_Mo_told_41 : decode m_Mo_told.2.1 41 = .ok (.imul, 1) := by decide +kernel
theorem d_Mo_told_42 : decode m_Mo_told.2.1 42 = .ok (.iload_n 1, 1) := by decide +kernel
theorem d_Mo_told_43 : decode m_Mo_told.2.1 43 = .ok (.bipush 100, 2) := by decide +kernel
theorem d_Mo_told_45 : decode m_Mo_told.2.1 45 = .ok (.irem, 1) := by decide +kernel
theorem d_Mo_told_46 : decode m_Mo_told.2.1 46 = .ok (.iadd, 1) := by decide +kernel
theorem d_Mo_told_47 : decode m_Mo_told.2.1 47 = .ok (.iaload, 1) := by decide +kernel
theorem d_Mo_told_48 : decode m_Mo_told.2.1 48 = .ok (.goto 5, 3) := by decide +kernel
theorem d_Mo_told_51 : decode m_Mo_told.2.1 51 = .ok (.bipush (-2), 2) := by decide +kernel
theorem d_Mo_told_53 : decode m_Mo_told.2.1 53 = .ok (.ireturn, 1) := by decide +kernel
theorem d_Mo_told_54 : decode m_Mo_told.2.1 54 = .ok (.iload_n 1, 1) := by decide +kernel
theorem d_Mo_told_55 : decode m_Mo_told.2.1 55 = .ok (.i2l, 1) := by decide +kernel
theorem d_Mo_told_56 : decode m_Mo_told.2.1 56 = .ok (.ldc2_w 322, 3) := by decide +kernel
theorem d_Mo_told_59 : decode m_Mo_told.2.1 59 = .ok (.ldc2_w 324, 3) := by decide +kernel
theorem d_Mo_told_62 : decode m_Mo_told.2.1 62 = .ok (.invokestatic 109, 3) := by decide +kernel
theorem d_Mo_told_65 : decode m_Mo_told.2.1 65 = .ok (.ifCond .eq 13, 3) := by decide +kernel
theorem d_Mo_told_68 : decode m_Mo_told.2.1 68 = .ok (.aload_n 0, 1) := by decide +kernel
theorem d_Mo_told_69 : decode m_Mo_told.2.1 69 = .ok (.getfield 16, 3) := by decide +kernel
theorem d_Mo_told_72 : decode m_Mo_told.2.1 72 = .ok (.iload_n 1, 1) := by decide +kernel
theorem d_Mo_told_73 : decode m_Mo_told.2.1 73 = .ok (.bipush 10, 2) := by decide +kernel
theorem d_Mo_told_75 : decode m_Mo_told.2.1 75 = .ok (.isub, 1) := by decide +kernel
theorem d_Mo_told_76 : decode m_Mo_told.2.1 76 = .ok (.iaload, 1) := by decide +kernel
theorem d_Mo_told_77 : decode m_Mo_told.2.1 77 = .ok (.ireturn, 1) := by decide +kernel
theorem d_Mo_told_78 : decode m_Mo_told.2.1 78 = .ok (.iload_n 1, 1) := by decide +kernel
theorem d_Mo_told_79 : decode m_Mo_told.2.1 79 = .ok (.i2l, 1) := by decide +kernel
theorem d_Mo_told_80 : decode m_Mo_told.2.1 80 = .ok (.ldc2_w 326, 3) := by decide +kernel
theorem d_Mo_told_83 : decode m_Mo_told.2.1 83 = .ok (.ldc2_w 328, 3) := by decide +kernel
theorem d_Mo_told_86 : decode m_Mo_told.2.1 86 = .ok (.invokestatic 109, 3) := by decide +kernel
theorem d_Mo_told_89 : decode m_Mo_told.2.1 89 = .ok (.ifCond .eq 13, 3) := by decide +kernel
theorem d_Mo_told_92 : decode m_Mo_told.2.1 92 = .ok (.aload_n 0, 1) := by decide +kernel
theorem d_Mo_told_93 : decode m_Mo_told.2.1 93 = .ok (.getfield 19, 3) := by decide +kernel
theorem d_Mo_told_96 : decode m_Mo_told.2.1 96 = .ok (.iload_n 1, 1) := by decide +kernel
theorem d_Mo_told_97 : decode m_Mo_told.2.1 97 = .ok (.bipush 20, 2) := by decide +kernel
theorem d_Mo_told_99 : decode m_Mo_told.2.1 99 = .ok (.isub, 1) := by decide +kernel
theorem d_Mo_told_100 : decode m_Mo_told.2.1 100 = .ok (.iaload, 1) := by decide +kernel
theorem d_Mo_told_101 : decode m_Mo_told.2.1 101 = .ok (.ireturn, 1) := by decide +kernel
theorem d_Mo_told_102 : decode m_Mo_told.2.1 102 = .ok (.iload_n 1, 1) := by decide +kernel
theorem d_Mo_told_103 : decode m_Mo_told.2.1 103 = .ok (.i2l, 1) := by decide +kernel
theorem d_Mo_told_104 : decode m_Mo_told.2.1 104 = .ok (.ldc2_w 330, 3) := by decide +kernel
theorem d_Mo_told_107 : decode m_Mo_told.2.1 107 = .ok (.ldc2_w 332, 3) := by decide +kernel
theorem d_Mo_told_110 : decode m_Mo_told.2.1 110 = .ok (.invokestatic 109, 3) := by decide +kernel
theorem d_Mo_told_113 : decode m_Mo_told.2.1 113 = .ok (.ifCond .eq 13, 3) := by decide +kernel
theorem d_Mo_told_116 : decode m_Mo_told.2.1 116 = .ok (.aload_n 0, 1) := by decide +kernel
theorem d_Mo_told_117 : decode m_Mo_told.2.1 117 = .ok (.getfield 25, 3) := by decide +kernel
theorem d_Mo_told_120 : decode m_Mo_told.2.1 120 = .ok (.iload_n 1, 1) := by decide +kernel
theorem d_Mo_told_121 : decode m_Mo_told.2.1 121 = .ok (.bipush 30, 2) := by decide +kernel
theorem d_Mo_told_123 : decode m_Mo_told.2.1 123 = .ok (.isub, 1) := by decide +kernel
theorem d_Mo_told_124 : decode m_Mo_told.2.1 124 = .ok (.iaload, 1) := by decide +kernel
theorem d_Mo_told_125 : decode m_Mo_told.2.1 125 = .ok (.ireturn, 1) := by decide +kernel
theorem d_Mo_told_126 : decode m_Mo_told.2.1 126 = .ok (.iload_n 1, 1) := by decide +kernel
theorem d_Mo_told_127 : decode m_Mo_told.2.1 127 = .ok (.ifCond .ne 10, 3) := by decide +kernel
theorem d_Mo_told_130 : decode m_Mo_told.2.1 130 = .ok (.aload_n 0, 1) := by decide +kernel
theorem d_Mo_told_131 : decode m_Mo_told.2.1 131 = .ok (.getfield 117, 3) := by decide +kernel
theorem d_Mo_told_134 : decode m_Mo_told.2.1 134 = .ok (.goto 26, 3) := by decide +kernel
theorem d_Mo_told_137 : decode m_Mo_told.2.1 137 = .ok (.iload_n 1, 1) := by decide +kernel
theorem d_Mo_told_138 : decode m_Mo_told.2.1 138 = .ok (.iconst 1, 1) := by decide +kernel
theorem d_Mo_told_139 : decode m_Mo_told.2.1 139 = .ok (.if_icmp .eq 8, 3) := by decide +kernel
theorem d_Mo_told_142 : decode m_Mo_told.2.1 142 = .ok (.iload_n 1, 1) := by decide +kernel
theorem d_Mo_told_143 : decode m_Mo_told.2.1 143 = .ok (.iconst 2, 1) := by decide +kernel
theorem d_Mo_told_144 : decode m_Mo_told.2.1 144 = .ok (.if_icmp .ne 14, 3) := by decide +kernel
theorem d_Mo_told_147 : decode m_Mo_told.2.1 147 = .ok (.aload_n 0, 1) := by decide +kernel
theorem d_Mo_told_148 : decode m_Mo_told.2.1 148 = .ok (.getfield 13, 3) := by decide +kernel
theorem d_Mo_told_151 : decode m_Mo_told.2.1 151 = .ok (.iload_n 1, 1) := by decide +kernel
theorem d_Mo_told_152 : decode m_Mo_told.2.1 152 = .ok (.iconst 1, 1) := by decide +kernel
theorem d_Mo_told_153 : decode m_Mo_told.2.1 153 = .ok (.isub, 1) := by decide +kernel
theorem d_Mo_told_154 : decode m_Mo_told.2.1 154 = .ok (.iaload, 1) := by decide +kernel
theorem d_Mo_told_155 : decode m_Mo_told.2.1 155 = .ok (.goto 5, 3) := by decide +kernel
theorem d_Mo_told_158 : decode m_Mo_told.2.1 158 = .ok (.bipush (-2), 2) := by decide +kernel
theorem d_Mo_told_160 : decode m_Mo_told.2.1 160 = .ok (.ireturn, 1) := by decide +kernel
theorem d_Math_max_0 : decode m_Math_max.2.1 0 = .ok (.iload_n 0, 1) := by decide +kernel
theorem d_Math_max_1 : decode m_Math_max.2.1 1 = .ok (.iload_n 1, 1) := by decide +kernel
theorem d_Math_max_2 : decode m_Math_max.2.1 2 = .ok (.if_icmp .lt 7, 3) := by decide +kernel
theorem d_Math_max_5 : decode m_Math_max.2.1 5 = .ok (.iload_n 0, 1) := by decide +kernel
theorem d_Math_max_6 : decode m_Math_max.2.1 6 = .ok (.goto 4, 3) := by decide +kernel
theorem d_Math_max_9 : decode m_Math_max.2.1 9 = .ok (.iload_n 1, 1) := by decide +kernel
theorem d_Math_max_10 : decode m_Math_max.2.1 10 = .ok (.ireturn, 1) := by decide +kernel
theorem d_Arr_fill_0 : decode m_Arr_fill.2.1 0 = .ok (.iconst 0, 1) := by decide +kernel
theorem d_Arr_fill_1 : decode m_Arr_fill.2.1 1 = .ok (.istore_n 2, 1) := by decide +kernel
theorem d_Arr_fill_2 : decode m_Arr_fill.2.1 2 = .ok (.aload_n 0, 1) := by decide +kernel
theorem d_Arr_fill_3 : decode m_Arr_fill.2.1 3 = .ok (.arraylength, 1) := by decide +kernel
theorem d_Arr_fill_4 : decode m_Arr_fill.2.1 4 = .ok (.istore_n 3, 1) := by decide +kernel
theorem d_Arr_fill_5 : decode m_Arr_fill.2.1 5 = .ok (.iload_n 2, 1) := by decide +kernel
theorem d_Arr_fill_6 : decode m_Arr_fill.2.1 6 = .ok (.iload_n 3, 1) := by decide +kernel
theorem d_Arr_fill_7 : decode m_Arr_fill.2.1 7 = .ok (.if_icmp .ge 13, 3) := by decide +kernel
theorem d_Arr_fill_10 : decode m_Arr_fill.2.1 10 = .ok (.aload_n 0, 1) := by decide +kernel
theorem d_Arr_fill_11 : decode m_Arr_fill.2.1 11 = .ok (.iload_n 2, 1) := by decide +kernel
theorem d_Arr_fill_12 : decode m_Arr_fill.2.1 12 = .ok (.iload_n 1, 1) := by decide +kernel
theorem d_Arr_fill_13 : decode m_Arr_fill.2.1 13 = .ok (.iastore, 1) := by decide +kernel
theorem d_Arr_fill_14 : decode m_Arr_fill.2.1 14 = .ok (.iinc 2 1, 3) := by decide +kernel
theorem d_Arr_fill_17 : decode m_Arr_fill.2.1 17 = .ok (.goto (-12), 3) := by decide +kernel
theorem d_Arr_fill_20 : decode m_Arr_fill.2.1 20 = .ok (.return_, 1) := by decide +kernel
theorem d_Law_law_0 : decode code 0 = .ok (.new 7, 3) := by decide +kernel
theorem d_Law_law_3 : decode code 3 = .ok (.dup, 1) := by decide +kernel
theorem d_Law_law_4 : decode code 4 = .ok (.invokespecial 9, 3) := by decide +kernel
theorem d_Law_law_7 : decode code 7 = .ok (.astore_n 1, 1) := by decide +kernel
theorem d_Law_law_8 : decode code 8 = .ok (.new 10, 3) := by decide +kernel
theorem d_Law_law_11 : decode code 11 = .ok (.dup, 1) := by decide +kernel
theorem d_Law_law_12 : decode code 12 = .ok (.invokespecial 12, 3) := by decide +kernel
theorem d_Law_law_15 : decode code 15 = .ok (.astore_n 2, 1) := by decide +kernel
theorem d_Law_law_16 : decode code 16 = .ok (.iconst 0, 1) := by decide +kernel
theorem d_Law_law_17 : decode code 17 = .ok (.istore_n 3, 1) := by decide +kernel
theorem d_Law_law_18 : decode code 18 = .ok (.iload_n 3, 1) := by decide +kernel
theorem d_Law_law_19 : decode code 19 = .ok (.aload_n 0, 1) := by decide +kernel
theorem d_Law_law_20 : decode code 20 = .ok (.arraylength, 1) := by decide +kernel
theorem d_Law_law_21 : decode code 21 = .ok (.iconst 4, 1) := by decide +kernel
theorem d_Law_law_22 : decode code 22 = .ok (.isub, 1) := by decide +kernel
theorem d_Law_law_23 : decode code 23 = .ok (.if_icmp .gt 725, 3) := by decide +kernel
theorem d_Law_law_26 : decode code 26 = .ok (.aload_n 0, 1) := by decide +kernel
theorem d_Law_law_27 : decode code 27 = .ok (.iload_n 3, 1) := by decide +kernel
theorem d_Law_law_28 : decode code 28 = .ok (.iaload, 1) := by decide +kernel
theorem d_Law_law_29 : decode code 29 = .ok (.bipush 31, 2) := by decide +kernel
theorem d_Law_law_31 : decode code 31 = .ok (.iand, 1) := by decide +kernel
theorem d_Law_law_32 : decode code 32 = .ok (.tableswitch 710 0 21 #[104, 127, 140, 153, 166, 209, 252, 285, 308, 341, 384, 427, 470, 503, 536, 559, 572, 585, 618, 641, 664, 687], 104) := by decide +kernel
theorem d_Law_law_136 : decode code 136 = .ok (.aload_n 1, 1) := by decide +kernel
theorem d_Law_law_137 : decode code 137 = .ok (.aload_n 0, 1) := by decide +kernel
theorem d_Law_law_138 : decode code 138 = .ok (.iload_n 3, 1) := by decide +kernel
theorem d_Law_law_139 : decode code 139 = .ok (.iconst 1, 1) := by decide +kernel
theorem d_Law_law_140 : decode code 140 = .ok (.iadd, 1) := by decide +kernel
theorem d_Law_law_141 : decode code 141 = .ok (.iaload, 1) := by decide +kernel
theorem d_Law_law_142 : decode code 142 = .ok (.invokevirtual 13, 3) := by decide +kernel
theorem d_Law_law_145 : decode code 145 = .ok (.aload_n 2, 1) := by decide +kernel
theorem d_Law_law_146 : decode code 146 = .ok (.aload_n 0, 1) := by decide +kernel
theorem d_Law_law_147 : decode code 147 = .ok (.iload_n 3, 1) := by decide +kernel
theorem d_Law_law_148 : decode code 148 = .ok (.iconst 1, 1) := by decide +kernel
theorem d_Law_law_149 : decode code 149 = .ok (.iadd, 1) := by decide +kernel
theorem d_Law_law_150 : decode code 150 = .ok (.iaload, 1) := by decide +kernel
theorem d_Law_law_151 : decode code 151 = .ok (.invokevirtual 17, 3) := by decide +kernel
theorem d_Law_law_154 : decode code 154 = .ok (.if_icmp .eq 588, 3) := by decide +kernel
theorem d_Law_law_157 : decode code 157 = .ok (.iconst 0, 1) := by decide +kernel
theorem d_Law_law_158 : decode code 158 = .ok (.ireturn, 1) := by decide +kernel
theorem d_Law_law_159 : decode code 159 = .ok (.aload_n 1, 1) := by decide +kernel
theorem d_Law_law_160 : decode code 160 = .ok (.invokevirtual 18, 3) := by decide +kernel
theorem d_Law_law_163 : decode code 163 = .ok (.aload_n 2, 1) := by decide +kernel
theorem d_Law_law_164 : decode code 164 = .ok (.invokevirtual 22, 3) := by decide +kernel
theorem d_Law_law_167 : decode code 167 = .ok (.if_icmp .eq 575, 3) := by decide +kernel
theorem d_Law_law_170 : decode code 170 = .ok (.iconst 0, 1) := by decide +kernel
theorem d_Law_law_171 : decode code 171 = .ok (.ireturn, 1) := by decide +kernel
theorem d_Law_law_172 : decode code 172 = .ok (.aload_n 1, 1) := by decide +kernel
theorem d_Law_law_173 : decode code 173 = .ok (.invokevirtual 23, 3) := by decide +kernel
theorem d_Law_law_176 : decode code 176 = .ok (.aload_n 2, 1) := by decide +kernel
theorem d_Law_law_177 : decode code 177 = .ok (.invokevirtual 26, 3) := by decide +kernel
theorem d_Law_law_180 : decode code 180 = .ok (.if_icmp .eq 562, 3) := by decide +kernel
theorem d_Law_law_183 : decode code 183 = .ok (.iconst 0, 1) := by decide +kernel
theorem d_Law_law_184 : decode code 184 = .ok (.ireturn, 1) := by decide +kernel
theorem d_Law_law_185 : decode code 185 = .ok (.aload_n 1, 1) := by decide +kernel
theorem d_Law_law_186 : decode code 186 = .ok (.invokevirtual 27, 3) := by decide +kernel
theorem d_Law_law_189 : decode code 189 = .ok (.aload_n 2, 1) := by decide +kernel
theorem d_Law_law_190 : decode code 190 = .ok (.invokevirtual 30, 3) := by decide +kernel
theorem d_Law_law_193 : decode code 193 = .ok (.if_icmp .eq 549, 3) := by decide +kernel
theorem d_Law_law_196 : decode code 196 = .ok (.iconst 0, 1) := by decide +kernel
theorem d_Law_law_197 : decode code 197 = .ok (.ireturn, 1) := by decide +kernel
theorem d_Law_law_198 : decode code 198 = .ok (.aload_n 1, 1) := by decide +kernel
theorem d_Law_law_199 : decode code 199 = .ok (.aload_n 0, 1) := by decide +kernel
theorem d_Law_law_200 : decode code 200 = .ok (.iload_n 3, 1) := by decide +kernel
theorem d_Law_law_201 : decode code 201 = .ok (.iconst 1, 1) := by decide +kernel
theorem d_Law_law_202 : decode code 202 = .ok (.iadd, 1) := by decide +kernel
theorem d_Law_law_203 : decode code 203 = .ok (.iaload, 1) := by decide +kernel
theorem d_Law_law_204 : decode code 204 = .ok (.aload_n 0, 1) := by decide +kernel
theorem d_Law_law_205 : decode code 205 = .ok (.iload_n 3, 1) := by decide +kernel
theorem d_Law_law_206 : decode code 206 = .ok (.iconst 2, 1) := by decide +kernel
theorem d_Law_law_207 : decode code 207 = .ok (.iadd, 1) := by decide +kernel
theorem d_Law_law_208 : decode code 208 = .ok (.iaload, 1) := by decide +kernel
theorem d_Law_law_209 : decode code 209 = .ok (.aload_n 0, 1) := by decide +kernel
theorem d_Law_law_210 : decode code 210 = .ok (.iload_n 3, 1) := by decide +kernel
theorem d_Law_law_211 : decode code 211 = .ok (.iconst 3, 1) := by decide +kernel
theorem d_Law_law_212 : decode code 212 = .ok (.iadd, 1) := by decide +kernel
theorem d_Law_law_213 : decode code 213 = .ok (.iaload, 1) := by decide +kernel
theorem d_Law_law_214 : decode code 214 = .ok (.invokevirtual 31, 3) := by decide +kernel
theorem d_Law_law_217 : decode code 217 = .ok (.aload_n 2, 1) := by decide +kernel
theorem d_Law_law_218 : decode code 218 = .ok (.aload_n 0, 1) := by decide +kernel
theorem d_Law_law_219 : decode code 219 = .ok (.iload_n 3, 1) := by decide +kernel
theorem d_Law_law_220 : decode code 220 = .ok (.iconst 1, 1) := by decide +kernel
theorem d_Law_law_221 : decode code 221 = .ok (.iadd, 1) := by decide +kernel
theorem d_Law_law_222 : decode code 222 = .ok (.iaload, 1) := by decide +kernel
theorem d_Law_law_223 : decode code 223 = .ok (.aload_n 0, 1) := by decide +kernel
theorem d_Law_law_224 : decode code 224 = .ok (.iload_n 3, 1) := by decide +kernel
theorem d_Law_law_225 : decode code 225 = .ok (.iconst 2, 1) := by decide +kernel
theorem d_Law_law_226 : decode code 226 = .ok (.iadd, 1) := by decide +kernel
theorem d_Law_law_227 : decode code 227 = .ok (.iaload, 1) := by decide +kernel
theorem d_Law_law_228 : decode code 228 = .ok (.aload_n 0, 1) := by decide +kernel
theorem d_Law_law_229 : decode code 229 = .ok (.iload_n 3, 1) := by decide +kernel
theorem d_Law_law_230 : decode code 230 = .ok (.iconst 3, 1) := by decide +kernel
theorem d_Law_law_231 : decode code 231 = .ok (.iadd, 1) := by decide +kernel
theorem d_Law_law_232 : decode code 232 = .ok (.iaload, 1) := by decide +kernel
theorem d_Law_law_233 : decode code 233 = .ok (.invokevirtual 35, 3) := by decide +kernel
theorem d_Law_law_236 : decode code 236 = .ok (.if_icmp .eq 506, 3) := by decide +kernel
theorem d_Law_law_239 : decode code 239 = .ok (.iconst 0, 1) := by decide +kernel
theorem d_Law_law_240 : decode code 240 = .ok (.ireturn, 1) := by decide +kernel
theorem d_Law_law_241 : decode code 241 = .ok (.aload_n 1, 1) := by decide +kernel
theorem d_Law_law_242 : decode code 242 = .ok (.aload_n 0, 1) := by decide +kernel
theorem d_Law_law_243 : decode code 243 = .ok (.iload_n 3, 1) := by decide +kernel
theorem d_Law_law_244 : decode code 244 = .ok (.iconst 1, 1) := by decide +kernel
theorem d_Law_law_245 : decode code 245 = .ok (.iadd, 1) := by decide +kernel
theorem d_Law_law_246 : decode code 246 = .ok (.iaload, 1) := by decide +kernel
theorem d_Law_law_247 : decode code 247 = .ok (.aload_n 0, 1) := by decide +kernel
theorem d_Law_law_248 : decode code 248 = .ok (.iload_n 3, 1) := by decide +kernel
theorem d_Law_law_249 : decode code 249 = .ok (.iconst 2, 1) := by decide +kernel
theorem d_Law_law_250 : decode code 250 = .ok (.iadd, 1) := by decide +kernel
theorem d_Law_law_251 : decode code 251 = .ok (.iaload, 1) := by decide +kernel
theorem d_Law_law_252 : decode code 252 = .ok (.aload_n 0, 1) := by decide +kernel
theorem d_Law_law_253 : decode code 253 = .ok (.iload_n 3, 1) := by decide +kernel
theorem d_Law_law_254 : decode code 254 = .ok (.iconst 3, 1) := by decide +kernel
theorem d_Law_law_255 : decode code 255 = .ok (.iadd, 1) := by decide +kernel
theorem d_Law_law_256 : decode code 256 = .ok (.iaload, 1) := by decide +kernel
theorem d_Law_law_257 : decode code 257 = .ok (.invokevirtual 36, 3) := by decide +kernel
theorem d_Law_law_260 : decode code 260 = .ok (.aload_n 2, 1) := by decide +kernel
theorem d_Law_law_261 : decode code 261 = .ok (.aload_n 0, 1) := by decide +kernel
theorem d_Law_law_262 : decode code 262 = .ok (.iload_n 3, 1) := by decide +kernel
theorem d_Law_law_263 : decode code 263 = .ok (.iconst 1, 1) := by decide +kernel
theorem d_Law_law_264 : decode code 264 = .ok (.iadd, 1) := by decide +kernel
theorem d_Law_law_265 : decode code 265 = .ok (.iaload, 1) := by decide +kernel
theorem d_Law_law_266 : decode code 266 = .ok (.aload_n 0, 1) := by decide +kernel
theorem d_Law_law_267 : decode code 267 = .ok (.iload_n 3, 1) := by decide +kernel
theorem d_Law_law_268 : decode code 268 = .ok (.iconst 2, 1) := by decide +kernel
theorem d_Law_law_269 : decode code 269 = .ok (.iadd, 1) := by decide +kernel
theorem d_Law_law_270 : decode code 270 = .ok (.iaload, 1) := by decide +kernel
theorem d_Law_law_271 : decode code 271 = .ok (.aload_n 0, 1) := by decide +kernel
theorem d_Law_law_272 : decode code 272 = .ok (.iload_n 3, 1) := by decide +kernel
theorem d_Law_law_273 : decode code 273 = .ok (.iconst 3, 1) := by decide +kernel
theorem d_Law_law_274 : decode code 274 = .ok (.iadd, 1) := by decide +kernel
theorem d_Law_law_275 : decode code 275 = .ok (.iaload, 1) := by decide +kernel
theorem d_Law_law_276 : decode code 276 = .ok (.invokevirtual 39, 3) := by decide +kernel
theorem d_Law_law_279 : decode code 279 = .ok (.if_icmp .eq 463, 3) := by decide +kernel
theorem d_Law_law_282 : decode code 282 = .ok (.iconst 0, 1) := by decide +kernel
theorem d_Law_law_283 : decode code 283 = .ok (.ireturn, 1) := by decide +kernel
theorem d_Law_law_284 : decode code 284 = .ok (.aload_n 1, 1) := by decide +kernel
theorem d_Law_law_285 : decode code 285 = .ok (.aload_n 0, 1) := by decide +kernel
theorem d_Law_law_286 : decode code 286 = .ok (.iload_n 3, 1) := by decide +kernel
theorem d_Law_law_287 : decode code 287 = .ok (.iconst 1, 1) := by decide +kernel
theorem d_Law_law_288 : decode code 288 = .ok (.iadd, 1) := by decide +kernel
theorem d_Law_law_289 : decode code 289 = .ok (.iaload, 1) := by decide +kernel
theorem d_Law_law_290 : decode code 290 = .ok (.aload_n 0, 1) := by decide +kernel
theorem d_Law_law_291 : decode code 291 = .ok (.iload_n 3, 1) := by decide +kernel
theorem d_Law_law_292 : decode code 292 = .ok (.iconst 2, 1) := by decide +kernel
theorem d_Law_law_293 : decode code 293 = .ok (.iadd, 1) := by decide +kernel
theorem d_Law_law_294 : decode code 294 = .ok (.iaload, 1) := by decide +kernel
theorem d_Law_law_295 : decode code 295 = .ok (.invokevirtual 40, 3) := by decide +kernel
theorem d_Law_law_298 : decode code 298 = .ok (.aload_n 2, 1) := by decide +kernel
theorem d_Law_law_299 : decode code 299 = .ok (.aload_n 0, 1) := by decide +kernel
theorem d_Law_law_300 : decode code 300 = .ok (.iload_n 3, 1) := by decide +kernel
theorem d_Law_law_301 : decode code 301 = .ok (.iconst 1, 1) := by decide +kernel
theorem d_Law_law_302 : decode code 302 = .ok (.iadd, 1) := by decide +kernel
theorem d_Law_law_303 : decode code 303 = .ok (.iaload, 1) := by decide +kernel
theorem d_Law_law_304 : decode code 304 = .ok (.aload_n 0, 1) := by decide +kernel
theorem d_Law_law_305 : decode code 305 = .ok (.iload_n 3, 1) := by decide +kernel
theorem d_Law_law_306 : decode code 306 = .ok (.iconst 2, 1) := by decide +kernel
theorem d_Law_law_307 : decode code 307 = .ok (.iadd, 1) := by decide +kernel
theorem d_Law_law_308 : decode code 308 = .ok (.iaload, 1) := by decide +kernel
theorem d_Law_law_309 : decode code 309 = .ok (.invokevirtual 44, 3) := by decide +kernel
theorem d_Law_law_312 : decode code 312 = .ok (.if_icmp .eq 430, 3) := by decide +kernel
theorem d_Law_law_315 : decode code 315 = .ok (.iconst 0, 1) := by decide +kernel
theorem d_Law_law_316 : decode code 316 = .ok (.ireturn, 1) := by decide +kernel
theorem d_Law_law_317 : decode code 317 = .ok (.aload_n 1, 1) := by decide +kernel
theorem d_Law_law_318 : decode code 318 = .ok (.aload_n 0, 1) := by decide +kernel
theorem d_Law_law_319 : decode code 319 = .ok (.iload_n 3, 1) := by decide +kernel
theorem d_Law_law_320 : decode code 320 = .ok (.iconst 1, 1) := by decide +kernel
theorem d_Law_law_321 : decode code 321 = .ok (.iadd, 1) := by decide +kernel
theorem d_Law_law_322 : decode code 322 = .ok (.iaload, 1) := by decide +kernel
theorem d_Law_law_323 : decode code 323 = .ok (.invokevirtual 45, 3) := by decide +kernel
theorem d_Law_law_326 : decode code 326 = .ok (.aload_n 2, 1) := by decide +kernel
theorem d_Law_law_327 : decode code 327 = .ok (.aload_n 0, 1) := by decide +kernel
theorem d_Law_law_328 : decode code 328 = .ok (.iload_n 3, 1) := by decide +kernel
theorem d_Law_law_329 : decode code 329 = .ok (.iconst 1, 1) := by decide +kernel
theorem d_Law_law_330 : decode code 330 = .ok (.iadd, 1) := by decide +kernel
theorem d_Law_law_331 : decode code 331 = .ok (.iaload, 1) := by decide +kernel
theorem d_Law_law_332 : decode code 332 = .ok (.invokevirtual 48, 3) := by decide +kernel
theorem d_Law_law_335 : decode code 335 = .ok (.if_icmp .eq 407, 3) := by decide +kernel
theorem d_Law_law_338 : decode code 338 = .ok (.iconst 0, 1) := by decide +kernel
theorem d_Law_law_339 : decode code 339 = .ok (.ireturn, 1) := by decide +kernel
theorem d_Law_law_340 : decode code 340 = .ok (.aload_n 1, 1) := by decide +kernel
theorem d_Law_law_341 : decode code 341 = .ok (.aload_n 0, 1) := by decide +kernel
theorem d_Law_law_342 : decode code 342 = .ok (.iload_n 3, 1) := by decide +kernel
theorem d_Law_law_343 : decode code 343 = .ok (.iconst 1, 1) := by decide +kernel
theorem d_Law_law_344 : decode code 344 = .ok (.iadd, 1) := by decide +kernel
theorem d_Law_law_345 : decode code 345 = .ok (.iaload, 1) := by decide +kernel
theorem d_Law_law_346 : decode code 346 = .ok (.aload_n 0, 1) := by decide +kernel
theorem d_Law_law_347 : decode code 347 = .ok (.iload_n 3, 1) := by decide +kernel
theorem d_Law_law_348 : decode code 348 = .ok (.iconst 2, 1) := by decide +kernel
theorem d_Law_law_349 : decode code 349 = .ok (.iadd, 1) := by decide +kernel
theorem d_Law_law_350 : decode code 350 = .ok (.iaload, 1) := by decide +kernel
theorem d_Law_law_351 : decode code 351 = .ok (.invokevirtual 49, 3) := by decide +kernel
theorem d_Law_law_354 : decode code 354 = .ok (.aload_n 2, 1) := by decide +kernel
theorem d_Law_law_355 : decode code 355 = .ok (.aload_n 0, 1) := by decide +kernel
theorem d_Law_law_356 : decode code 356 = .ok (.iload_n 3, 1) := by decide +kernel
theorem d_Law_law_357 : decode code 357 = .ok (.iconst 1, 1) := by decide +kernel
theorem d_Law_law_358 : decode code 358 = .ok (.iadd, 1) := by decide +kernel
theorem d_Law_law_359 : decode code 359 = .ok (.iaload, 1) := by decide +kernel
theorem d_Law_law_360 : decode code 360 = .ok (.aload_n 0, 1) := by decide +kernel
theorem d_Law_law_361 : decode code 361 = .ok (.iload_n 3, 1) := by decide +kernel
theorem d_Law_law_362 : decode code 362 = .ok (.iconst 2, 1) := by decide +kernel
theorem d_Law_law_363 : decode code 363 = .ok (.iadd, 1) := by decide +kernel
theorem d_Law_law_364 : decode code 364 = .ok (.iaload, 1) := by decide +kernel
theorem d_Law_law_365 : decode code 365 = .ok (.invokevirtual 52, 3) := by decide +kernel
theorem d_Law_law_368 : decode code 368 = .ok (.if_icmp .eq 374, 3) := by decide +kernel
theorem d_Law_law_371 : decode code 371 = .ok (.iconst 0, 1) := by decide +kernel
theorem d_Law_law_372 : decode code 372 = .ok (.ireturn, 1) := by decide +kernel
theorem d_Law_law_373 : decode code 373 = .ok (.aload_n 1, 1) := by decide +kernel
theorem d_Law_law_374 : decode code 374 = .ok (.aload_n 0, 1) := by decide +kernel
theorem d_Law_law_375 : decode code 375 = .ok (.iload_n 3, 1) := by decide +kernel
theorem d_Law_law_376 : decode code 376 = .ok (.iconst 1, 1) := by decide +kernel
theorem d_Law_law_377 : decode code 377 = .ok (.iadd, 1) := by decide +kernel
theorem d_Law_law_378 : decode code 378 = .ok (.iaload, 1) := by decide +kernel
theorem d_Law_law_379 : decode code 379 = .ok (.aload_n 0, 1) := by decide +kernel
theorem d_Law_law_380 : decode code 380 = .ok (.iload_n 3, 1) := by decide +kernel
theorem d_Law_law_381 : decode code 381 = .ok (.iconst 2, 1) := by decide +kernel
theorem d_Law_law_382 : decode code 382 = .ok (.iadd, 1) := by decide +kernel
theorem d_Law_law_383 : decode code 383 = .ok (.iaload, 1) := by decide +kernel
theorem d_Law_law_384 : decode code 384 = .ok (.aload_n 0, 1) := by decide +kernel
theorem d_Law_law_385 : decode code 385 = .ok (.iload_n 3, 1) := by decide +kernel
theorem d_Law_law_386 : decode code 386 = .ok (.iconst 3, 1) := by decide +kernel
theorem d_Law_law_387 : decode code 387 = .ok (.iadd, 1) := by decide +kernel
theorem d_Law_law_388 : decode code 388 = .ok (.iaload, 1) := by decide +kernel
theorem d_Law_law_389 : decode code 389 = .ok (.invokevirtual 53, 3) := by decide +kernel
theorem d_Law_law_392 : decode code 392 = .ok (.aload_n 2, 1) := by decide +kernel
theorem d_Law_law_393 : decode code 393 = .ok (.aload_n 0, 1) := by decide +kernel
theorem d_Law_law_394 : decode code 394 = .ok (.iload_n 3, 1) := by decide +kernel
theorem d_Law_law_395 : decode code 395 = .ok (.iconst 1, 1) := by decide +kernel
theorem d_Law_law_396 : decode code 396 = .ok (.iadd, 1) := by decide +kernel
theorem d_Law_law_397 : decode code 397 = .ok (.iaload, 1) := by decide +kernel
theorem d_Law_law_398 : decode code 398 = .ok (.aload_n 0, 1) := by decide +kernel
theorem d_Law_law_399 : decode code 399 = .ok (.iload_n 3, 1) := by decide +kernel
theorem d_Law_law_400 : decode code 400 = .ok (.iconst 2, 1) := by decide +kernel
theorem d_Law_law_401 : decode code 401 = .ok (.iadd, 1) := by decide +kernel
theorem d_Law_law_402 : decode code 402 = .ok (.iaload, 1) := by decide +kernel
theorem d_Law_law_403 : decode code 403 = .ok (.aload_n 0, 1) := by decide +kernel
theorem d_Law_law_404 : decode code 404 = .ok (.iload_n 3, 1) := by decide +kernel
theorem d_Law_law_405 : decode code 405 = .ok (.iconst 3, 1) := by decide +kernel
theorem d_Law_law_406 : decode code 406 = .ok (.iadd, 1) := by decide +kernel
theorem d_Law_law_407 : decode code 407 = .ok (.iaload, 1) := by decide +kernel
theorem d_Law_law_408 : decode code 408 = .ok (.invokevirtual 56, 3) := by decide +kernel
theorem d_Law_law_411 : decode code 411 = .ok (.if_icmp .eq 331, 3) := by decide +kernel
theorem d_Law_law_414 : decode code 414 = .ok (.iconst 0, 1) := by decide +kernel
theorem d_Law_law_415 : decode code 415 = .ok (.ireturn, 1) := by decide +kernel
theorem d_Law_law_416 : decode code 416 = .ok (.aload_n 1, 1) := by decide +kernel
theorem d_Law_law_417 : decode code 417 = .ok (.aload_n 0, 1) := by decide +kernel
theorem d_Law_law_418 : decode code 418 = .ok (.iload_n 3, 1) := by decide +kernel
theorem d_Law_law_419 : decode code 419 = .ok (.iconst 1, 1) := by decide +kernel
theorem d_Law_law_420 : decode code 420 = .ok (.iadd, 1) := by decide +kernel
theorem d_Law_law_421 : decode code 421 = .ok (.iaload, 1) := by decide +kernel
theorem d_Law_law_422 : decode code 422 = .ok (.aload_n 0, 1) := by decide +kernel
theorem d_Law_law_423 : decode code 423 = .ok (.iload_n 3, 1) := by decide +kernel
theorem d_Law_law_424 : decode code 424 = .ok (.iconst 2, 1) := by decide +kernel
theorem d_Law_law_425 : decode code 425 = .ok (.iadd, 1) := by decide +kernel
theorem d_Law_law_426 : decode code 426 = .ok (.iaload, 1) := by decide +kernel
theorem d_Law_law_427 : decode code 427 = .ok (.aload_n 0, 1) := by decide +kernel
theorem d_Law_law_428 : decode code 428 = .ok (.iload_n 3, 1) := by decide +kernel
theorem d_Law_law_429 : decode code 429 = .ok (.iconst 3, 1) := by decide +kernel
theorem d_Law_law_430 : decode code 430 = .ok (.iadd, 1) := by decide +kernel
theorem d_Law_law_431 : decode code 431 = .ok (.iaload, 1) := by decide +kernel
theorem d_Law_law_432 : decode code 432 = .ok (.invokevirtual 57, 3) := by decide +kernel
theorem d_Law_law_435 : decode code 435 = .ok (.aload_n 2, 1) := by decide +kernel
theorem d_Law_law_436 : decode code 436 = .ok (.aload_n 0, 1) := by decide +kernel
theorem d_Law_law_437 : decode code 437 = .ok (.iload_n 3, 1) := by decide +kernel
theorem d_Law_law_438 : decode code 438 = .ok (.iconst 1, 1) := by decide +kernel
theorem d_Law_law_439 : decode code 439 = .ok (.iadd, 1) := by decide +kernel
theorem d_Law_law_440 : decode code 440 = .ok (.iaload, 1) := by decide +kernel
theorem d_Law_law_441 : decode code 441 = .ok (.aload_n 0, 1) := by decide +kernel
theorem d_Law_law_442 : decode code 442 = .ok (.iload_n 3, 1) := by decide +kernel
theorem d_Law_law_443 : decode code 443 = .ok (.iconst 2, 1) := by decide +kernel
theorem d_Law_law_444 : decode code 444 = .ok (.iadd, 1) := by decide +kernel
theorem d_Law_law_445 : decode code 445 = .ok (.iaload, 1) := by decide +kernel
theorem d_Law_law_446 : decode code 446 = .ok (.aload_n 0, 1) := by decide +kernel
theorem d_Law_law_447 : decode code 447 = .ok (.iload_n 3, 1) := by decide +kernel
theorem d_Law_law_448 : decode code 448 = .ok (.iconst 3, 1) := by decide +kernel
theorem d_Law_law_449 : decode code 449 = .ok (.iadd, 1) := by decide +kernel
theorem d_Law_law_450 : decode code 450 = .ok (.iaload, 1) := by decide +kernel
theorem d_Law_law_451 : decode code 451 = .ok (.invokevirtual 60, 3) := by decide +kernel
theorem d_Law_law_454 : decode code 454 = .ok (.if_icmp .eq 288, 3) := by decide +kernel
theorem d_Law_law_457 : decode code 457 = .ok (.iconst 0, 1) := by decide +kernel
theorem d_Law_law_458 : decode code 458 = .ok (.ireturn, 1) := by decide +kernel
theorem d_Law_law_459 : decode code 459 = .ok (.aload_n 1, 1) := by decide +kernel
theorem d_Law_law_460 : decode code 460 = .ok (.aload_n 0, 1) := by decide +kernel
theorem d_Law_law_461 : decode code 461 = .ok (.iload_n 3, 1) := by decide +kernel
theorem d_Law_law_462 : decode code 462 = .ok (.iconst 1, 1) := by decide +kernel
theorem d_Law_law_463 : decode code 463 = .ok (.iadd, 1) := by decide +kernel
theorem d_Law_law_464 : decode code 464 = .ok (.iaload, 1) := by decide +kernel
theorem d_Law_law_465 : decode code 465 = .ok (.aload_n 0, 1) := by decide +kernel
theorem d_Law_law_466 : decode code 466 = .ok (.iload_n 3, 1) := by decide +kernel
theorem d_Law_law_467 : decode code 467 = .ok (.iconst 2, 1) := by decide +kernel
theorem d_Law_law_468 : decode code 468 = .ok (.iadd, 1) := by decide +kernel
theorem d_Law_law_469 : decode code 469 = .ok (.iaload, 1) := by decide +kernel
theorem d_Law_law_470 : decode code 470 = .ok (.aload_n 0, 1) := by decide +kernel
theorem d_Law_law_471 : decode code 471 = .ok (.iload_n 3, 1) := by decide +kernel
theorem d_Law_law_472 : decode code 472 = .ok (.iconst 3, 1) := by decide +kernel
theorem d_Law_law_473 : decode code 473 = .ok (.iadd, 1) := by decide +kernel
theorem d_Law_law_474 : decode code 474 = .ok (.iaload, 1) := by decide +kernel
theorem d_Law_law_475 : decode code 475 = .ok (.invokevirtual 61, 3) := by decide +kernel
theorem d_Law_law_478 : decode code 478 = .ok (.aload_n 2, 1) := by decide +kernel
theorem d_Law_law_479 : decode code 479 = .ok (.aload_n 0, 1) := by decide +kernel
theorem d_Law_law_480 : decode code 480 = .ok (.iload_n 3, 1) := by decide +kernel
theorem d_Law_law_481 : decode code 481 = .ok (.iconst 1, 1) := by decide +kernel
theorem d_Law_law_482 : decode code 482 = .ok (.iadd, 1) := by decide +kernel
theorem d_Law_law_483 : decode code 483 = .ok (.iaload, 1) := by decide +kernel
theorem d_Law_law_484 : decode code 484 = .ok (.aload_n 0, 1) := by decide +kernel
theorem d_Law_law_485 : decode code 485 = .ok (.iload_n 3, 1) := by decide +kernel
theorem d_Law_law_486 : decode code 486 = .ok (.iconst 2, 1) := by decide +kernel
theorem d_Law_law_487 : decode code 487 = .ok (.iadd, 1) := by decide +kernel
theorem d_Law_law_488 : decode code 488 = .ok (.iaload, 1) := by decide +kernel
theorem d_Law_law_489 : decode code 489 = .ok (.aload_n 0, 1) := by decide +kernel
theorem d_Law_law_490 : decode code 490 = .ok (.iload_n 3, 1) := by decide +kernel
theorem d_Law_law_491 : decode code 491 = .ok (.iconst 3, 1) := by decide +kernel
theorem d_Law_law_492 : decode code 492 = .ok (.iadd, 1) := by decide +kernel
theorem d_Law_law_493 : decode code 493 = .ok (.iaload, 1) := by decide +kernel
theorem d_Law_law_494 : decode code 494 = .ok (.invokevirtual 64, 3) := by decide +kernel
theorem d_Law_law_497 : decode code 497 = .ok (.if_icmp .eq 245, 3) := by decide +kernel
theorem d_Law_law_500 : decode code 500 = .ok (.iconst 0, 1) := by decide +kernel
theorem d_Law_law_501 : decode code 501 = .ok (.ireturn, 1) := by decide +kernel
theorem d_Law_law_502 : decode code 502 = .ok (.aload_n 1, 1) := by decide +kernel
theorem d_Law_law_503 : decode code 503 = .ok (.aload_n 0, 1) := by decide +kernel
theorem d_Law_law_504 : decode code 504 = .ok (.iload_n 3, 1) := by decide +kernel
theorem d_Law_law_505 : decode code 505 = .ok (.iconst 1, 1) := by decide +kernel
theorem d_Law_law_506 : decode code 506 = .ok (.iadd, 1) := by decide +kernel
theorem d_Law_law_507 : decode code 507 = .ok (.iaload, 1) := by decide +kernel
theorem d_Law_law_508 : decode code 508 = .ok (.aload_n 0, 1) := by decide +kernel
theorem d_Law_law_509 : decode code 509 = .ok (.iload_n 3, 1) := by decide +kernel
theorem d_Law_law_510 : decode code 510 = .ok (.iconst 2, 1) := by decide +kernel
theorem d_Law_law_511 : decode code 511 = .ok (.iadd, 1) := by decide +kernel
theorem d_Law_law_512 : decode code 512 = .ok (.iaload, 1) := by decide +kernel
theorem d_Law_law_513 : decode code 513 = .ok (.invokevirtual 65, 3) := by decide +kernel
theorem d_Law_law_516 : decode code 516 = .ok (.aload_n 2, 1) := by decide +kernel
theorem d_Law_law_517 : decode code 517 = .ok (.aload_n 0, 1) := by decide +kernel
theorem d_Law_law_518 : decode code 518 = .ok (.iload_n 3, 1) := by decide +kernel
theorem d_Law_law_519 : decode code 519 = .ok (.iconst 1, 1) := by decide +kernel
theorem d_Law_law_520 : decode code 520 = .ok (.iadd, 1) := by decide +kernel
theorem d_Law_law_521 : decode code 521 = .ok (.iaload, 1) := by decide +kernel
theorem d_Law_law_522 : decode code 522 = .ok (.aload_n 0, 1) := by decide +kernel
theorem d_Law_law_523 : decode code 523 = .ok (.iload_n 3, 1) := by decide +kernel
theorem d_Law_law_524 : decode code 524 = .ok (.iconst 2, 1) := by decide +kernel
theorem d_Law_law_525 : decode code 525 = .ok (.iadd, 1) := by decide +kernel
theorem d_Law_law_526 : decode code 526 = .ok (.iaload, 1) := by decide +kernel
theorem d_Law_law_527 : decode code 527 = .ok (.invokevirtual 68, 3) := by decide +kernel
theorem d_Law_law_530 : decode code 530 = .ok (.if_icmp .eq 212, 3) := by decide +kernel
theorem d_Law_law_533 : decode code 533 = .ok (.iconst 0, 1) := by decide +kernel
theorem d_Law_law_534 : decode code 534 = .ok (.ireturn, 1) := by decide +kernel
theorem d_Law_law_535 : decode code 535 = .ok (.aload_n 1, 1) := by decide +kernel
theorem d_Law_law_536 : decode code 536 = .ok (.aload_n 0, 1) := by decide +kernel
theorem d_Law_law_537 : decode code 537 = .ok (.iload_n 3, 1) := by decide +kernel
theorem d_Law_law_538 : decode code 538 = .ok (.iconst 1, 1) := by decide +kernel
theorem d_Law_law_539 : decode code 539 = .ok (.iadd, 1) := by decide +kernel
theorem d_Law_law_540 : decode code 540 = .ok (.iaload, 1) := by decide +kernel
theorem d_Law_law_541 : decode code 541 = .ok (.aload_n 0, 1) := by decide +kernel
theorem d_Law_law_542 : decode code 542 = .ok (.iload_n 3, 1) := by decide +kernel
theorem d_Law_law_543 : decode code 543 = .ok (.iconst 2, 1) := by decide +kernel
theorem d_Law_law_544 : decode code 544 = .ok (.iadd, 1) := by decide +kernel
theorem d_Law_law_545 : decode code 545 = .ok (.iaload, 1) := by decide +kernel
theorem d_Law_law_546 : decode code 546 = .ok (.invokevirtual 69, 3) := by decide +kernel
theorem d_Law_law_549 : decode code 549 = .ok (.aload_n 2, 1) := by decide +kernel
theorem d_Law_law_550 : decode code 550 = .ok (.aload_n 0, 1) := by decide +kernel
theorem d_Law_law_551 : decode code 551 = .ok (.iload_n 3, 1) := by decide +kernel
theorem d_Law_law_552 : decode code 552 = .ok (.iconst 1, 1) := by decide +kernel
theorem d_Law_law_553 : decode code 553 = .ok (.iadd, 1) := by decide +kernel
theorem d_Law_law_554 : decode code 554 = .ok (.iaload, 1) := by decide +kernel
theorem d_Law_law_555 : decode code 555 = .ok (.aload_n 0, 1) := by decide +kernel
theorem d_Law_law_556 : decode code 556 = .ok (.iload_n 3, 1) := by decide +kernel
theorem d_Law_law_557 : decode code 557 = .ok (.iconst 2, 1) := by decide +kernel
theorem d_Law_law_558 : decode code 558 = .ok (.iadd, 1) := by decide +kernel
theorem d_Law_law_559 : decode code 559 = .ok (.iaload, 1) := by decide +kernel
theorem d_Law_law_560 : decode code 560 = .ok (.invokevirtual 72, 3) := by decide +kernel
theorem d_Law_law_563 : decode code 563 = .ok (.if_icmp .eq 179, 3) := by decide +kernel
theorem d_Law_law_566 : decode code 566 = .ok (.iconst 0, 1) := by decide +kernel
theorem d_Law_law_567 : decode code 567 = .ok (.ireturn, 1) := by decide +kernel
theorem d_Law_law_568 : decode code 568 = .ok (.aload_n 1, 1) := by decide +kernel
theorem d_Law_law_569 : decode code 569 = .ok (.aload_n 0, 1) := by decide +kernel
theorem d_Law_law_570 : decode code 570 = .ok (.iload_n 3, 1) := by decide +kernel
theorem d_Law_law_571 : decode code 571 = .ok (.iconst 1, 1) := by decide +kernel
theorem d_Law_law_572 : decode code 572 = .ok (.iadd, 1) := by decide +kernel
theorem d_Law_law_573 : decode code 573 = .ok (.iaload, 1) := by decide +kernel
theorem d_Law_law_574 : decode code 574 = .ok (.invokevirtual 73, 3) := by decide +kernel
theorem d_Law_law_577 : decode code 577 = .ok (.aload_n 2, 1) := by decide +kernel
theorem d_Law_law_578 : decode code 578 = .ok (.aload_n 0, 1) := by decide +kernel
theorem d_Law_law_579 : decode code 579 = .ok (.iload_n 3, 1) := by decide +kernel
theorem d_Law_law_580 : decode code 580 = .ok (.iconst 1, 1) := by decide +kernel
theorem d_Law_law_581 : decode code 581 = .ok (.iadd, 1) := by decide +kernel
theorem d_Law_law_582 : decode code 582 = .ok (.iaload, 1) := by decide +kernel
theorem d_Law_law_583 : decode code 583 = .ok (.invokevirtual 76, 3) := by decide +kernel
theorem d_Law_law_586 : decode code 586 = .ok (.if_icmp .eq 156, 3) := by decide +kernel
theorem d_Law_law_589 : decode code 589 = .ok (.iconst 0, 1) := by decide +kernel
theorem d_Law_law_590 : decode code 590 = .ok (.ireturn, 1) := by decide +kernel
theorem d_Law_law_591 : decode code 591 = .ok (.aload_n 1, 1) := by decide +kernel
theorem d_Law_law_592 : decode code 592 = .ok (.invokevirtual 77, 3) := by decide +kernel
theorem d_Law_law_595 : decode code 595 = .ok (.aload_n 2, 1) := by decide +kernel
theorem d_Law_law_596 : decode code 596 = .ok (.invokevirtual 80, 3) := by decide +kernel
theorem d_Law_law_599 : decode code 599 = .ok (.if_icmp .eq 143, 3) := by decide +kernel
theorem d_Law_law_602 : decode code 602 = .ok (.iconst 0, 1) := by decide +kernel
theorem d_Law_law_603 : decode code 603 = .ok (.ireturn, 1) := by decide +kernel
theorem d_Law_law_604 : decode code 604 = .ok (.aload_n 1, 1) := by decide +kernel
theorem d_Law_law_605 : decode code 605 = .ok (.invokevirtual 81, 3) := by decide +kernel
theorem d_Law_law_608 : decode code 608 = .ok (.aload_n 2, 1) := by decide +kernel
theorem d_Law_law_609 : decode code 609 = .ok (.invokevirtual 84, 3) := by decide +kernel
theorem d_Law_law_612 : decode code 612 = .ok (.if_icmp .eq 130, 3) := by decide +kernel
theorem d_Law_law_615 : decode code 615 = .ok (.iconst 0, 1) := by decide +kernel
theorem d_Law_law_616 : decode code 616 = .ok (.ireturn, 1) := by decide +kernel
theorem d_Law_law_617 : decode code 617 = .ok (.aload_n 1, 1) := by decide +kernel
theorem d_Law_law_618 : decode code 618 = .ok (.aload_n 0, 1) := by decide +kernel
theorem d_Law_law_619 : decode code 619 = .ok (.iload_n 3, 1) := by decide +kernel
theorem d_Law_law_620 : decode code 620 = .ok (.iconst 1, 1) := by decide +kernel
theorem d_Law_law_621 : decode code 621 = .ok (.iadd, 1) := by decide +kernel
theorem d_Law_law_622 : decode code 622 = .ok (.iaload, 1) := by decide +kernel
theorem d_Law_law_623 : decode code 623 = .ok (.aload_n 0, 1) := by decide +kernel
theorem d_Law_law_624 : decode code 624 = .ok (.iload_n 3, 1) := by decide +kernel
theorem d_Law_law_625 : decode code 625 = .ok (.iconst 2, 1) := by decide +kernel
theorem d_Law_law_626 : decode code 626 = .ok (.iadd, 1) := by decide +kernel
theorem d_Law_law_627 : decode code 627 = .ok (.iaload, 1) := by decide +kernel
theorem d_Law_law_628 : decode code 628 = .ok (.invokevirtual 85, 3) := by decide +kernel
theorem d_Law_law_631 : decode code 631 = .ok (.aload_n 2, 1) := by decide +kernel
theorem d_Law_law_632 : decode code 632 = .ok (.aload_n 0, 1) := by decide +kernel
theorem d_Law_law_633 : decode code 633 = .ok (.iload_n 3, 1) := by decide +kernel
theorem d_Law_law_634 : decode code 634 = .ok (.iconst 1, 1) := by decide +kernel
theorem d_Law_law_635 : decode code 635 = .ok (.iadd, 1) := by decide +kernel
theorem d_Law_law_636 : decode code 636 = .ok (.iaload, 1) := by decide +kernel
theorem d_Law_law_637 : decode code 637 = .ok (.aload_n 0, 1) := by decide +kernel
theorem d_Law_law_638 : decode code 638 = .ok (.iload_n 3, 1) := by decide +kernel
theorem d_Law_law_639 : decode code 639 = .ok (.iconst 2, 1) := by decide +kernel
theorem d_Law_law_640 : decode code 640 = .ok (.iadd, 1) := by decide +kernel
theorem d_Law_law_641 : decode code 641 = .ok (.iaload, 1) := by decide +kernel
theorem d_Law_law_642 : decode code 642 = .ok (.invokevirtual 88, 3) := by decide +kernel
theorem d_Law_law_645 : decode code 645 = .ok (.if_icmp .eq 97, 3) := by decide +kernel
theorem d_Law_law_648 : decode code 648 = .ok (.iconst 0, 1) := by decide +kernel
theorem d_Law_law_649 : decode code 649 = .ok (.ireturn, 1) := by decide +kernel
theorem d_Law_law_650 : decode code 650 = .ok (.aload_n 1, 1) := by decide +kernel
theorem d_Law_law_651 : decode code 651 = .ok (.aload_n 0, 1) := by decide +kernel
theorem d_Law_law_652 : decode code 652 = .ok (.iload_n 3, 1) := by decide +kernel
theorem d_Law_law_653 : decode code 653 = .ok (.iconst 1, 1) := by decide +kernel
theorem d_Law_law_654 : decode code 654 = .ok (.iadd, 1) := by decide +kernel
theorem d_Law_law_655 : decode code 655 = .ok (.iaload, 1) := by decide +kernel
theorem d_Law_law_656 : decode code 656 = .ok (.invokevirtual 89, 3) := by decide +kernel
theorem d_Law_law_659 : decode code 659 = .ok (.aload_n 2, 1) := by decide +kernel
theorem d_Law_law_660 : decode code 660 = .ok (.aload_n 0, 1) := by decide +kernel
theorem d_Law_law_661 : decode code 661 = .ok (.iload_n 3, 1) := by decide +kernel
theorem d_Law_law_662 : decode code 662 = .ok (.iconst 1, 1) := by decide +kernel
theorem d_Law_law_663 : decode code 663 = .ok (.iadd, 1) := by decide +kernel
theorem d_Law_law_664 : decode code 664 = .ok (.iaload, 1) := by decide +kernel
theorem d_Law_law_665 : decode code 665 = .ok (.invokevirtual 92, 3) := by decide +kernel
theorem d_Law_law_668 : decode code 668 = .ok (.if_icmp .eq 74, 3) := by decide +kernel
theorem d_Law_law_671 : decode code 671 = .ok (.iconst 0, 1) := by decide +kernel
theorem d_Law_law_672 : decode code 672 = .ok (.ireturn, 1) := by decide +kernel
theorem d_Law_law_673 : decode code 673 = .ok (.aload_n 1, 1) := by decide +kernel
theorem d_Law_law_674 : decode code 674 = .ok (.aload_n 0, 1) := by decide +kernel
theorem d_Law_law_675 : decode code 675 = .ok (.iload_n 3, 1) := by decide +kernel
theorem d_Law_law_676 : decode code 676 = .ok (.iconst 1, 1) := by decide +kernel
theorem d_Law_law_677 : decode code 677 = .ok (.iadd, 1) := by decide +kernel
theorem d_Law_law_678 : decode code 678 = .ok (.iaload, 1) := by decide +kernel
theorem d_Law_law_679 : decode code 679 = .ok (.invokevirtual 93, 3) := by decide +kernel
theorem d_Law_law_682 : decode code 682 = .ok (.aload_n 2, 1) := by decide +kernel
theorem d_Law_law_683 : decode code 683 = .ok (.aload_n 0, 1) := by decide +kernel
theorem d_Law_law_684 : decode code 684 = .ok (.iload_n 3, 1) := by decide +kernel
theorem d_Law_law_685 : decode code 685 = .ok (.iconst 1, 1) := by decide +kernel
theorem d_Law_law_686 : decode code 686 = .ok (.iadd, 1) := by decide +kernel
theorem d_Law_law_687 : decode code 687 = .ok (.iaload, 1) := by decide +kernel
theorem d_Law_law_688 : decode code 688 = .ok (.invokevirtual 96, 3) := by decide +kernel
theorem d_Law_law_691 : decode code 691 = .ok (.if_icmp .eq 51, 3) := by decide +kernel
theorem d_Law_law_694 : decode code 694 = .ok (.iconst 0, 1) := by decide +kernel
theorem d_Law_law_695 : decode code 695 = .ok (.ireturn, 1) := by decide +kernel
theorem d_Law_law_696 : decode code 696 = .ok (.aload_n 1, 1) := by decide +kernel
theorem d_Law_law_697 : decode code 697 = .ok (.aload_n 0, 1) := by decide +kernel
theorem d_Law_law_698 : decode code 698 = .ok (.iload_n 3, 1) := by decide +kernel
theorem d_Law_law_699 : decode code 699 = .ok (.iconst 1, 1) := by decide +kernel
theorem d_Law_law_700 : decode code 700 = .ok (.iadd, 1) := by decide +kernel
theorem d_Law_law_701 : decode code 701 = .ok (.iaload, 1) := by decide +kernel
theorem d_Law_law_702 : decode code 702 = .ok (.invokevirtual 97, 3) := by decide +kernel
theorem d_Law_law_705 : decode code 705 = .ok (.aload_n 2, 1) := by decide +kernel
theorem d_Law_law_706 : decode code 706 = .ok (.aload_n 0, 1) := by decide +kernel
theorem d_Law_law_707 : decode code 707 = .ok (.iload_n 3, 1) := by decide +kernel
theorem d_Law_law_708 : decode code 708 = .ok (.iconst 1, 1) := by decide +kernel
theorem d_Law_law_709 : decode code 709 = .ok (.iadd, 1) := by decide +kernel
theorem d_Law_law_710 : decode code 710 = .ok (.iaload, 1) := by decide +kernel
theorem d_Law_law_711 : decode code 711 = .ok (.invokevirtual 100, 3) := by decide +kernel
theorem d_Law_law_714 : decode code 714 = .ok (.if_icmp .eq 28, 3) := by decide +kernel
theorem d_Law_law_717 : decode code 717 = .ok (.iconst 0, 1) := by decide +kernel
theorem d_Law_law_718 : decode code 718 = .ok (.ireturn, 1) := by decide +kernel
theorem d_Law_law_719 : decode code 719 = .ok (.aload_n 1, 1) := by decide +kernel
theorem d_Law_law_720 : decode code 720 = .ok (.aload_n 0, 1) := by decide +kernel
theorem d_Law_law_721 : decode code 721 = .ok (.iload_n 3, 1) := by decide +kernel
theorem d_Law_law_722 : decode code 722 = .ok (.iconst 1, 1) := by decide +kernel
theorem d_Law_law_723 : decode code 723 = .ok (.iadd, 1) := by decide +kernel
theorem d_Law_law_724 : decode code 724 = .ok (.iaload, 1) := by decide +kernel
theorem d_Law_law_725 : decode code 725 = .ok (.invokevirtual 101, 3) := by decide +kernel
theorem d_Law_law_728 : decode code 728 = .ok (.aload_n 2, 1) := by decide +kernel
theorem d_Law_law_729 : decode code 729 = .ok (.aload_n 0, 1) := by decide +kernel
theorem d_Law_law_730 : decode code 730 = .ok (.iload_n 3, 1) := by decide +kernel
theorem d_Law_law_731 : decode code 731 = .ok (.iconst 1, 1) := by decide +kernel
theorem d_Law_law_732 : decode code 732 = .ok (.iadd, 1) := by decide +kernel
theorem d_Law_law_733 : decode code 733 = .ok (.iaload, 1) := by decide +kernel
theorem d_Law_law_734 : decode code 734 = .ok (.invokevirtual 104, 3) := by decide +kernel
theorem d_Law_law_737 : decode code 737 = .ok (.if_icmp .eq 5, 3) := by decide +kernel
theorem d_Law_law_740 : decode code 740 = .ok (.iconst 0, 1) := by decide +kernel
theorem d_Law_law_741 : decode code 741 = .ok (.ireturn, 1) := by decide +kernel
theorem d_Law_law_742 : decode code 742 = .ok (.iinc 3 4, 3) := by decide +kernel
theorem d_Law_law_745 : decode code 745 = .ok (.goto (-727), 3) := by decide +kernel
theorem d_Law_law_748 : decode code 748 = .ok (.iconst 1, 1) := by decide +kernel
theorem d_Law_law_749 : decode code 749 = .ok (.ireturn, 1) := by decide +kernel
